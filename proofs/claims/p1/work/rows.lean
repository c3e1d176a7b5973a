section
/-! ===== a run of bytecode over signs: ints that are known, or a number that the run names, and a bit more; cells by their places ===== -/
abbrev zI : Type := Option Int32 ⊕ (Nat × Int32)
abbrev zV : Type := zI ⊕ (Option Nat ⊕ Unit)
abbrev zC : Type := (Nat × List zV) ⊕ ((Nat × List zI) ⊕ (Nat ⊕ (Nat × List (Option Nat))))
abbrev zW : Type := List zC
/-- locals, stack, cells, how many cells and slots were made -/
abbrev zS : Type := List (Nat × zV) × List zV × zW × Nat × Nat
def z_i (env : Nat → Int32) (t : zI) (x : Int32) : Prop := match t with
  | .inl (some c) => x = c
  | .inl none => True
  | .inr (i, c) => x = env i + c
def z_v (env : Nat → Int32) (ad : Nat → Option Nat) (t : zV) (v : Value) : Prop := match t with
  | .inl t => ∃ x : Int32, v = .int x ∧ z_i env t x
  | .inr (.inl none) => v = .null
  | .inr (.inl (some i)) => ∃ a : Nat, ad i = some a ∧ v = .ref a
  | .inr (.inr _) => ∃ x : Int64, v = .long x
def z_o (ad : Nat → Option Nat) (t : Option Nat) (v : Option Nat) : Prop := match t with
  | none => v = none
  | some i => ∃ a : Nat, ad i = some a ∧ v = some a
def z_L {α β : Type} (R : α → β → Prop) : List α → List β → Prop
  | [], [] => True
  | a :: as, b :: bs => R a b ∧ z_L R as bs
  | _, _ => False
def z_c (env : Nat → Int32) (kc : Nat → ClassId) (ad : Nat → Option Nat) (t : zC) (q : va_E) : Prop := match t with
  | .inl (ci, fs) => ∃ vs : List Value, q = .inr (ci, vs) ∧ z_L (z_v env ad) fs vs
  | .inr (.inl (k, es)) => ∃ f : Nat → Int32, q = .inl (kc k, es.length, .inl f) ∧ ∀ (j : Nat) (x : zI), es[j]? = some x → z_i env x (f j)
  | .inr (.inr (.inl n)) => ∃ f : Nat → Int64, q = .inl (kc 1, n, .inr (.inl f))
  | .inr (.inr (.inr (k, es))) => ∃ f : Nat → Option Nat, q = .inl (kc k, es.length, .inr (.inr (.inr (.inr f)))) ∧ ∀ (j : Nat) (x : Option Nat), es[j]? = some x → z_o ad x (f j)
def z_ad (xb : Nat) (ws : va_W) (i : Nat) : Option Nat := match i with
  | 0 => some xb
  | i + 1 => (ws[i]?).map (fun q => q.1)
def z_w (xb : Nat) (env : Nat → Int32) (kc : Nat → ClassId) (w : zW) (ws : va_W) : Prop := z_L (fun c q => z_c env kc (z_ad xb ws) c q.2) w ws
/-! lists that go side by side -/
theorem z_L_len {α β : Type} {R : α → β → Prop} : ∀ {as : List α} {bs : List β}, z_L R as bs → as.length = bs.length
  | [], [], _ => rfl
  | _ :: _, _ :: _, h => congrArg (· + 1) (z_L_len h.2)
  | [], _ :: _, h => h.elim
  | _ :: _, [], h => h.elim
theorem z_L_get {α β : Type} {R : α → β → Prop} : ∀ {as : List α} {bs : List β}, z_L R as bs → ∀ {k : Nat} {a : α}, as[k]? = some a → ∃ b, bs[k]? = some b ∧ R a b
  | [], [], _, k, a, h => by simp at h
  | a :: as, b :: bs, h, 0, a', e => by
    simp only [List.getElem?_cons_zero, Option.some.injEq] at e ⊢
    subst e
    exact ⟨b, rfl, h.1⟩
  | a :: as, b :: bs, h, k + 1, a', e => by
    simp only [List.getElem?_cons_succ] at e ⊢
    exact z_L_get h.2 e
  | [], _ :: _, h, _, _, _ => h.elim
  | _ :: _, [], h, _, _, _ => h.elim
theorem z_L_mono {α β : Type} {R S : α → β → Prop} (hRS : ∀ a b, R a b → S a b) : ∀ {as : List α} {bs : List β}, z_L R as bs → z_L S as bs
  | [], [], _ => trivial
  | _ :: _, _ :: _, h => ⟨hRS _ _ h.1, z_L_mono hRS h.2⟩
  | [], _ :: _, h => h.elim
  | _ :: _, [], h => h.elim
theorem z_L_set {α β : Type} {R : α → β → Prop} : ∀ {as : List α} {bs : List β}, z_L R as bs → ∀ (k : Nat) {a : α} {b : β}, R a b → z_L R (as.set k a) (bs.set k b)
  | [], [], _, _, _, _, _ => trivial
  | _ :: _, _ :: _, h, 0, _, _, r => ⟨r, h.2⟩
  | _ :: _, _ :: _, h, k + 1, _, _, r => ⟨h.1, z_L_set h.2 k r⟩
  | [], _ :: _, h, _, _, _, _ => h.elim
  | _ :: _, [], h, _, _, _, _ => h.elim
theorem z_L_app {α β : Type} {R : α → β → Prop} : ∀ {as : List α} {bs : List β}, z_L R as bs → ∀ {cs : List α} {ds : List β}, z_L R cs ds → z_L R (as ++ cs) (bs ++ ds)
  | [], [], _, _, _, h => h
  | _ :: _, _ :: _, h, _, _, h2 => ⟨h.1, z_L_app h.2 h2⟩
  | [], _ :: _, h, _, _, _ => h.elim
  | _ :: _, [], h, _, _, _ => h.elim
theorem z_L_filter {α β : Type} {R : α → β → Prop} {p : α → Bool} {q : β → Bool} (hpq : ∀ a b, R a b → p a = q b) : ∀ {as : List α} {bs : List β}, z_L R as bs → z_L R (as.filter p) (bs.filter q)
  | [], [], _ => trivial
  | a :: as, b :: bs, h => by
    have e := hpq a b h.1
    have ih := z_L_filter hpq h.2
    rw [List.filter_cons, List.filter_cons, e]
    cases q b with
    | true => exact ⟨h.1, ih⟩
    | false => exact ih
  | [], _ :: _, h => h.elim
  | _ :: _, [], h => h.elim
/-! addresses that stay -/
theorem z_ad_app {xb : Nat} {ws : va_W} {q : Nat × va_E} {i a : Nat} (h : z_ad xb ws i = some a) : z_ad xb (ws ++ [q]) i = some a := by
  cases i with
  | zero => exact h
  | succ i =>
    unfold z_ad at h ⊢
    dsimp only at h ⊢
    have hi : i < ws.length := by
      rcases Nat.lt_or_ge i ws.length with h1 | h1
      · exact h1
      · rw [List.getElem?_eq_none h1] at h; cases h
    rw [List.getElem?_append_left hi]
    exact h
theorem z_ad_set {xb : Nat} {ws : va_W} {k a : Nat} {e0 e : va_E} (h : ws[k]? = some (a, e0)) : z_ad xb (ws.set k (a, e)) = z_ad xb ws := by
  funext i
  cases i with
  | zero => rfl
  | succ i =>
    unfold z_ad
    dsimp only
    by_cases hk : k = i
    · subst hk
      have hl : k < ws.length := (List.getElem?_eq_some_iff.mp h).1
      rw [List.getElem?_set_self hl, h]
      rfl
    · rw [List.getElem?_set_ne hk]
theorem z_v_mono {env : Nat → Int32} {ad ad' : Nat → Option Nat} (h : ∀ i a, ad i = some a → ad' i = some a) : ∀ (t : zV) (v : Value), z_v env ad t v → z_v env ad' t v
  | .inl _, _, hv => hv
  | .inr (.inl none), _, hv => hv
  | .inr (.inl (some _)), _, ⟨a, h1, h2⟩ => ⟨a, h _ _ h1, h2⟩
  | .inr (.inr _), _, hv => hv
theorem z_o_mono {ad ad' : Nat → Option Nat} (h : ∀ i a, ad i = some a → ad' i = some a) : ∀ (t v : Option Nat), z_o ad t v → z_o ad' t v
  | none, _, hv => hv
  | some _, _, ⟨a, h1, h2⟩ => ⟨a, h _ _ h1, h2⟩
theorem z_c_mono {env : Nat → Int32} {kc : Nat → ClassId} {ad ad' : Nat → Option Nat} (h : ∀ i a, ad i = some a → ad' i = some a) : ∀ (t : zC) (q : va_E), z_c env kc ad t q → z_c env kc ad' t q
  | .inl (_, _), _, ⟨vs, h1, h2⟩ => ⟨vs, h1, z_L_mono (z_v_mono h) h2⟩
  | .inr (.inl (_, _)), _, hv => hv
  | .inr (.inr (.inl _)), _, hv => hv
  | .inr (.inr (.inr (_, _))), _, ⟨f, h1, h2⟩ => ⟨f, h1, fun j x hx => z_o_mono h _ _ (h2 j x hx)⟩
theorem z_w_get {xb : Nat} {env : Nat → Int32} {kc : Nat → ClassId} {w : zW} {ws : va_W} (h : z_w xb env kc w ws) {i : Nat} {c : zC} (hc : w[i]? = some c) : ∃ a e, ws[i]? = some (a, e) ∧ z_ad xb ws (i + 1) = some a ∧ z_c env kc (z_ad xb ws) c e := by
  obtain ⟨⟨a, e⟩, h1, h2⟩ := z_L_get h hc
  exact ⟨a, e, h1, by unfold z_ad; dsimp only; rw [h1]; rfl, h2⟩
theorem z_w_set {xb : Nat} {env : Nat → Int32} {kc : Nat → ClassId} {w : zW} {ws : va_W} (h : z_w xb env kc w ws) {i a : Nat} {e0 e : va_E} {c : zC} (hi : ws[i]? = some (a, e0)) (hc : z_c env kc (z_ad xb ws) c e) : z_w xb env kc (w.set i c) (ws.set i (a, e)) := by
  unfold z_w
  rw [z_ad_set hi]
  exact z_L_set h i hc
theorem z_w_push {xb : Nat} {env : Nat → Int32} {kc : Nat → ClassId} {w : zW} {ws : va_W} (h : z_w xb env kc w ws) {a : Nat} {e : va_E} {c : zC} (hc : z_c env kc (z_ad xb (ws ++ [(a, e)])) c e) : z_w xb env kc (w ++ [c]) (ws ++ [(a, e)]) := by
  unfold z_w
  exact z_L_app (z_L_mono (fun _ _ h1 => z_c_mono (fun _ _ h2 => z_ad_app h2) _ _ h1) h) ⟨hc, trivial⟩
theorem z_ad_new (xb : Nat) (ws : va_W) (a : Nat) (e : va_E) : z_ad xb (ws ++ [(a, e)]) (ws.length + 1) = some a := by
  unfold z_ad
  dsimp only
  rw [List.getElem?_append_right (Nat.le_refl _)]
  simp
/-! locals -/
def z_get : List (Nat × zV) → Nat → Option zV
  | [], _ => none
  | (j, v) :: r, i => if j = i then some v else z_get r i
def z_cat (v : zV) : Nat := match v with
  | .inr (.inr _) => 2
  | _ => 1
def z_put (zl : List (Nat × zV)) (i : Nat) (v : zV) : List (Nat × zV) := (i, v) :: zl.filter (fun q => !(q.1 == i) && !(q.1 + 1 == i && z_cat q.2 == 2))
def z_l (env : Nat → Int32) (ad : Nat → Option Nat) (nL : Nat) (zl : List (Nat × zV)) (ls : Array Slot) : Prop := ∃ lv : List (Nat × Value), lv_has ls nL lv ∧ z_L (fun (a : Nat × zV) (b : Nat × Value) => a.1 = b.1 ∧ z_v env ad a.2 b.2) zl lv
theorem z_get_in {env : Nat → Int32} {ad : Nat → Option Nat} : ∀ {zl : List (Nat × zV)} {lv : List (Nat × Value)}, z_L (fun (a : Nat × zV) (b : Nat × Value) => a.1 = b.1 ∧ z_v env ad a.2 b.2) zl lv → ∀ {i : Nat} {v : zV}, z_get zl i = some v → ∃ x, (i, x) ∈ lv ∧ z_v env ad v x
  | [], [], _, _, _, e => by simp [z_get] at e
  | (j, v) :: zl, (j2, x) :: lv, h, i, v', e => by
    obtain ⟨⟨h1, h2⟩, h3⟩ := h
    dsimp only at h1
    subst h1
    unfold z_get at e
    by_cases hj : j = i
    · rw [if_pos hj] at e
      cases e
      subst hj
      exact ⟨x, List.mem_cons_self, h2⟩
    · rw [if_neg hj] at e
      obtain ⟨y, h4, h5⟩ := z_get_in h3 e
      exact ⟨y, List.mem_cons_of_mem _ h4, h5⟩
  | [], _ :: _, h, _, _, _ => h.elim
  | _ :: _, [], h, _, _, _ => h.elim
theorem z_l_at {env : Nat → Int32} {ad : Nat → Option Nat} {nL : Nat} {zl : List (Nat × zV)} {ls : Array Slot} (h : z_l env ad nL zl ls) {i : Nat} {v : zV} (e : z_get zl i = some v) : ∃ x, ls[i]? = some (.val x) ∧ z_v env ad v x := by
  obtain ⟨lv, h1, h2⟩ := h
  obtain ⟨x, h3, h4⟩ := z_get_in h2 e
  exact ⟨x, h1.2.2 (i, x) h3, h4⟩
theorem z_v_cat {env : Nat → Int32} {ad : Nat → Option Nat} : ∀ {t : zV} {v : Value}, z_v env ad t v → z_cat t = v.category
  | .inl _, _, ⟨_, h, _⟩ => by rw [h]; rfl
  | .inr (.inl none), _, h => by rw [show _ = Value.null from h]; rfl
  | .inr (.inl (some _)), _, ⟨_, _, h⟩ => by rw [h]; rfl
  | .inr (.inr _), _, ⟨_, h⟩ => by rw [h]; rfl
theorem z_put_ok {env : Nat → Int32} {ad : Nat → Option Nat} {zl : List (Nat × zV)} {lv : List (Nat × Value)} (h : z_L (fun (a : Nat × zV) (b : Nat × Value) => a.1 = b.1 ∧ z_v env ad a.2 b.2) zl lv) {i : Nat} {v : zV} {x : Value} (hv : z_v env ad v x) :
    z_L (fun (a : Nat × zV) (b : Nat × Value) => a.1 = b.1 ∧ z_v env ad a.2 b.2) (z_put zl i v) ((i, x) :: lv.filter (fun q => !(q.1 == i) && !(q.1 + 1 == i && q.2.category == 2))) := by
  refine ⟨⟨rfl, hv⟩, z_L_filter ?_ h⟩
  intro a b hab
  rw [hab.1, z_v_cat hab.2]
theorem z_l_mono {env : Nat → Int32} {ad ad' : Nat → Option Nat} {nL : Nat} {zl : List (Nat × zV)} {ls : Array Slot} (hm : ∀ i a, ad i = some a → ad' i = some a) (h : z_l env ad nL zl ls) : z_l env ad' nL zl ls := by
  obtain ⟨lv, h1, h2⟩ := h
  exact ⟨lv, h1, z_L_mono (fun _ _ q => ⟨q.1, z_v_mono hm _ _ q.2⟩) h2⟩
/-! numbers -/
def z_rng (B : List (Int × Int)) (t : zI) : Int × Int := match t with
  | .inl (some c) => (c.toInt, c.toInt)
  | .inl none => (-2147483648, 2147483647)
  | .inr (i, c) => match B[i]? with
    | some (lo, hi) => if -2147483648 ≤ lo + c.toInt ∧ hi + c.toInt ≤ 2147483647 then (lo + c.toInt, hi + c.toInt) else (-2147483648, 2147483647)
    | none => (-2147483648, 2147483647)
def z_B (B : List (Int × Int)) (env : Nat → Int32) : Prop := ∀ (i : Nat) (lo hi : Int), B[i]? = some (lo, hi) → lo ≤ (env i).toInt ∧ (env i).toInt ≤ hi
theorem z_any (x : Int32) : -2147483648 ≤ x.toInt ∧ x.toInt ≤ 2147483647 := by
  have h1 := Int32.le_toInt x
  have h2 := Int32.toInt_lt x
  omega
theorem z_add_toInt {x y : Int32} (h1 : -2147483648 ≤ x.toInt + y.toInt) (h2 : x.toInt + y.toInt ≤ 2147483647) : (x + y).toInt = x.toInt + y.toInt := by
  rw [Int32.toInt_add, Int.bmod_def]
  have : (2 : Nat) ^ 32 = 4294967296 := by decide
  split <;> omega
theorem z_rng_ok {B : List (Int × Int)} {env : Nat → Int32} (hB : z_B B env) {t : zI} {x : Int32} (h : z_i env t x) : (z_rng B t).1 ≤ x.toInt ∧ x.toInt ≤ (z_rng B t).2 := by
  match t, h with
  | .inl (some c), h => rw [show x = c from h]; exact ⟨Int.le_refl _, Int.le_refl _⟩
  | .inl none, _ => exact z_any x
  | .inr (i, c), h =>
    unfold z_rng
    dsimp only
    split
    next lo hi hi' =>
      obtain ⟨h1, h2⟩ := hB i lo hi hi'
      by_cases hc : -2147483648 ≤ lo + c.toInt ∧ hi + c.toInt ≤ 2147483647
      · rw [if_pos hc, show x = env i + c from h, z_add_toInt (by omega) (by omega)]
        exact ⟨by dsimp only; omega, by dsimp only; omega⟩
      · rw [if_neg hc]; exact z_any x
    next => exact z_any x
def z_lt (B : List (Int × Int)) (x y : zI) : Option Bool := if (z_rng B x).2 < (z_rng B y).1 then some true else if (z_rng B y).2 ≤ (z_rng B x).1 then some false else none
def z_eq (B : List (Int × Int)) (x y : zI) : Option Bool := if (z_rng B x).2 < (z_rng B y).1 ∨ (z_rng B y).2 < (z_rng B x).1 then some false else if (z_rng B x).1 = (z_rng B x).2 ∧ (z_rng B y).1 = (z_rng B y).2 ∧ (z_rng B x).1 = (z_rng B y).1 then some true else none
theorem z_lt_ok {B : List (Int × Int)} {env : Nat → Int32} (hB : z_B B env) {x y : zI} {a b : Int32} (ha : z_i env x a) (hb : z_i env y b) {r : Bool} (h : z_lt B x y = some r) : (a < b) ↔ r = true := by
  have h1 := z_rng_ok hB ha
  have h2 := z_rng_ok hB hb
  unfold z_lt at h
  rw [Int32.lt_iff_toInt_lt]
  split at h
  next => cases h; simp; omega
  next =>
    split at h
    next => cases h; simp; omega
    next => cases h
theorem z_eq_ok {B : List (Int × Int)} {env : Nat → Int32} (hB : z_B B env) {x y : zI} {a b : Int32} (ha : z_i env x a) (hb : z_i env y b) {r : Bool} (h : z_eq B x y = some r) : (a = b) ↔ r = true := by
  have h1 := z_rng_ok hB ha
  have h2 := z_rng_ok hB hb
  unfold z_eq at h
  rw [← Int32.toInt_inj]
  split at h
  next => cases h; simp; omega
  next =>
    split at h
    next => cases h; simp; omega
    next => cases h
def z_op2 (f : Int32 → Int32 → Int32) (x y : zI) : zI := match x, y with
  | .inl (some a), .inl (some b) => .inl (some (f a b))
  | _, _ => .inl none
theorem z_op2_ok {env : Nat → Int32} (f : Int32 → Int32 → Int32) {x y : zI} {a b : Int32} (ha : z_i env x a) (hb : z_i env y b) : z_i env (z_op2 f x y) (f a b) := by
  match x, y, ha, hb with
  | .inl (some _), .inl (some _), ha, hb => rw [show a = _ from ha, show b = _ from hb]; exact rfl
  | .inl (some _), .inl none, _, _ => trivial
  | .inl (some _), .inr _, _, _ => trivial
  | .inl none, _, _, _ => trivial
  | .inr _, _, _, _ => trivial
/-- + keeps a named number -/
def z_add (x y : zI) : zI := match x, y with
  | .inl (some a), .inl (some b) => .inl (some (a + b))
  | .inr (i, c), .inl (some b) => .inr (i, c + b)
  | _, _ => .inl none
theorem z_add_ok {env : Nat → Int32} {x y : zI} {a b : Int32} (ha : z_i env x a) (hb : z_i env y b) : z_i env (z_add x y) (a + b) := by
  match x, y, ha, hb with
  | .inl (some _), .inl (some _), ha, hb => rw [show a = _ from ha, show b = _ from hb]; exact rfl
  | .inr (i, c), .inl (some d), ha, hb => rw [show a = _ from ha, show b = _ from hb]; exact Int32.add_assoc _ _ _
  | .inl (some _), .inl none, _, _ => trivial
  | .inl (some _), .inr _, _, _ => trivial
  | .inl none, _, _, _ => trivial
  | .inr _, .inl none, _, _ => trivial
  | .inr _, .inr _, _, _ => trivial
/-- & keeps what stands beside -1 -/
def z_and (x y : zI) : zI := match y with
  | .inl (some b) => if b = -1 then x else z_op2 (fun a b => a &&& b) x y
  | _ => z_op2 (fun a b => a &&& b) x y
theorem z_and_ok {env : Nat → Int32} {x y : zI} {a b : Int32} (ha : z_i env x a) (hb : z_i env y b) : z_i env (z_and x y) (a &&& b) := by
  unfold z_and
  split
  next d =>
    split
    next hd =>
      rw [show b = d from hb, hd, Int32.and_neg_one]
      exact ha
    next => exact z_op2_ok _ ha hb
  next => exact z_op2_ok _ ha hb
end
section
/-! ===== the run beside the machine ===== -/
section ZG
variable {p : Program} {l : Launch} {e : Env} {R : Room} {s : State} {m : MethodId} {args : Array Value} {below : List Frame} {meth : Method} {c : Code} {Q : State → Prop} {cc : ByteArray}
variable {xb : Nat} {env : Nat → Int32} {kc : Nat → ClassId} {D : va_G} {cl : List vw_C} {A : Nat → Prop} {H0 : Heap} {ad0 : Nat → Option Nat} {nL : Nat}
/-- the machine's frame, heap and writes beside a state of the run -/
def z_S (xb : Nat) (env : Nat → Int32) (kc : Nat → ClassId) (D : va_G) (cl : List vw_C) (A : Nat → Prop) (H0 : Heap) (ad0 : Nat → Option Nat) (nL : Nat) (z : zS) (ls : Array Slot) (sv : List Value) (ws : va_W) (H : Heap) (locs : List Loc) : Prop :=
  z_l env (z_ad xb ws) nL z.1 ls ∧ z_L (z_v env (z_ad xb ws)) z.2.1 sv ∧ z_w xb env kc z.2.2.1 ws ∧ (∀ i a, ad0 i = some a → z_ad xb ws i = some a) ∧ va_P D cl ws H ∧ va_D A ws ∧ va_S A H0 H locs
def z_G (p : Program) (l : Launch) (e : Env) (R : Room) (s : State) (m : MethodId) (args : Array Value) (below : List Frame) (meth : Method) (c : Code) (Q : State → Prop) (xb : Nat) (env : Nat → Int32) (kc : Nat → ClassId) (D : va_G) (cl : List vw_C) (A : Nat → Prop) (H0 : Heap) (ad0 : Nat → Option Nat) (nL : Nat) (pc : Nat) (z : zS) : Prop :=
  ∀ (ls : Array Slot) (sv : List Value) (ws : va_W) (H : Heap) (locs : List Loc), z_S xb env kc D cl A H0 ad0 nL z ls sv ws H locs → W p l e R s m args below meth c H locs z.2.2.2.1 z.2.2.2.2 Q (F0 m pc ls sv)
theorem z_st1 {R0 : zV → Value → Prop} {a : zV} {r : List zV} {sv : List Value} (h : z_L R0 (a :: r) sv) : ∃ x sv', sv = x :: sv' ∧ R0 a x ∧ z_L R0 r sv' := by
  cases sv with
  | nil => exact h.elim
  | cons x sv' => exact ⟨x, sv', rfl, h.1, h.2⟩
variable {zl : List (Nat × zV)} {st : List zV} {w : zW} {nc ns pc : Nat}
theorem z_iconst (hx : p.tables.exec = Jvm.exec) (hb : c.code = cc) {n : Int} (hd : decode cc pc = .ok (.iconst n, 1)) (kk : z_G p l e R s m args below meth c Q xb env kc D cl A H0 ad0 nL (pc + 1) (zl, .inl (.inl (some (Int32.ofInt n))) :: st, w, nc, ns)) : z_G p l e R s m args below meth c Q xb env kc D cl A H0 ad0 nL pc (zl, st, w, nc, ns) := by
  intro ls sv ws H locs ⟨h1, h2, h3⟩
  refine lv_iconst hx hb hd rfl ?_
  exact kk ls _ ws H locs ⟨h1, ⟨⟨_, rfl, rfl⟩, h2⟩, h3⟩
theorem z_bipush (hx : p.tables.exec = Jvm.exec) (hb : c.code = cc) {n : Int} (hd : decode cc pc = .ok (.bipush n, 2)) (kk : z_G p l e R s m args below meth c Q xb env kc D cl A H0 ad0 nL (pc + 2) (zl, .inl (.inl (some (Int8.ofInt n).toInt32)) :: st, w, nc, ns)) : z_G p l e R s m args below meth c Q xb env kc D cl A H0 ad0 nL pc (zl, st, w, nc, ns) := by
  intro ls sv ws H locs ⟨h1, h2, h3⟩
  refine lv_bipush hx hb hd rfl ?_
  exact kk ls _ ws H locs ⟨h1, ⟨⟨_, rfl, rfl⟩, h2⟩, h3⟩
theorem z_sipush (hx : p.tables.exec = Jvm.exec) (hb : c.code = cc) {n : Int} (hd : decode cc pc = .ok (.sipush n, 3)) (kk : z_G p l e R s m args below meth c Q xb env kc D cl A H0 ad0 nL (pc + 3) (zl, .inl (.inl (some (Int16.ofInt n).toInt32)) :: st, w, nc, ns)) : z_G p l e R s m args below meth c Q xb env kc D cl A H0 ad0 nL pc (zl, st, w, nc, ns) := by
  intro ls sv ws H locs ⟨h1, h2, h3⟩
  refine lv_sipush hx hb hd rfl ?_
  exact kk ls _ ws H locs ⟨h1, ⟨⟨_, rfl, rfl⟩, h2⟩, h3⟩
theorem z_lconst (hx : p.tables.exec = Jvm.exec) (hb : c.code = cc) {n : Fin 2} (hd : decode cc pc = .ok (.lconst n, 1)) (kk : z_G p l e R s m args below meth c Q xb env kc D cl A H0 ad0 nL (pc + 1) (zl, .inr (.inr ()) :: st, w, nc, ns)) : z_G p l e R s m args below meth c Q xb env kc D cl A H0 ad0 nL pc (zl, st, w, nc, ns) := by
  intro ls sv ws H locs ⟨h1, h2, h3⟩
  refine lv_lconst hx hb hd rfl ?_
  exact kk ls _ ws H locs ⟨h1, ⟨⟨_, rfl⟩, h2⟩, h3⟩
theorem z_ldc2 (hx : p.tables.exec = Jvm.exec) (hb : c.code = cc) {own : String} {index : Nat} {v : Int64} (hown : s.vm.findClass own = some m.cls) (hconst : (Jvm.Cond.constantLong own index v).before args s = true) (hd : decode cc pc = .ok (.ldc2_w index, 3)) (kk : z_G p l e R s m args below meth c Q xb env kc D cl A H0 ad0 nL (pc + 3) (zl, .inr (.inr ()) :: st, w, nc, ns)) : z_G p l e R s m args below meth c Q xb env kc D cl A H0 ad0 nL pc (zl, st, w, nc, ns) := by
  intro ls sv ws H locs ⟨h1, h2, h3⟩
  refine lv_ldc2 hx hb hown hconst hd ?_
  exact kk ls _ ws H locs ⟨h1, ⟨⟨_, rfl⟩, h2⟩, h3⟩
theorem z_ldc (hx : p.tables.exec = Jvm.exec) (hb : c.code = cc) {own : String} {index : Nat} {v : Int32} (hown : s.vm.findClass own = some m.cls) (hconst : (Jvm.Cond.constant own index v).before args s = true) (hd : decode cc pc = .ok (.ldc index, 2)) (kk : z_G p l e R s m args below meth c Q xb env kc D cl A H0 ad0 nL (pc + 2) (zl, .inl (.inl (some v)) :: st, w, nc, ns)) : z_G p l e R s m args below meth c Q xb env kc D cl A H0 ad0 nL pc (zl, st, w, nc, ns) := by
  intro ls sv ws H locs ⟨h1, h2, h3⟩
  refine lv_ldc hx hb hown hconst hd ?_
  exact kk ls _ ws H locs ⟨h1, ⟨⟨_, rfl, rfl⟩, h2⟩, h3⟩
theorem z_iload (hx : p.tables.exec = Jvm.exec) (hb : c.code = cc) {i : Nat} {t : zI} (hd : decode cc pc = .ok (.iload i, 2)) (hg : z_get zl i = some (.inl t)) (kk : z_G p l e R s m args below meth c Q xb env kc D cl A H0 ad0 nL (pc + 2) (zl, .inl t :: st, w, nc, ns)) : z_G p l e R s m args below meth c Q xb env kc D cl A H0 ad0 nL pc (zl, st, w, nc, ns) := by
  intro ls sv ws H locs ⟨h1, h2, h3⟩
  obtain ⟨x, hx1, y, rfl, hx2⟩ := z_l_at h1 hg
  refine lv_iload hx hb hd hx1 ?_
  exact kk ls _ ws H locs ⟨h1, ⟨⟨_, rfl, hx2⟩, h2⟩, h3⟩
theorem z_iload_n (hx : p.tables.exec = Jvm.exec) (hb : c.code = cc) {k : Fin 4} {t : zI} (hd : decode cc pc = .ok (.iload_n k, 1)) (hg : z_get zl (k : Nat) = some (.inl t)) (kk : z_G p l e R s m args below meth c Q xb env kc D cl A H0 ad0 nL (pc + 1) (zl, .inl t :: st, w, nc, ns)) : z_G p l e R s m args below meth c Q xb env kc D cl A H0 ad0 nL pc (zl, st, w, nc, ns) := by
  intro ls sv ws H locs ⟨h1, h2, h3⟩
  obtain ⟨x, hx1, y, rfl, hx2⟩ := z_l_at h1 hg
  refine lv_iload_n hx hb hd rfl hx1 ?_
  exact kk ls _ ws H locs ⟨h1, ⟨⟨_, rfl, hx2⟩, h2⟩, h3⟩
theorem z_aload (hx : p.tables.exec = Jvm.exec) (hb : c.code = cc) {i r : Nat} (hd : decode cc pc = .ok (.aload i, 2)) (hg : z_get zl i = some (.inr (.inl (some r)))) (kk : z_G p l e R s m args below meth c Q xb env kc D cl A H0 ad0 nL (pc + 2) (zl, .inr (.inl (some r)) :: st, w, nc, ns)) : z_G p l e R s m args below meth c Q xb env kc D cl A H0 ad0 nL pc (zl, st, w, nc, ns) := by
  intro ls sv ws H locs ⟨h1, h2, h3⟩
  obtain ⟨x, hx1, y, hx2, rfl⟩ := z_l_at h1 hg
  refine lv_aload hx hb hd hx1 ?_
  exact kk ls _ ws H locs ⟨h1, ⟨⟨_, hx2, rfl⟩, h2⟩, h3⟩
theorem z_aload_n (hx : p.tables.exec = Jvm.exec) (hb : c.code = cc) {k : Fin 4} {r : Nat} (hd : decode cc pc = .ok (.aload_n k, 1)) (hg : z_get zl (k : Nat) = some (.inr (.inl (some r)))) (kk : z_G p l e R s m args below meth c Q xb env kc D cl A H0 ad0 nL (pc + 1) (zl, .inr (.inl (some r)) :: st, w, nc, ns)) : z_G p l e R s m args below meth c Q xb env kc D cl A H0 ad0 nL pc (zl, st, w, nc, ns) := by
  intro ls sv ws H locs ⟨h1, h2, h3⟩
  obtain ⟨x, hx1, y, hx2, rfl⟩ := z_l_at h1 hg
  refine lv_aload_n hx hb hd rfl hx1 ?_
  exact kk ls _ ws H locs ⟨h1, ⟨⟨_, hx2, rfl⟩, h2⟩, h3⟩
theorem z_istore (hx : p.tables.exec = Jvm.exec) (hb : c.code = cc) {i : Nat} {t : zI} (hd : decode cc pc = .ok (.istore i, 2)) (hn : i < nL) (kk : z_G p l e R s m args below meth c Q xb env kc D cl A H0 ad0 nL (pc + 2) (z_put zl i (.inl t), st, w, nc, ns)) : z_G p l e R s m args below meth c Q xb env kc D cl A H0 ad0 nL pc (zl, .inl t :: st, w, nc, ns) := by
  intro ls sv ws H locs ⟨⟨lv, hl, hz⟩, h2, h3⟩
  obtain ⟨x, sv', rfl, ⟨y, rfl, hy⟩, h4⟩ := z_st1 h2
  refine lv_istore hx hb hd hl hn rfl (fun ls' hl' => ?_)
  exact kk ls' _ ws H locs ⟨⟨_, hl', z_put_ok hz ⟨y, rfl, hy⟩⟩, h4, h3⟩
theorem z_istore_n (hx : p.tables.exec = Jvm.exec) (hb : c.code = cc) {k : Fin 4} {t : zI} (hd : decode cc pc = .ok (.istore_n k, 1)) (hn : (k : Nat) < nL) (kk : z_G p l e R s m args below meth c Q xb env kc D cl A H0 ad0 nL (pc + 1) (z_put zl (k : Nat) (.inl t), st, w, nc, ns)) : z_G p l e R s m args below meth c Q xb env kc D cl A H0 ad0 nL pc (zl, .inl t :: st, w, nc, ns) := by
  intro ls sv ws H locs ⟨⟨lv, hl, hz⟩, h2, h3⟩
  obtain ⟨x, sv', rfl, ⟨y, rfl, hy⟩, h4⟩ := z_st1 h2
  refine lv_istore_n hx hb hd rfl hl hn rfl (fun ls' hl' => ?_)
  exact kk ls' _ ws H locs ⟨⟨_, hl', z_put_ok hz ⟨y, rfl, hy⟩⟩, h4, h3⟩
theorem z_astore (hx : p.tables.exec = Jvm.exec) (hb : c.code = cc) {i r : Nat} (hd : decode cc pc = .ok (.astore i, 2)) (hn : i < nL) (kk : z_G p l e R s m args below meth c Q xb env kc D cl A H0 ad0 nL (pc + 2) (z_put zl i (.inr (.inl (some r))), st, w, nc, ns)) : z_G p l e R s m args below meth c Q xb env kc D cl A H0 ad0 nL pc (zl, .inr (.inl (some r)) :: st, w, nc, ns) := by
  intro ls sv ws H locs ⟨⟨lv, hl, hz⟩, h2, h3⟩
  obtain ⟨x, sv', rfl, ⟨y, hy, rfl⟩, h4⟩ := z_st1 h2
  refine lv_astore hx hb hd hl hn rfl (fun ls' hl' => ?_)
  exact kk ls' _ ws H locs ⟨⟨_, hl', z_put_ok hz ⟨y, hy, rfl⟩⟩, h4, h3⟩
theorem z_astore_n (hx : p.tables.exec = Jvm.exec) (hb : c.code = cc) {k : Fin 4} {r : Nat} (hd : decode cc pc = .ok (.astore_n k, 1)) (hn : (k : Nat) < nL) (kk : z_G p l e R s m args below meth c Q xb env kc D cl A H0 ad0 nL (pc + 1) (z_put zl (k : Nat) (.inr (.inl (some r))), st, w, nc, ns)) : z_G p l e R s m args below meth c Q xb env kc D cl A H0 ad0 nL pc (zl, .inr (.inl (some r)) :: st, w, nc, ns) := by
  intro ls sv ws H locs ⟨⟨lv, hl, hz⟩, h2, h3⟩
  obtain ⟨x, sv', rfl, ⟨y, hy, rfl⟩, h4⟩ := z_st1 h2
  refine lv_astore_n hx hb hd rfl hl hn rfl (fun ls' hl' => ?_)
  exact kk ls' _ ws H locs ⟨⟨_, hl', z_put_ok hz ⟨y, hy, rfl⟩⟩, h4, h3⟩
theorem z_iinc (hx : p.tables.exec = Jvm.exec) (hb : c.code = cc) {i : Nat} {n : Int} {t : zI} (hd : decode cc pc = .ok (.iinc i n, 3)) (hg : z_get zl i = some (.inl t)) (hn : i < nL) (kk : z_G p l e R s m args below meth c Q xb env kc D cl A H0 ad0 nL (pc + 3) (z_put zl i (.inl (z_add t (.inl (some (Int32.ofInt n))))), st, w, nc, ns)) : z_G p l e R s m args below meth c Q xb env kc D cl A H0 ad0 nL pc (zl, st, w, nc, ns) := by
  intro ls sv ws H locs ⟨⟨lv, hl, hz⟩, h2, h3⟩
  obtain ⟨x, hm, y, rfl, hy⟩ := z_get_in hz hg
  obtain ⟨k, hk⟩ := List.getElem?_of_mem hm
  refine lv_iinc hx hb hd hl hk rfl hn rfl (fun ls' hl' => ?_)
  exact kk ls' _ ws H locs ⟨⟨_, hl', z_put_ok hz ⟨_, rfl, z_add_ok hy rfl⟩⟩, h2, h3⟩
theorem z_dup (hx : p.tables.exec = Jvm.exec) (hb : c.code = cc) {t : zV} (hd : decode cc pc = .ok (.dup, 1)) (ht : z_cat t = 1) (kk : z_G p l e R s m args below meth c Q xb env kc D cl A H0 ad0 nL (pc + 1) (zl, t :: t :: st, w, nc, ns)) : z_G p l e R s m args below meth c Q xb env kc D cl A H0 ad0 nL pc (zl, t :: st, w, nc, ns) := by
  intro ls sv ws H locs ⟨h1, h2, h3⟩
  obtain ⟨x, sv', rfl, hv, h4⟩ := z_st1 h2
  refine lv_dup hx hb hd (by rw [← z_v_cat hv]; exact ht) ?_
  exact kk ls _ ws H locs ⟨h1, ⟨hv, hv, h4⟩, h3⟩
theorem z_dup2 (hx : p.tables.exec = Jvm.exec) (hb : c.code = cc) {t u : zV} (hd : decode cc pc = .ok (.dup2, 1)) (ht : z_cat t = 1) (hu : z_cat u = 1) (kk : z_G p l e R s m args below meth c Q xb env kc D cl A H0 ad0 nL (pc + 1) (zl, t :: u :: t :: u :: st, w, nc, ns)) : z_G p l e R s m args below meth c Q xb env kc D cl A H0 ad0 nL pc (zl, t :: u :: st, w, nc, ns) := by
  intro ls sv ws H locs ⟨h1, h2, h3⟩
  obtain ⟨x, sv', rfl, hv, h4⟩ := z_st1 h2
  obtain ⟨y, sv'', rfl, hu', h5⟩ := z_st1 h4
  refine lv_dup2_11 hx hb hd (by rw [← z_v_cat hv]; exact ht) (by rw [← z_v_cat hu']; exact hu) ?_
  exact kk ls _ ws H locs ⟨h1, ⟨hv, hu', hv, hu', h5⟩, h3⟩
theorem z_pop (hx : p.tables.exec = Jvm.exec) (hb : c.code = cc) {t : zV} (hd : decode cc pc = .ok (.pop, 1)) (ht : z_cat t = 1) (kk : z_G p l e R s m args below meth c Q xb env kc D cl A H0 ad0 nL (pc + 1) (zl, st, w, nc, ns)) : z_G p l e R s m args below meth c Q xb env kc D cl A H0 ad0 nL pc (zl, t :: st, w, nc, ns) := by
  intro ls sv ws H locs ⟨h1, h2, h3⟩
  obtain ⟨x, sv', rfl, hv, h4⟩ := z_st1 h2
  refine lv_pop hx hb hd (by rw [← z_v_cat hv]; exact ht) ?_
  exact kk ls _ ws H locs ⟨h1, h4, h3⟩
theorem z_goto (hx : p.tables.exec = Jvm.exec) (hb : c.code = cc) {off : Int} {tgt : Nat} (hd : decode cc pc = .ok (.goto off, 3)) (ht : (pc : Int) + off = (tgt : Int)) (kk : z_G p l e R s m args below meth c Q xb env kc D cl A H0 ad0 nL tgt (zl, st, w, nc, ns)) : z_G p l e R s m args below meth c Q xb env kc D cl A H0 ad0 nL pc (zl, st, w, nc, ns) := by
  intro ls sv ws H locs h
  exact lv_goto hx hb hd ht (kk ls sv ws H locs h)
theorem z_i2l (hx : p.tables.exec = Jvm.exec) (hb : c.code = cc) {t : zI} (hd : decode cc pc = .ok (.i2l, 1)) (kk : z_G p l e R s m args below meth c Q xb env kc D cl A H0 ad0 nL (pc + 1) (zl, .inr (.inr ()) :: st, w, nc, ns)) : z_G p l e R s m args below meth c Q xb env kc D cl A H0 ad0 nL pc (zl, .inl t :: st, w, nc, ns) := by
  intro ls sv ws H locs ⟨h1, h2, h3⟩
  obtain ⟨x, sv', rfl, ⟨y, rfl, hy⟩, h4⟩ := z_st1 h2
  refine lv_i2l hx hb hd rfl ?_
  exact kk ls _ ws H locs ⟨h1, ⟨⟨_, rfl⟩, h4⟩, h3⟩
theorem z_i2b (hx : p.tables.exec = Jvm.exec) (hb : c.code = cc) {t : zI} (hd : decode cc pc = .ok (.i2b, 1)) (kk : z_G p l e R s m args below meth c Q xb env kc D cl A H0 ad0 nL (pc + 1) (zl, .inl (.inl none) :: st, w, nc, ns)) : z_G p l e R s m args below meth c Q xb env kc D cl A H0 ad0 nL pc (zl, .inl t :: st, w, nc, ns) := by
  intro ls sv ws H locs ⟨h1, h2, h3⟩
  obtain ⟨x, sv', rfl, ⟨y, rfl, hy⟩, h4⟩ := z_st1 h2
  refine lv_i2b hx hb hd rfl ?_
  exact kk ls _ ws H locs ⟨h1, ⟨⟨_, rfl, trivial⟩, h4⟩, h3⟩
/-! numbers -/
theorem z_iadd (hx : p.tables.exec = Jvm.exec) (hb : c.code = cc) {x y : zI} (hd : decode cc pc = .ok (.iadd, 1)) (kk : z_G p l e R s m args below meth c Q xb env kc D cl A H0 ad0 nL (pc + 1) (zl, .inl (z_add x y) :: st, w, nc, ns)) : z_G p l e R s m args below meth c Q xb env kc D cl A H0 ad0 nL pc (zl, .inl y :: .inl x :: st, w, nc, ns) := by
  intro ls sv ws H locs ⟨h1, h2, h3⟩
  obtain ⟨_, sv', rfl, ⟨b, rfl, hy⟩, h4⟩ := z_st1 h2
  obtain ⟨_, sv'', rfl, ⟨a, rfl, ha⟩, h5⟩ := z_st1 h4
  refine lv_iadd hx hb hd ?_
  exact kk ls _ ws H locs ⟨h1, ⟨⟨_, rfl, z_add_ok ha hy⟩, h5⟩, h3⟩
theorem z_iand (hx : p.tables.exec = Jvm.exec) (hb : c.code = cc) {x y : zI} (hd : decode cc pc = .ok (.iand, 1)) (kk : z_G p l e R s m args below meth c Q xb env kc D cl A H0 ad0 nL (pc + 1) (zl, .inl (z_and x y) :: st, w, nc, ns)) : z_G p l e R s m args below meth c Q xb env kc D cl A H0 ad0 nL pc (zl, .inl y :: .inl x :: st, w, nc, ns) := by
  intro ls sv ws H locs ⟨h1, h2, h3⟩
  obtain ⟨_, sv', rfl, ⟨b, rfl, hy⟩, h4⟩ := z_st1 h2
  obtain ⟨_, sv'', rfl, ⟨a, rfl, ha⟩, h5⟩ := z_st1 h4
  refine lv_iand hx hb hd ?_
  exact kk ls _ ws H locs ⟨h1, ⟨⟨_, rfl, z_and_ok ha hy⟩, h5⟩, h3⟩
theorem z_isub (hx : p.tables.exec = Jvm.exec) (hb : c.code = cc) {x y : zI} (hd : decode cc pc = .ok (.isub, 1)) (kk : z_G p l e R s m args below meth c Q xb env kc D cl A H0 ad0 nL (pc + 1) (zl, .inl (z_op2 (fun a b => a - b) x y) :: st, w, nc, ns)) : z_G p l e R s m args below meth c Q xb env kc D cl A H0 ad0 nL pc (zl, .inl y :: .inl x :: st, w, nc, ns) := by
  intro ls sv ws H locs ⟨h1, h2, h3⟩
  obtain ⟨_, sv', rfl, ⟨b, rfl, hy⟩, h4⟩ := z_st1 h2
  obtain ⟨_, sv'', rfl, ⟨a, rfl, ha⟩, h5⟩ := z_st1 h4
  refine lv_isub hx hb hd ?_
  exact kk ls _ ws H locs ⟨h1, ⟨⟨_, rfl, z_op2_ok (fun a b => a - b) ha hy⟩, h5⟩, h3⟩
theorem z_imul (hx : p.tables.exec = Jvm.exec) (hb : c.code = cc) {x y : zI} (hd : decode cc pc = .ok (.imul, 1)) (kk : z_G p l e R s m args below meth c Q xb env kc D cl A H0 ad0 nL (pc + 1) (zl, .inl (z_op2 (fun a b => a * b) x y) :: st, w, nc, ns)) : z_G p l e R s m args below meth c Q xb env kc D cl A H0 ad0 nL pc (zl, .inl y :: .inl x :: st, w, nc, ns) := by
  intro ls sv ws H locs ⟨h1, h2, h3⟩
  obtain ⟨_, sv', rfl, ⟨b, rfl, hy⟩, h4⟩ := z_st1 h2
  obtain ⟨_, sv'', rfl, ⟨a, rfl, ha⟩, h5⟩ := z_st1 h4
  refine lv_imul hx hb hd ?_
  exact kk ls _ ws H locs ⟨h1, ⟨⟨_, rfl, z_op2_ok (fun a b => a * b) ha hy⟩, h5⟩, h3⟩
theorem z_ior (hx : p.tables.exec = Jvm.exec) (hb : c.code = cc) {x y : zI} (hd : decode cc pc = .ok (.ior, 1)) (kk : z_G p l e R s m args below meth c Q xb env kc D cl A H0 ad0 nL (pc + 1) (zl, .inl (z_op2 (fun a b => a ||| b) x y) :: st, w, nc, ns)) : z_G p l e R s m args below meth c Q xb env kc D cl A H0 ad0 nL pc (zl, .inl y :: .inl x :: st, w, nc, ns) := by
  intro ls sv ws H locs ⟨h1, h2, h3⟩
  obtain ⟨_, sv', rfl, ⟨b, rfl, hy⟩, h4⟩ := z_st1 h2
  obtain ⟨_, sv'', rfl, ⟨a, rfl, ha⟩, h5⟩ := z_st1 h4
  refine lv_ior hx hb hd ?_
  exact kk ls _ ws H locs ⟨h1, ⟨⟨_, rfl, z_op2_ok (fun a b => a ||| b) ha hy⟩, h5⟩, h3⟩
theorem z_ixor (hx : p.tables.exec = Jvm.exec) (hb : c.code = cc) {x y : zI} (hd : decode cc pc = .ok (.ixor, 1)) (kk : z_G p l e R s m args below meth c Q xb env kc D cl A H0 ad0 nL (pc + 1) (zl, .inl (z_op2 (fun a b => a ^^^ b) x y) :: st, w, nc, ns)) : z_G p l e R s m args below meth c Q xb env kc D cl A H0 ad0 nL pc (zl, .inl y :: .inl x :: st, w, nc, ns) := by
  intro ls sv ws H locs ⟨h1, h2, h3⟩
  obtain ⟨_, sv', rfl, ⟨b, rfl, hy⟩, h4⟩ := z_st1 h2
  obtain ⟨_, sv'', rfl, ⟨a, rfl, ha⟩, h5⟩ := z_st1 h4
  refine lv_ixor hx hb hd ?_
  exact kk ls _ ws H locs ⟨h1, ⟨⟨_, rfl, z_op2_ok (fun a b => a ^^^ b) ha hy⟩, h5⟩, h3⟩
theorem z_ishl (hx : p.tables.exec = Jvm.exec) (hb : c.code = cc) {x y : zI} (hd : decode cc pc = .ok (.ishl, 1)) (kk : z_G p l e R s m args below meth c Q xb env kc D cl A H0 ad0 nL (pc + 1) (zl, .inl (z_op2 (fun a b => a <<< (b &&& 31)) x y) :: st, w, nc, ns)) : z_G p l e R s m args below meth c Q xb env kc D cl A H0 ad0 nL pc (zl, .inl y :: .inl x :: st, w, nc, ns) := by
  intro ls sv ws H locs ⟨h1, h2, h3⟩
  obtain ⟨_, sv', rfl, ⟨b, rfl, hy⟩, h4⟩ := z_st1 h2
  obtain ⟨_, sv'', rfl, ⟨a, rfl, ha⟩, h5⟩ := z_st1 h4
  refine lv_ishl hx hb hd ?_
  exact kk ls _ ws H locs ⟨h1, ⟨⟨_, rfl, z_op2_ok (fun a b => a <<< (b &&& 31)) ha hy⟩, h5⟩, h3⟩
theorem z_ishr (hx : p.tables.exec = Jvm.exec) (hb : c.code = cc) {x y : zI} (hd : decode cc pc = .ok (.ishr, 1)) (kk : z_G p l e R s m args below meth c Q xb env kc D cl A H0 ad0 nL (pc + 1) (zl, .inl (z_op2 (fun a b => a >>> (b &&& 31)) x y) :: st, w, nc, ns)) : z_G p l e R s m args below meth c Q xb env kc D cl A H0 ad0 nL pc (zl, .inl y :: .inl x :: st, w, nc, ns) := by
  intro ls sv ws H locs ⟨h1, h2, h3⟩
  obtain ⟨_, sv', rfl, ⟨b, rfl, hy⟩, h4⟩ := z_st1 h2
  obtain ⟨_, sv'', rfl, ⟨a, rfl, ha⟩, h5⟩ := z_st1 h4
  refine lv_ishr hx hb hd ?_
  exact kk ls _ ws H locs ⟨h1, ⟨⟨_, rfl, z_op2_ok (fun a b => a >>> (b &&& 31)) ha hy⟩, h5⟩, h3⟩
theorem z_iushr (hx : p.tables.exec = Jvm.exec) (hb : c.code = cc) {x y : zI} (hd : decode cc pc = .ok (.iushr, 1)) (kk : z_G p l e R s m args below meth c Q xb env kc D cl A H0 ad0 nL (pc + 1) (zl, .inl (.inl none) :: st, w, nc, ns)) : z_G p l e R s m args below meth c Q xb env kc D cl A H0 ad0 nL pc (zl, .inl y :: .inl x :: st, w, nc, ns) := by
  intro ls sv ws H locs ⟨h1, h2, h3⟩
  obtain ⟨_, sv', rfl, ⟨b, rfl, hy⟩, h4⟩ := z_st1 h2
  obtain ⟨_, sv'', rfl, ⟨a, rfl, ha⟩, h5⟩ := z_st1 h4
  refine lv_iushr hx hb hd rfl ?_
  exact kk ls _ ws H locs ⟨h1, ⟨⟨_, rfl, trivial⟩, h5⟩, h3⟩
/-! branches -/
def z_cond (B : List (Int × Int)) (k : Jvm.ClassFile.Cond) (x y : zI) : Option Bool := match k with
  | .eq => z_eq B x y
  | .ne => (z_eq B x y).map (fun b => !b)
  | .lt => z_lt B x y
  | .ge => (z_lt B x y).map (fun b => !b)
  | .gt => z_lt B y x
  | .le => (z_lt B y x).map (fun b => !b)
theorem z_le_not {a b : Int32} : a ≤ b ↔ ¬ b < a := by
  rw [Int32.le_iff_toInt_le, Int32.lt_iff_toInt_lt]
  omega
theorem z_icmp (hx : p.tables.exec = Jvm.exec) (hb : c.code = cc) {B : List (Int × Int)} (hB : z_B B env) {k : Jvm.ClassFile.Cond} {off : Int} {tgt : Nat} {x y : zI} {r : Bool} (hd : decode cc pc = .ok (.if_icmp k off, 3)) (ht : (pc : Int) + off = (tgt : Int)) (hr : z_cond B k x y = some r) (kk : z_G p l e R s m args below meth c Q xb env kc D cl A H0 ad0 nL (if r then tgt else pc + 3) (zl, st, w, nc, ns)) : z_G p l e R s m args below meth c Q xb env kc D cl A H0 ad0 nL pc (zl, .inl y :: .inl x :: st, w, nc, ns) := by
  intro ls sv ws H locs ⟨h1, h2, h3⟩
  obtain ⟨_, sv', rfl, ⟨b, rfl, hy⟩, h4⟩ := z_st1 h2
  obtain ⟨_, sv'', rfl, ⟨a, rfl, ha⟩, h5⟩ := z_st1 h4
  have kk := kk ls sv'' ws H locs ⟨h1, h5, h3⟩
  cases k with
  | eq =>
    have he := z_eq_ok hB ha hy hr
    refine lv_icmp_eq hx hb hd ht (fun h => ?_) (fun h => ?_)
    · rw [if_pos (he.mp h)] at kk; exact kk
    · rw [if_neg (fun q => h (he.mpr q))] at kk; exact kk
  | ne =>
    obtain ⟨b0, hb0, rfl⟩ := Option.map_eq_some_iff.mp hr
    have he := z_eq_ok hB ha hy hb0
    refine lv_icmp_ne hx hb hd ht (fun h => ?_) (fun h => ?_)
    · rw [if_pos (by cases b0 with | true => exact absurd (he.mpr rfl) h | false => rfl)] at kk; exact kk
    · rw [if_neg (by rw [he.mp h]; decide)] at kk; exact kk
  | lt =>
    have he := z_lt_ok hB ha hy hr
    refine lv_icmp_lt hx hb hd ht (fun h => ?_) (fun h => ?_)
    · rw [if_pos (he.mp h)] at kk; exact kk
    · rw [if_neg (fun q => h (he.mpr q))] at kk; exact kk
  | ge =>
    obtain ⟨b0, hb0, rfl⟩ := Option.map_eq_some_iff.mp hr
    have he := z_lt_ok hB ha hy hb0
    refine lv_icmp_ge hx hb hd ht (fun h => ?_) (fun h => ?_)
    · rw [if_pos (by cases b0 with | true => exact absurd (he.mpr rfl) (z_le_not.mp h) | false => rfl)] at kk; exact kk
    · rw [if_neg (by cases b0 with | true => decide | false => exact absurd (z_le_not.mpr (fun q => by have := he.mp q; cases this)) h)] at kk; exact kk
  | gt =>
    have he := z_lt_ok hB hy ha hr
    refine lv_icmp_gt hx hb hd ht (fun h => ?_) (fun h => ?_)
    · rw [if_pos (he.mp h)] at kk; exact kk
    · rw [if_neg (fun q => h (he.mpr q))] at kk; exact kk
  | le =>
    obtain ⟨b0, hb0, rfl⟩ := Option.map_eq_some_iff.mp hr
    have he := z_lt_ok hB hy ha hb0
    refine lv_icmp_le hx hb hd ht (fun h => ?_) (fun h => ?_)
    · rw [if_pos (by cases b0 with | true => exact absurd (he.mpr rfl) (z_le_not.mp h) | false => rfl)] at kk; exact kk
    · rw [if_neg (by cases b0 with | true => decide | false => exact absurd (z_le_not.mpr (fun q => by have := he.mp q; cases this)) h)] at kk; exact kk
theorem z_if (hx : p.tables.exec = Jvm.exec) (hb : c.code = cc) {B : List (Int × Int)} (hB : z_B B env) {k : Jvm.ClassFile.Cond} {off : Int} {tgt : Nat} {x : zI} {r : Bool} (hd : decode cc pc = .ok (.ifCond k off, 3)) (ht : (pc : Int) + off = (tgt : Int)) (hr : z_cond B k x (.inl (some 0)) = some r) (kk : z_G p l e R s m args below meth c Q xb env kc D cl A H0 ad0 nL (if r then tgt else pc + 3) (zl, st, w, nc, ns)) : z_G p l e R s m args below meth c Q xb env kc D cl A H0 ad0 nL pc (zl, .inl x :: st, w, nc, ns) := by
  intro ls sv ws H locs ⟨h1, h2, h3⟩
  obtain ⟨_, sv', rfl, ⟨a, rfl, ha⟩, h4⟩ := z_st1 h2
  have kk := kk ls sv' ws H locs ⟨h1, h4, h3⟩
  have hy : z_i env (.inl (some 0)) 0 := rfl
  cases k with
  | eq =>
    have he := z_eq_ok hB ha hy hr
    refine lv_if_eq hx hb hd ht (fun h => ?_) (fun h => ?_)
    · rw [if_pos (he.mp h)] at kk; exact kk
    · rw [if_neg (fun q => h (he.mpr q))] at kk; exact kk
  | ne =>
    obtain ⟨b0, hb0, rfl⟩ := Option.map_eq_some_iff.mp hr
    have he := z_eq_ok hB ha hy hb0
    refine lv_if_ne hx hb hd ht (fun h => ?_) (fun h => ?_)
    · rw [if_pos (by cases b0 with | true => exact absurd (he.mpr rfl) h | false => rfl)] at kk; exact kk
    · rw [if_neg (by rw [he.mp h]; decide)] at kk; exact kk
  | lt =>
    have he := z_lt_ok hB ha hy hr
    refine lv_if_lt hx hb hd ht (fun h => ?_) (fun h => ?_)
    · rw [if_pos (he.mp h)] at kk; exact kk
    · rw [if_neg (fun q => h (he.mpr q))] at kk; exact kk
  | ge =>
    obtain ⟨b0, hb0, rfl⟩ := Option.map_eq_some_iff.mp hr
    have he := z_lt_ok hB ha hy hb0
    refine lv_if_ge hx hb hd ht (fun h => ?_) (fun h => ?_)
    · rw [if_pos (by cases b0 with | true => exact absurd (he.mpr rfl) (z_le_not.mp h) | false => rfl)] at kk; exact kk
    · rw [if_neg (by cases b0 with | true => decide | false => exact absurd (z_le_not.mpr (fun q => by have := he.mp q; cases this)) h)] at kk; exact kk
  | gt =>
    have he := z_lt_ok hB hy ha hr
    refine lv_if_gt hx hb hd ht (fun h => ?_) (fun h => ?_)
    · rw [if_pos (he.mp h)] at kk; exact kk
    · rw [if_neg (fun q => h (he.mpr q))] at kk; exact kk
  | le =>
    obtain ⟨b0, hb0, rfl⟩ := Option.map_eq_some_iff.mp hr
    have he := z_lt_ok hB hy ha hb0
    refine lv_if_le hx hb hd ht (fun h => ?_) (fun h => ?_)
    · rw [if_pos (by cases b0 with | true => exact absurd (he.mpr rfl) (z_le_not.mp h) | false => rfl)] at kk; exact kk
    · rw [if_neg (by cases b0 with | true => decide | false => exact absurd (z_le_not.mpr (fun q => by have := he.mp q; cases this)) h)] at kk; exact kk
end ZG
end
section
/-! ===== fields, arrays, new cells ===== -/
def z_TY (kc : Nat → ClassId) : List (ClassId × FieldType) := [(kc 0, .int), (kc 1, .long), (kc 2, .byte), (kc 3, .boolean), (kc 4, .object "HeldCoats$State"), (kc 5, .object "HeldCoats$Image")]
theorem z_same {D : va_G} {cl : List vw_C} {tys : List (ClassId × FieldType)} {s : State} {cA b : ClassId} {ty : FieldType} (hK : va_K D cl (tys ++ [(cA, ty)]) s) {t : Nat} (ht : tys[t]? = some (b, ty)) : cA = b := by
  have h1 := (hK.2 tys.length (cA, ty) (by simp)).2
  have hl : t < tys.length := (List.getElem?_eq_some_iff.mp ht).1
  have h2 := (hK.2 t (b, ty) (by rw [List.getElem?_append_left hl]; exact ht)).2
  cases ty with
  | object C =>
    obtain ⟨_, _, _, _, _, h3⟩ := h1
    obtain ⟨_, _, _, _, _, h4⟩ := h2
    exact Option.some.inj (h3.symm.trans h4)
  | _ => exact Option.some.inj ((show _ = some cA from h1).symm.trans (show _ = some b from h2))
/-- a field's type takes the value as it is -/
def z_fit (ty : FieldType) (v : zV) : Bool := match ty, v with
  | .int, .inl _ => true
  | .boolean, .inl (.inl (some c)) => c == 0 || c == 1
  | .object _, .inr (.inl _) => true
  | .array _, .inr (.inl _) => true
  | .long, .inr (.inr _) => true
  | _, _ => false
theorem z_fit_ok {env : Nat → Int32} {ad : Nat → Option Nat} {ty : FieldType} {v : zV} {x : Value} (h : z_fit ty v = true) (hv : z_v env ad v x) : narrow ty x = x ∧ fits ty x = true := by
  unfold z_fit at h
  split at h
  next => obtain ⟨y, rfl, _⟩ := hv; exact ⟨rfl, rfl⟩
  next c0 =>
    obtain ⟨y, rfl, hy⟩ := hv
    rw [show y = c0 from hy]
    simp only [Bool.or_eq_true, beq_iff_eq] at h
    rcases h with rfl | rfl
    · exact ⟨by decide +kernel, by decide +kernel⟩
    · exact ⟨by decide +kernel, by decide +kernel⟩
  next o =>
    cases o with
    | none => rw [show x = .null from hv]; exact ⟨rfl, rfl⟩
    | some i => obtain ⟨a, _, rfl⟩ := hv; exact ⟨rfl, rfl⟩
  next o =>
    cases o with
    | none => rw [show x = .null from hv]; exact ⟨rfl, rfl⟩
    | some i => obtain ⟨a, _, rfl⟩ := hv; exact ⟨rfl, rfl⟩
  next => obtain ⟨y, rfl⟩ := hv; exact ⟨rfl, rfl⟩
  next => cases h
/-- a known place in a row of n -/
def z_ix (B : List (Int × Int)) (t : zI) (n : Nat) : Option Nat := if (z_rng B t).1 = (z_rng B t).2 ∧ 0 ≤ (z_rng B t).1 ∧ (z_rng B t).1 < (n : Int) then some (z_rng B t).1.toNat else none
theorem z_ix_ok {B : List (Int × Int)} {env : Nat → Int32} (hB : z_B B env) {t : zI} {x : Int32} {n k : Nat} (h : z_i env t x) (e : z_ix B t n = some k) : vp_in x n ∧ x.toNatClampNeg = k ∧ k < n := by
  have h1 := z_rng_ok hB h
  unfold z_ix at e
  split at e
  next hc =>
    have e := Option.some.inj e
    have hx : x.toInt = (k : Int) := by omega
    have hk : k < n := by omega
    refine ⟨vp_in_iff.mpr ⟨by omega, by omega⟩, ?_, hk⟩
    have : x.toNatClampNeg = x.toInt.toNat := rfl
    rw [this, hx]
    rfl
  next => cases e
section ZH
variable {p : Program} {l : Launch} {e : Env} {R : Room} {s : State} {m : MethodId} {args : Array Value} {below : List Frame} {meth : Method} {c : Code} {Q : State → Prop} {cc : ByteArray}
variable {xb : Nat} {env : Nat → Int32} {kc : Nat → ClassId} {D : va_G} {cl : List vw_C} {A : Nat → Prop} {H0 : Heap} {ad0 : Nat → Option Nat} {nL : Nat}
variable {zl : List (Nat × zV)} {st : List zV} {w : zW} {nc ns pc : Nat} {tys : List (ClassId × FieldType)}
theorem z_getf (hx : p.tables.exec = Jvm.exec) (hb : c.code = cc) {own C : String} {T : u_T} {N ci k index r : Nat} {Ts : List Cond} {fs : List zV} {v : zV} (hts : ∀ w ∈ Ts, w.before args s = true) (hin : ∀ w ∈ u_ws C T N, w ∈ Ts) (hown : s.vm.findClass own = some m.cls) (hK : va_K D cl tys s) (hc : cl[ci]? = some (C, T, N)) (hk : k < N) (hlink : (Cond.fieldLink own index (T k).1 (T k).2.1 (T k).2.2.1) ∈ Ts) (hd : decode cc pc = .ok (.getfield index, 3))
    (hw : w[r]? = some (.inl (ci, fs))) (hv : fs[k]? = some v) (kk : z_G p l e R s m args below meth c Q xb env kc D cl A H0 ad0 nL (pc + 3) (zl, v :: st, w, nc, ns)) : z_G p l e R s m args below meth c Q xb env kc D cl A H0 ad0 nL pc (zl, .inr (.inl (some (r + 1))) :: st, w, nc, ns) := by
  intro ls sv ws H locs ⟨h1, h2, h3, h6, hP, hD, hS⟩
  obtain ⟨_, sv', rfl, ⟨a, ha, rfl⟩, h4⟩ := z_st1 h2
  obtain ⟨a', e', hws, ha', vs, rfl, hvs⟩ := z_w_get h3 hw
  obtain rfl : a = a' := Option.some.inj (ha.symm.trans ha')
  obtain ⟨b, hb1, hb2⟩ := z_L_get hvs hv
  refine va_get hx hb hts hin hown hK hP r hws hc k hk (hts _ hlink) (fun _ h => h) hb1 hd ?_
  exact kk ls _ ws H locs ⟨h1, ⟨hb2, h4⟩, h3, h6, hP, hD, hS⟩
theorem z_putf (hx : p.tables.exec = Jvm.exec) (hb : c.code = cc) {own C : String} {T : u_T} {N ci k index r : Nat} {Ts : List Cond} {fs : List zV} {v : zV} {ty0 : Nat → FieldType} (hts : ∀ w ∈ Ts, w.before args s = true) (hin : ∀ w ∈ u_ws C T N, w ∈ Ts) (hty : ∀ k, k < N → parseFieldDescriptor (T k).2.2.1 = some (ty0 k)) (hnm : ∀ a, a < N → ∀ b, b < N → a ≠ b → (T a).2.1 ≠ (T b).2.1) (hown : s.vm.findClass own = some m.cls) (hK : va_K D cl tys s) (hc : cl[ci]? = some (C, T, N)) (hk : k < N) (hlink : (Cond.fieldLink own index (T k).1 (T k).2.1 (T k).2.2.1) ∈ Ts)
    (hfin : (T k).2.2.2 = false ∨ ((T k).2.2.2 = true ∧ meth.name = "<init>" ∧ (T k).1 = own)) (hd : decode cc pc = .ok (.putfield index, 3)) (hw : w[r]? = some (.inl (ci, fs))) (hl : k < fs.length) (hfit : z_fit (ty0 k) v = true) (kk : z_G p l e R s m args below meth c Q xb env kc D cl A H0 ad0 nL (pc + 3) (zl, st, w.set r (.inl (ci, fs.set k v)), nc, ns)) : z_G p l e R s m args below meth c Q xb env kc D cl A H0 ad0 nL pc (zl, v :: .inr (.inl (some (r + 1))) :: st, w, nc, ns) := by
  intro ls sv ws H locs ⟨h1, h2, h3, h6, hP, hD, hS⟩
  obtain ⟨x, sv', rfl, hvx, h4⟩ := z_st1 h2
  obtain ⟨_, sv'', rfl, ⟨a, ha, rfl⟩, h5⟩ := z_st1 h4
  obtain ⟨a', e', hws, ha', vs, rfl, hvs⟩ := z_w_get h3 hw
  obtain rfl : a = a' := Option.some.inj (ha.symm.trans ha')
  obtain ⟨hn1, hn2⟩ := z_fit_ok hfit hvx
  have hl' : k < vs.length := by rw [← z_L_len hvs]; exact hl
  have hgo : ∀ (H1 : Heap) (locs1 : List Loc), va_P D cl (ws.set r (a, .inr (ci, vs.set k x))) H1 → va_D A (ws.set r (a, .inr (ci, vs.set k x))) → va_S A H0 H1 locs1 → W p l e R s m args below meth c H1 locs1 nc ns Q (F0 m (pc + 3) ls sv'') := by
    intro H1 locs1 hP1 hD1 hS1
    have e9 := z_ad_set (xb := xb) (e := .inr (ci, vs.set k x)) hws
    refine kk ls _ (ws.set r (a, .inr (ci, vs.set k x))) H1 locs1 ⟨by rw [e9]; exact h1, by rw [e9]; exact h5, z_w_set h3 hws ⟨_, rfl, z_L_set hvs k hvx⟩, by rw [e9]; exact h6, hP1, hD1, hS1⟩
  rcases hfin with hf | ⟨hf, hf2, hf3⟩
  · exact va_put hx hb hts hin ty0 hty hnm hown hK hP hD hS r hws hc k hk (hts _ hlink) (fun _ h => h) hf (hty k hk) hn1 hn2 hl' hd hgo
  · exact va_putF hx hb hts hin ty0 hty hnm hown hK hP hD hS r hws hc k hk (hts _ hlink) (fun _ h => h) hf hf2 hf3 (hty k hk) hn1 hn2 hl' hd hgo
theorem z_iald (hx : p.tables.exec = Jvm.exec) (hb : c.code = cc) {B : List (Int × Int)} (hB : z_B B env) {r k : Nat} {t : zI} {es : List zI} {x : zI} (hK : va_K D cl tys s) (ht : tys[0]? = some (kc 0, .int)) (hd : decode cc pc = .ok (.iaload, 1)) (hw : w[r]? = some (.inr (.inl (0, es)))) (hi : z_ix B t es.length = some k) (hv : es[k]? = some x) (kk : z_G p l e R s m args below meth c Q xb env kc D cl A H0 ad0 nL (pc + 1) (zl, .inl x :: st, w, nc, ns)) : z_G p l e R s m args below meth c Q xb env kc D cl A H0 ad0 nL pc (zl, .inl t :: .inr (.inl (some (r + 1))) :: st, w, nc, ns) := by
  intro ls sv ws H locs ⟨h1, h2, h3, h6, hP, hD, hS⟩
  obtain ⟨_, sv', rfl, ⟨y, rfl, hy⟩, h4⟩ := z_st1 h2
  obtain ⟨_, sv'', rfl, ⟨a, ha, rfl⟩, h5⟩ := z_st1 h4
  obtain ⟨a', e', hws, ha', f, rfl, hf⟩ := z_w_get h3 hw
  obtain rfl : a = a' := Option.some.inj (ha.symm.trans ha')
  obtain ⟨hi1, hi2, hi3⟩ := z_ix_ok hB hy hi
  refine va_iald hx hb hK hP r 0 hws ht hi1 hd ?_
  rw [hi2]
  exact kk ls _ ws H locs ⟨h1, ⟨⟨_, rfl, hf k x hv⟩, h5⟩, h3, h6, hP, hD, hS⟩
theorem z_zald (hx : p.tables.exec = Jvm.exec) (hb : c.code = cc) {B : List (Int × Int)} (hB : z_B B env) {r k : Nat} {t : zI} {es : List zI} {x : zI} (hK : va_K D cl tys s) (ht : tys[3]? = some (kc 3, .boolean)) (hd : decode cc pc = .ok (.baload, 1)) (hw : w[r]? = some (.inr (.inl (3, es)))) (hi : z_ix B t es.length = some k) (hv : es[k]? = some x) (kk : z_G p l e R s m args below meth c Q xb env kc D cl A H0 ad0 nL (pc + 1) (zl, .inl x :: st, w, nc, ns)) : z_G p l e R s m args below meth c Q xb env kc D cl A H0 ad0 nL pc (zl, .inl t :: .inr (.inl (some (r + 1))) :: st, w, nc, ns) := by
  intro ls sv ws H locs ⟨h1, h2, h3, h6, hP, hD, hS⟩
  obtain ⟨_, sv', rfl, ⟨y, rfl, hy⟩, h4⟩ := z_st1 h2
  obtain ⟨_, sv'', rfl, ⟨a, ha, rfl⟩, h5⟩ := z_st1 h4
  obtain ⟨a', e', hws, ha', f, rfl, hf⟩ := z_w_get h3 hw
  obtain rfl : a = a' := Option.some.inj (ha.symm.trans ha')
  obtain ⟨hi1, hi2, hi3⟩ := z_ix_ok hB hy hi
  refine va_zald hx hb hK hP r 3 hws ht hi1 hd ?_
  rw [hi2]
  exact kk ls _ ws H locs ⟨h1, ⟨⟨_, rfl, hf k x hv⟩, h5⟩, h3, h6, hP, hD, hS⟩
theorem z_es_set {env : Nat → Int32} {es : List zI} {f : Nat → Int32} {k : Nat} {v : zI} {x : Int32} (hf : ∀ (j : Nat) (y : zI), es[j]? = some y → z_i env y (f j)) (hv : z_i env v x) : ∀ (j : Nat) (y : zI), (es.set k v)[j]? = some y → z_i env y (upd f k x j) := by
  intro j y hj
  by_cases hk : k = j
  · subst hk
    rcases Nat.lt_or_ge k es.length with h1 | h1
    · rw [List.getElem?_set_self h1] at hj
      cases hj
      rw [pk_us]
      exact hv
    · rw [List.getElem?_eq_none (by rw [List.length_set]; exact h1)] at hj
      cases hj
  · rw [List.getElem?_set_ne hk] at hj
    rw [pk_un (fun q => hk q.symm)]
    exact hf j y hj
theorem z_iast (hx : p.tables.exec = Jvm.exec) (hb : c.code = cc) {B : List (Int × Int)} (hB : z_B B env) {r k : Nat} {t v : zI} {es : List zI} (hK : va_K D cl tys s) (ht : tys[0]? = some (kc 0, .int)) (hd : decode cc pc = .ok (.iastore, 1)) (hw : w[r]? = some (.inr (.inl (0, es)))) (hi : z_ix B t es.length = some k) (kk : z_G p l e R s m args below meth c Q xb env kc D cl A H0 ad0 nL (pc + 1) (zl, st, w.set r (.inr (.inl (0, es.set k v))), nc, ns)) : z_G p l e R s m args below meth c Q xb env kc D cl A H0 ad0 nL pc (zl, .inl v :: .inl t :: .inr (.inl (some (r + 1))) :: st, w, nc, ns) := by
  intro ls sv ws H locs ⟨h1, h2, h3, h6, hP, hD, hS⟩
  obtain ⟨_, sv', rfl, ⟨x, rfl, hx1⟩, h4⟩ := z_st1 h2
  obtain ⟨_, sv'', rfl, ⟨y, rfl, hy⟩, h5⟩ := z_st1 h4
  obtain ⟨_, sv3, rfl, ⟨a, ha, rfl⟩, h7⟩ := z_st1 h5
  obtain ⟨a', e', hws, ha', f, rfl, hf⟩ := z_w_get h3 hw
  obtain rfl : a = a' := Option.some.inj (ha.symm.trans ha')
  obtain ⟨hi1, hi2, hi3⟩ := z_ix_ok hB hy hi
  refine va_iast hx hb hK hP hD hS r 0 hws ht hi1 hd (fun H1 locs1 hP1 hD1 hS1 => ?_)
  rw [hi2] at hP1 hD1
  have e9 := z_ad_set (xb := xb) (e := .inl (kc 0, es.length, .inl (upd f k x))) hws
  exact kk ls _ _ H1 locs1 ⟨by rw [e9]; exact h1, by rw [e9]; exact h7, z_w_set h3 hws ⟨_, by rw [List.length_set], z_es_set hf hx1⟩, by rw [e9]; exact h6, hP1, hD1, hS1⟩
theorem z_bast (hx : p.tables.exec = Jvm.exec) (hb : c.code = cc) {B : List (Int × Int)} (hB : z_B B env) {r k : Nat} {t v : zI} {es : List zI} (hK : va_K D cl tys s) (ht : tys[2]? = some (kc 2, .byte)) (hd : decode cc pc = .ok (.bastore, 1)) (hw : w[r]? = some (.inr (.inl (2, es)))) (hi : z_ix B t es.length = some k) (kk : z_G p l e R s m args below meth c Q xb env kc D cl A H0 ad0 nL (pc + 1) (zl, st, w.set r (.inr (.inl (2, es.set k (.inl none)))), nc, ns)) : z_G p l e R s m args below meth c Q xb env kc D cl A H0 ad0 nL pc (zl, .inl v :: .inl t :: .inr (.inl (some (r + 1))) :: st, w, nc, ns) := by
  intro ls sv ws H locs ⟨h1, h2, h3, h6, hP, hD, hS⟩
  obtain ⟨_, sv', rfl, ⟨x, rfl, hx1⟩, h4⟩ := z_st1 h2
  obtain ⟨_, sv'', rfl, ⟨y, rfl, hy⟩, h5⟩ := z_st1 h4
  obtain ⟨_, sv3, rfl, ⟨a, ha, rfl⟩, h7⟩ := z_st1 h5
  obtain ⟨a', e', hws, ha', f, rfl, hf⟩ := z_w_get h3 hw
  obtain rfl : a = a' := Option.some.inj (ha.symm.trans ha')
  obtain ⟨hi1, hi2, hi3⟩ := z_ix_ok hB hy hi
  refine va_bast hx hb hK hP hD hS r 2 hws ht hi1 hd (fun H1 locs1 hP1 hD1 hS1 => ?_)
  rw [hi2] at hP1 hD1
  have e9 := z_ad_set (xb := xb) (e := .inl (kc 2, es.length, .inl (upd f k (vp_nar .byte x)))) hws
  exact kk ls _ _ H1 locs1 ⟨by rw [e9]; exact h1, by rw [e9]; exact h7, z_w_set h3 hws ⟨_, by rw [List.length_set], z_es_set hf trivial⟩, by rw [e9]; exact h6, hP1, hD1, hS1⟩
theorem z_zast (hx : p.tables.exec = Jvm.exec) (hb : c.code = cc) {B : List (Int × Int)} (hB : z_B B env) {r k : Nat} {t : zI} {v : Int32} {es : List zI} (hK : va_K D cl tys s) (ht : tys[3]? = some (kc 3, .boolean)) (hd : decode cc pc = .ok (.bastore, 1)) (hv : vp_nar .boolean v = v) (hw : w[r]? = some (.inr (.inl (3, es)))) (hi : z_ix B t es.length = some k) (kk : z_G p l e R s m args below meth c Q xb env kc D cl A H0 ad0 nL (pc + 1) (zl, st, w.set r (.inr (.inl (3, es.set k (.inl (some v))))), nc, ns)) : z_G p l e R s m args below meth c Q xb env kc D cl A H0 ad0 nL pc (zl, .inl (.inl (some v)) :: .inl t :: .inr (.inl (some (r + 1))) :: st, w, nc, ns) := by
  intro ls sv ws H locs ⟨h1, h2, h3, h6, hP, hD, hS⟩
  obtain ⟨_, sv', rfl, ⟨x, rfl, hx1⟩, h4⟩ := z_st1 h2
  obtain ⟨_, sv'', rfl, ⟨y, rfl, hy⟩, h5⟩ := z_st1 h4
  obtain ⟨_, sv3, rfl, ⟨a, ha, rfl⟩, h7⟩ := z_st1 h5
  obtain ⟨a', e', hws, ha', f, rfl, hf⟩ := z_w_get h3 hw
  obtain rfl : a = a' := Option.some.inj (ha.symm.trans ha')
  obtain ⟨hi1, hi2, hi3⟩ := z_ix_ok hB hy hi
  obtain rfl : x = v := hx1
  refine va_zast hx hb hK hP hD hS r 3 hws ht hi1 hd (fun H1 locs1 hP1 hD1 hS1 => ?_)
  rw [hi2, hv] at hP1 hD1
  have e9 := z_ad_set (xb := xb) (e := .inl (kc 3, es.length, .inl (upd f k x))) hws
  exact kk ls _ _ H1 locs1 ⟨by rw [e9]; exact h1, by rw [e9]; exact h7, z_w_set h3 hws ⟨_, by rw [List.length_set], z_es_set hf rfl⟩, by rw [e9]; exact h6, hP1, hD1, hS1⟩
theorem z_lald (hx : p.tables.exec = Jvm.exec) (hb : c.code = cc) {B : List (Int × Int)} (hB : z_B B env) {r k n : Nat} {t : zI} (hK : va_K D cl tys s) (ht : tys[1]? = some (kc 1, .long)) (hd : decode cc pc = .ok (.laload, 1)) (hw : w[r]? = some (.inr (.inr (.inl n)))) (hi : z_ix B t n = some k) (kk : z_G p l e R s m args below meth c Q xb env kc D cl A H0 ad0 nL (pc + 1) (zl, .inr (.inr ()) :: st, w, nc, ns)) : z_G p l e R s m args below meth c Q xb env kc D cl A H0 ad0 nL pc (zl, .inl t :: .inr (.inl (some (r + 1))) :: st, w, nc, ns) := by
  intro ls sv ws H locs ⟨h1, h2, h3, h6, hP, hD, hS⟩
  obtain ⟨_, sv', rfl, ⟨y, rfl, hy⟩, h4⟩ := z_st1 h2
  obtain ⟨_, sv'', rfl, ⟨a, ha, rfl⟩, h5⟩ := z_st1 h4
  obtain ⟨a', e', hws, ha', f, rfl⟩ := z_w_get h3 hw
  obtain rfl : a = a' := Option.some.inj (ha.symm.trans ha')
  obtain ⟨hi1, hi2, hi3⟩ := z_ix_ok hB hy hi
  refine va_lald hx hb hK hP r 1 hws ht hi1 hd ?_
  exact kk ls _ ws H locs ⟨h1, ⟨⟨_, rfl⟩, h5⟩, h3, h6, hP, hD, hS⟩
theorem z_last (hx : p.tables.exec = Jvm.exec) (hb : c.code = cc) {B : List (Int × Int)} (hB : z_B B env) {r k n : Nat} {t : zI} (hK : va_K D cl tys s) (ht : tys[1]? = some (kc 1, .long)) (hd : decode cc pc = .ok (.lastore, 1)) (hw : w[r]? = some (.inr (.inr (.inl n)))) (hi : z_ix B t n = some k) (kk : z_G p l e R s m args below meth c Q xb env kc D cl A H0 ad0 nL (pc + 1) (zl, st, w, nc, ns)) : z_G p l e R s m args below meth c Q xb env kc D cl A H0 ad0 nL pc (zl, .inr (.inr ()) :: .inl t :: .inr (.inl (some (r + 1))) :: st, w, nc, ns) := by
  intro ls sv ws H locs ⟨h1, h2, h3, h6, hP, hD, hS⟩
  obtain ⟨_, sv', rfl, ⟨x, rfl⟩, h4⟩ := z_st1 h2
  obtain ⟨_, sv'', rfl, ⟨y, rfl, hy⟩, h5⟩ := z_st1 h4
  obtain ⟨_, sv3, rfl, ⟨a, ha, rfl⟩, h7⟩ := z_st1 h5
  obtain ⟨a', e', hws, ha', f, rfl⟩ := z_w_get h3 hw
  obtain rfl : a = a' := Option.some.inj (ha.symm.trans ha')
  obtain ⟨hi1, hi2, hi3⟩ := z_ix_ok hB hy hi
  refine va_last hx hb hK hP hD hS r 1 hws ht hi1 hd (fun H1 locs1 hP1 hD1 hS1 => ?_)
  have e9 := z_ad_set (xb := xb) (e := .inl (kc 1, n, .inr (.inl (vp_updL f y.toNatClampNeg x)))) hws
  have hw9 : z_w xb env kc w (ws.set r (a, .inl (kc 1, n, .inr (.inl (vp_updL f y.toNatClampNeg x))))) := by
    have h8 := z_w_set (c := .inr (.inr (.inl n))) h3 hws (e := .inl (kc 1, n, .inr (.inl (vp_updL f y.toNatClampNeg x)))) ⟨_, rfl⟩
    rwa [show w.set r (.inr (.inr (.inl n))) = w from List.ext_getElem? (fun i => by
      by_cases hi9 : r = i
      · subst hi9
        rw [List.getElem?_set_self (List.getElem?_eq_some_iff.mp hw).1, hw]
      · rw [List.getElem?_set_ne hi9])] at h8
  exact kk ls _ _ H1 locs1 ⟨by rw [e9]; exact h1, by rw [e9]; exact h7, hw9, by rw [e9]; exact h6, hP1, hD1, hS1⟩
theorem z_aald (hx : p.tables.exec = Jvm.exec) (hb : c.code = cc) {B : List (Int × Int)} (hB : z_B B env) {r k q kt : Nat} {t : zI} {es : List (Option Nat)} {C : String} (hK : va_K D cl tys s) (ht : tys[kt]? = some (kc kt, .object C)) (hd : decode cc pc = .ok (.aaload, 1)) (hw : w[r]? = some (.inr (.inr (.inr (kt, es))))) (hi : z_ix B t es.length = some k) (hv : es[k]? = some (some q)) (kk : z_G p l e R s m args below meth c Q xb env kc D cl A H0 ad0 nL (pc + 1) (zl, .inr (.inl (some q)) :: st, w, nc, ns)) : z_G p l e R s m args below meth c Q xb env kc D cl A H0 ad0 nL pc (zl, .inl t :: .inr (.inl (some (r + 1))) :: st, w, nc, ns) := by
  intro ls sv ws H locs ⟨h1, h2, h3, h6, hP, hD, hS⟩
  obtain ⟨_, sv', rfl, ⟨y, rfl, hy⟩, h4⟩ := z_st1 h2
  obtain ⟨_, sv'', rfl, ⟨a, ha, rfl⟩, h5⟩ := z_st1 h4
  obtain ⟨a', e', hws, ha', f, rfl, hf⟩ := z_w_get h3 hw
  obtain rfl : a = a' := Option.some.inj (ha.symm.trans ha')
  obtain ⟨hi1, hi2, hi3⟩ := z_ix_ok hB hy hi
  refine va_aldq hx hb hK hP r kt hws ht hi1 hd ?_
  obtain ⟨b, hb1, hb2⟩ := hf k (some q) hv
  rw [hi2, hb2]
  exact kk ls _ ws H locs ⟨h1, ⟨⟨b, hb1, rfl⟩, h5⟩, h3, h6, hP, hD, hS⟩
theorem z_aast (hx : p.tables.exec = Jvm.exec) (hb : c.code = cc) {B : List (Int × Int)} (hB : z_B B env) {r k q kt ci : Nat} {t : zI} {es : List (Option Nat)} {rr : vw_C} {fs : List zV} (hK : va_K D cl tys s) (ht : tys[kt]? = some (kc kt, .object rr.1)) (hc : cl[ci]? = some rr) (hd : decode cc pc = .ok (.aastore, 1)) (hw : w[r]? = some (.inr (.inr (.inr (kt, es))))) (hq : w[q]? = some (.inl (ci, fs))) (hi : z_ix B t es.length = some k) (kk : z_G p l e R s m args below meth c Q xb env kc D cl A H0 ad0 nL (pc + 1) (zl, st, w.set r (.inr (.inr (.inr (kt, es.set k (some (q + 1)))))), nc, ns)) : z_G p l e R s m args below meth c Q xb env kc D cl A H0 ad0 nL pc (zl, .inr (.inl (some (q + 1))) :: .inl t :: .inr (.inl (some (r + 1))) :: st, w, nc, ns) := by
  intro ls sv ws H locs ⟨h1, h2, h3, h6, hP, hD, hS⟩
  obtain ⟨_, sv', rfl, ⟨x, hx1, rfl⟩, h4⟩ := z_st1 h2
  obtain ⟨_, sv'', rfl, ⟨y, rfl, hy⟩, h5⟩ := z_st1 h4
  obtain ⟨_, sv3, rfl, ⟨a, ha, rfl⟩, h7⟩ := z_st1 h5
  obtain ⟨a', e', hws, ha', f, rfl, hf⟩ := z_w_get h3 hw
  obtain rfl : a = a' := Option.some.inj (ha.symm.trans ha')
  obtain ⟨x', e2, hwq, hx', vs, rfl, hvs⟩ := z_w_get h3 hq
  obtain rfl : x = x' := Option.some.inj (hx1.symm.trans hx')
  obtain ⟨hi1, hi2, hi3⟩ := z_ix_ok hB hy hi
  refine va_astq hx hb hK hP hD hS r kt q ci hws ht hwq hc hi1 hd (fun H1 locs1 hP1 hD1 hS1 => ?_)
  rw [hi2] at hP1 hD1
  have e9 := z_ad_set (xb := xb) (e := .inl (kc kt, es.length, .inr (.inr (.inr (.inr (va_up f k (some x))))))) hws
  have hf9 : ∀ (j : Nat) (z : Option Nat), (es.set k (some (q + 1)))[j]? = some z → z_o (z_ad xb ws) z (va_up f k (some x) j) := by
    intro j z hj
    by_cases hk : k = j
    · subst hk
      rw [List.getElem?_set_self hi3] at hj
      cases hj
      exact ⟨x, hx1, by simp [va_up]⟩
    · rw [List.getElem?_set_ne hk] at hj
      have h8 := hf j z hj
      rwa [show va_up f k (some x) j = f j by unfold va_up; rw [if_neg (fun q => hk q.symm)]]
  exact kk ls _ _ H1 locs1 ⟨by rw [e9]; exact h1, by rw [e9]; exact h7, z_w_set h3 hws ⟨_, by rw [List.length_set], hf9⟩, by rw [e9]; exact h6, hP1, hD1, hS1⟩
theorem z_alen (hx : p.tables.exec = Jvm.exec) (hb : c.code = cc) {r n : Nat} {es : List zI} (hK : va_K D cl tys s) (ht : tys[0]? = some (kc 0, .int)) (hd : decode cc pc = .ok (.arraylength, 1)) (hw : w[r]? = some (.inr (.inl (0, es)))) (kk : z_G p l e R s m args below meth c Q xb env kc D cl A H0 ad0 nL (pc + 1) (zl, .inl (.inl (some (Int32.ofNat es.length))) :: st, w, nc, ns)) : z_G p l e R s m args below meth c Q xb env kc D cl A H0 ad0 nL pc (zl, .inr (.inl (some (r + 1))) :: st, w, nc, ns) := by
  intro ls sv ws H locs ⟨h1, h2, h3, h6, hP, hD, hS⟩
  obtain ⟨_, sv', rfl, ⟨a, ha, rfl⟩, h4⟩ := z_st1 h2
  obtain ⟨a', e', hws, ha', f, rfl, hf⟩ := z_w_get h3 hw
  obtain rfl : a = a' := Option.some.inj (ha.symm.trans ha')
  refine va_alen hx hb hK hP r 0 hws ht rfl hd ?_
  exact kk ls _ ws H locs ⟨h1, ⟨⟨_, rfl, rfl⟩, h4⟩, h3, h6, hP, hD, hS⟩
end ZH
end
section
/-! ===== new cells, copies, switches ===== -/
def z_dv (v : zV) : Value := match v with
  | .inl (.inl (some c)) => .int c
  | .inr (.inr _) => .long 0
  | _ => .null
def z_dok (v : zV) : Bool := match v with
  | .inl (.inl (some _)) => true
  | .inr (.inr _) => true
  | .inr (.inl none) => true
  | _ => false
theorem z_dv_ok {env : Nat → Int32} {ad : Nat → Option Nat} : ∀ {v : zV}, z_dok v = true → z_v env ad v (z_dv v)
  | .inl (.inl (some c)), _ => ⟨c, rfl, rfl⟩
  | .inr (.inr _), _ => ⟨0, rfl⟩
  | .inr (.inl none), _ => rfl
  | .inl (.inl none), h => by cases h
  | .inl (.inr _), h => by cases h
  | .inr (.inl (some _)), h => by cases h
theorem z_dvs_ok {env : Nat → Int32} {ad : Nat → Option Nat} : ∀ {vs : List zV}, vs.all z_dok = true → z_L (z_v env ad) vs (vs.map z_dv)
  | [], _ => trivial
  | v :: vs, h => by
    rw [List.all_cons, Bool.and_eq_true] at h
    exact ⟨z_dv_ok h.1, z_dvs_ok h.2⟩
def z_tgt (pc : Nat) (off : Int) : Option Nat := if 0 ≤ (pc : Int) + off then some ((pc : Int) + off).toNat else none
theorem z_tgt_ok {pc tgt : Nat} {off : Int} (h : z_tgt pc off = some tgt) : (pc : Int) + off = (tgt : Int) := by
  unfold z_tgt at h
  split at h
  next h1 => have := Option.some.inj h; omega
  next => cases h
def z_sw (B : List (Int × Int)) (pc : Nat) (dflt lo hi : Int) (offs : Array Int) (t : zI) : Option Nat :=
  if (z_rng B t).2 < lo ∨ hi < (z_rng B t).1 then z_tgt pc dflt
  else if (z_rng B t).1 = (z_rng B t).2 ∧ lo ≤ (z_rng B t).1 ∧ (z_rng B t).1 ≤ hi then match offs[((z_rng B t).1 - lo).toNat]? with
    | some off => z_tgt pc off
    | none => none
  else none
theorem z_cats {env : Nat → Int32} {ad : Nat → Option Nat} : ∀ {st : List zV} {sv : List Value}, z_L (z_v env ad) st sv → (st.map z_cat).sum = (sv.map fun v => v.category).sum
  | [], [], _ => rfl
  | _ :: _, _ :: _, h => by
    rw [List.map_cons, List.map_cons, List.sum_cons, List.sum_cons, z_v_cat h.1, z_cats h.2]
  | [], _ :: _, h => h.elim
  | _ :: _, [], h => h.elim
section ZN
variable {p : Program} {l : Launch} {e : Env} {R : Room} {s : State} {m : MethodId} {args : Array Value} {below : List Frame} {meth : Method} {c : Code} {Q : State → Prop} {cc : ByteArray}
variable {xb : Nat} {env : Nat → Int32} {kc : Nat → ClassId} {D : va_G} {cl : List vw_C} {A : Nat → Prop} {H0 : Heap} {ad0 : Nat → Option Nat} {nL : Nat}
variable {zl : List (Nat × zV)} {st : List zV} {w : zW} {nc ns pc : Nat} {tys : List (ClassId × FieldType)}
theorem z_table (hx : p.tables.exec = Jvm.exec) (hb : c.code = cc) {B : List (Int × Int)} (hB : z_B B env) {dflt lo hi : Int} {offs : Array Int} {len tgt : Nat} {t : zI} (hd : decode cc pc = .ok (.tableswitch dflt lo hi offs, len)) (hs : z_sw B pc dflt lo hi offs t = some tgt) (kk : z_G p l e R s m args below meth c Q xb env kc D cl A H0 ad0 nL tgt (zl, st, w, nc, ns)) : z_G p l e R s m args below meth c Q xb env kc D cl A H0 ad0 nL pc (zl, .inl t :: st, w, nc, ns) := by
  intro ls sv ws H locs ⟨h1, h2, h3⟩
  obtain ⟨_, sv', rfl, ⟨x, rfl, hx1⟩, h4⟩ := z_st1 h2
  have kk := kk ls sv' ws H locs ⟨h1, h4, h3⟩
  have hr := z_rng_ok hB hx1
  unfold z_sw at hs
  split at hs
  next h5 => exact lv_tableOut hx hb hd (by omega) (z_tgt_ok hs) kk
  next =>
    split at hs
    next h6 =>
      have hxe : x.toInt = (z_rng B t).1 := by omega
      split at hs
      next off ho =>
        rw [← hxe] at ho
        exact lv_tableIn hx hb hd (by omega) (by omega) ho (z_tgt_ok hs) kk
      next => cases hs
    next => cases hs
theorem z_objInit (hx : p.tables.exec = Jvm.exec) (hb : c.code = cc) {own : String} {idx r : Nat} (hown : s.vm.findClass own = some m.cls) (hml : c.maxLocals = nL) (hlink : (Cond.methodLink own idx Lib.objectInit).before args s = true) (hinst : (Cond.instanceMethod Lib.objectInit).before args s = true) (hcode : (Cond.code Lib.objectInit ⟨#[0xb1]⟩ 1 none).before args s = true) (hd : decode cc pc = .ok (.invokespecial idx, 3)) (hfr : 1 ≤ R.frames) (hlo : 100 ≤ R.locals) (hst : (st.map z_cat).sum ≤ 8) (kk : z_G p l e R s m args below meth c Q xb env kc D cl A H0 ad0 nL (pc + 3) (zl, st, w, nc, ns)) : z_G p l e R s m args below meth c Q xb env kc D cl A H0 ad0 nL pc (zl, .inr (.inl (some r)) :: st, w, nc, ns) := by
  intro ls sv ws H locs ⟨h1, h2, h3⟩
  obtain ⟨_, sv', rfl, ⟨a, ha, rfl⟩, h4⟩ := z_st1 h2
  have hsum : (sv'.map fun v => v.category).sum ≤ 8 := by rw [← z_cats h4]; exact hst
  obtain ⟨lv, hl, hz⟩ := id h1
  refine W.objInit hx hb hown hlink hinst hcode rfl (by rw [hml]; exact hl.1) rfl hd hfr (by show 2 * 0 + _ + 12 ≤ _; omega) ?_
  exact kk ls sv' ws H locs ⟨h1, h4, h3⟩
theorem z_newo (hx : p.tables.exec = Jvm.exec) (hb : c.code = cc) {own C : String} {T : u_T} {N ci index : Nat} {Ts : List Cond} {df : List zV} {ty0 : Nat → FieldType} (hts : ∀ w ∈ Ts, w.before args s = true) (hin : ∀ w ∈ u_ws C T N, w ∈ Ts) (hty : ∀ k, k < N → parseFieldDescriptor (T k).2.2.1 = some (ty0 k)) (hown : s.vm.findClass own = some m.cls) (hcl : (Cond.classLink own index C) ∈ Ts) (hinst : (Cond.instantiable C N) ∈ Ts) (hini : (Cond.initialized C) ∈ Ts)
    (hK : va_K D cl tys s) (hA : ∀ q, H0.size ≤ q → A q) (hc : cl[ci]? = some (C, T, N)) (hdf : df.all z_dok = true) (hfs : ∀ j, j < N → defaultValue (ty0 j) = vp_V (df.map z_dv) j) (hcells : nc + 1 ≤ R.cells) (hslots : ns + N ≤ R.slots) (hd : decode cc pc = .ok (.new index, 3)) (kk : z_G p l e R s m args below meth c Q xb env kc D cl A H0 ad0 nL (pc + 3) (zl, .inr (.inl (some (w.length + 1))) :: st, w ++ [.inl (ci, df)], nc + 1, ns + N)) : z_G p l e R s m args below meth c Q xb env kc D cl A H0 ad0 nL pc (zl, st, w, nc, ns) := by
  intro ls sv ws H locs ⟨h1, h2, h3, h6, hP, hD, hS⟩
  refine va_new hx hb hts hin ty0 hty hown (hts _ hcl) (hts _ hinst) (hts _ hini) hK hP hD hS hA hc hfs hcells hslots hd (fun q H1 hP1 hD1 hS1 => ?_)
  have hm : ∀ i a, z_ad xb ws i = some a → z_ad xb (ws ++ [(q, .inr (ci, df.map z_dv))]) i = some a := fun i a h => z_ad_app h
  refine kk ls _ _ H1 locs ⟨z_l_mono hm h1, ⟨⟨q, ?_, rfl⟩, z_L_mono (z_v_mono hm) h2⟩, z_w_push h3 ⟨_, rfl, z_dvs_ok hdf⟩, fun i a h => hm i a (h6 i a h), hP1, hD1, hS1⟩
  rw [z_L_len h3]
  exact z_ad_new xb ws q _
theorem z_newi (hx : p.tables.exec = Jvm.exec) (hb : c.code = cc) {atype : ArrayType} {ty : FieldType} {kt n : Nat} {t : Int32} (harr : (Cond.arrayClass (newarray.typeOf atype)).before args s = true) (hty : newarray.typeOf atype = ty) (hk : tys[kt]? = some (kc kt, ty)) (hdv : defaultValue ty = .int 0) (hK : va_K D cl tys s) (hA : ∀ q, H0.size ≤ q → A q) (hn : ¬ t < 0) (hN : t.toNatClampNeg = n) (hby : n * componentBytes ty ≤ 536870912) (hcells : nc + 1 ≤ R.cells) (hslots : ns + n ≤ R.slots) (hd : decode cc pc = .ok (.newarray atype, 2)) (kk : z_G p l e R s m args below meth c Q xb env kc D cl A H0 ad0 nL (pc + 2) (zl, .inr (.inl (some (w.length + 1))) :: st, w ++ [.inr (.inl (kt, List.replicate n (.inl (some 0))))], nc + 1, ns + n)) : z_G p l e R s m args below meth c Q xb env kc D cl A H0 ad0 nL pc (zl, .inl (.inl (some t)) :: st, w, nc, ns) := by
  intro ls sv ws H locs ⟨h1, h2, h3, h6, hP, hD, hS⟩
  obtain ⟨_, sv', rfl, ⟨x, rfl, hx1⟩, h4⟩ := z_st1 h2
  obtain rfl : x = t := hx1
  refine va_newa hx hb harr hty hK hP hD hS hA (N' := n) (a0 := (n, .inl (fun _ => 0))) (fun cA => by show _ = _; rw [hdv]; rfl) hn hN hby hcells hslots hd (fun q cA H1 hK1 hP1 hD1 hS1 => ?_)
  obtain rfl : cA = kc kt := z_same hK1 hk
  have hm : ∀ i a, z_ad xb ws i = some a → z_ad xb (ws ++ [(q, .inl (kc kt, (n, .inl (fun _ => 0))))]) i = some a := fun i a h => z_ad_app h
  refine kk ls _ _ H1 locs ⟨z_l_mono hm h1, ⟨⟨q, ?_, rfl⟩, z_L_mono (z_v_mono hm) h4⟩, z_w_push h3 ⟨fun _ => 0, by rw [List.length_replicate], fun j y hj => ?_⟩, fun i a h => hm i a (h6 i a h), hP1, hD1, hS1⟩
  · rw [z_L_len h3]
    exact z_ad_new xb ws q _
  · have := List.eq_of_mem_replicate (List.mem_of_getElem? hj)
    subst this
    rfl
theorem z_newl (hx : p.tables.exec = Jvm.exec) (hb : c.code = cc) {n : Nat} {t : Int32} (harr : (Cond.arrayClass .long).before args s = true) (hk : tys[1]? = some (kc 1, .long)) (hK : va_K D cl tys s) (hA : ∀ q, H0.size ≤ q → A q) (hn : ¬ t < 0) (hN : t.toNatClampNeg = n) (hby : n * componentBytes .long ≤ 536870912) (hcells : nc + 1 ≤ R.cells) (hslots : ns + n ≤ R.slots) (hd : decode cc pc = .ok (.newarray .long, 2)) (kk : z_G p l e R s m args below meth c Q xb env kc D cl A H0 ad0 nL (pc + 2) (zl, .inr (.inl (some (w.length + 1))) :: st, w ++ [.inr (.inr (.inl n))], nc + 1, ns + n)) : z_G p l e R s m args below meth c Q xb env kc D cl A H0 ad0 nL pc (zl, .inl (.inl (some t)) :: st, w, nc, ns) := by
  intro ls sv ws H locs ⟨h1, h2, h3, h6, hP, hD, hS⟩
  obtain ⟨_, sv', rfl, ⟨x, rfl, hx1⟩, h4⟩ := z_st1 h2
  obtain rfl : x = t := hx1
  refine va_newa hx hb (atype := .long) harr rfl hK hP hD hS hA (N' := n) (a0 := (n, .inr (.inl (fun _ => 0)))) (fun cA => rfl) hn hN hby hcells hslots hd (fun q cA H1 hK1 hP1 hD1 hS1 => ?_)
  obtain rfl : cA = kc 1 := z_same hK1 hk
  have hm : ∀ i a, z_ad xb ws i = some a → z_ad xb (ws ++ [(q, .inl (kc 1, (n, .inr (.inl (fun _ => 0)))))]) i = some a := fun i a h => z_ad_app h
  refine kk ls _ _ H1 locs ⟨z_l_mono hm h1, ⟨⟨q, ?_, rfl⟩, z_L_mono (z_v_mono hm) h4⟩, z_w_push h3 ⟨fun _ => 0, rfl⟩, fun i a h => hm i a (h6 i a h), hP1, hD1, hS1⟩
  rw [z_L_len h3]
  exact z_ad_new xb ws q _
theorem z_newr (hx : p.tables.exec = Jvm.exec) (hb : c.code = cc) {own C : String} {index kt n : Nat} {t : Int32} (hown : s.vm.findClass own = some m.cls) (hclink : (Cond.classLink own index C).before args s = true) (hover : va_AO C s) (hk : tys[kt]? = some (kc kt, .object C)) (hK : va_K D cl tys s) (hA : ∀ q, H0.size ≤ q → A q) (hn : ¬ t < 0) (hN : t.toNatClampNeg = n) (hby : n * 4 ≤ 536870912) (hcells : nc + 1 ≤ R.cells) (hslots : ns + n ≤ R.slots) (hd : decode cc pc = .ok (.anewarray index, 3)) (kk : z_G p l e R s m args below meth c Q xb env kc D cl A H0 ad0 nL (pc + 3) (zl, .inr (.inl (some (w.length + 1))) :: st, w ++ [.inr (.inr (.inr (kt, List.replicate n none)))], nc + 1, ns + n)) : z_G p l e R s m args below meth c Q xb env kc D cl A H0 ad0 nL pc (zl, .inl (.inl (some t)) :: st, w, nc, ns) := by
  intro ls sv ws H locs ⟨h1, h2, h3, h6, hP, hD, hS⟩
  obtain ⟨_, sv', rfl, ⟨x, rfl, hx1⟩, h4⟩ := z_st1 h2
  obtain rfl : x = t := hx1
  refine va_newq hx hb hown hclink hover hK hP hD hS hA (N' := n) hn hN hby hcells hslots hd (fun q cA H1 hK1 hP1 hD1 hS1 => ?_)
  obtain rfl : cA = kc kt := z_same hK1 hk
  have hm : ∀ i a, z_ad xb ws i = some a → z_ad xb (ws ++ [(q, .inl (kc kt, n, .inr (.inr (.inr (.inr (fun _ => none))))))]) i = some a := fun i a h => z_ad_app h
  refine kk ls _ _ H1 locs ⟨z_l_mono hm h1, ⟨⟨q, ?_, rfl⟩, z_L_mono (z_v_mono hm) h4⟩, z_w_push h3 ⟨fun _ => none, by rw [List.length_replicate], fun j y hj => ?_⟩, fun i a h => hm i a (h6 i a h), hP1, hD1, hS1⟩
  · rw [z_L_len h3]
    exact z_ad_new xb ws q _
  · have := List.eq_of_mem_replicate (List.mem_of_getElem? hj)
    subst this
    rfl
theorem z_copyi (hx : p.tables.exec = Jvm.exec) (hb : c.code = cc) {own : String} {index r0 r1 : Nat} {es0 es1 : List zI} {n : Int32} (hown : s.vm.findClass own = some m.cls) (hml : c.maxLocals = nL) (hlink : (Cond.methodLink own index arraycopyName).before args s = true) (hnat : (Cond.native arraycopyName).before args s = true) (hstat : (Cond.static arraycopyName).before args s = true) (hini : (Cond.initialized "java/lang/System").before args s = true) (hK : va_K D cl tys s) (ht : tys[0]? = some (kc 0, .int))
    (hw0 : w[r0]? = some (.inr (.inl (0, es0)))) (hw1 : w[r1]? = some (.inr (.inl (0, es1)))) (hl : es0.length = es1.length) (hn : ¬ n < 0) (hN : n.toNatClampNeg = es0.length) (hfr : 1 ≤ R.frames) (hlo : 100 ≤ R.locals) (hst : (st.map z_cat).sum ≤ 8) (hd : decode cc pc = .ok (.invokestatic index, 3)) (kk : z_G p l e R s m args below meth c Q xb env kc D cl A H0 ad0 nL (pc + 3) (zl, st, w.set r1 (.inr (.inl (0, es0))), nc, ns)) : z_G p l e R s m args below meth c Q xb env kc D cl A H0 ad0 nL pc (zl, .inl (.inl (some n)) :: .inl (.inl (some 0)) :: .inr (.inl (some (r1 + 1))) :: .inl (.inl (some 0)) :: .inr (.inl (some (r0 + 1))) :: st, w, nc, ns) := by
  intro ls sv ws H locs ⟨h1, h2, h3, h6, hP, hD, hS⟩
  obtain ⟨_, sv1, rfl, ⟨x1, rfl, e1⟩, g1⟩ := z_st1 h2
  obtain ⟨_, sv2, rfl, ⟨x2, rfl, e2⟩, g2⟩ := z_st1 g1
  obtain ⟨_, sv3, rfl, ⟨a1, ha1, rfl⟩, g3⟩ := z_st1 g2
  obtain ⟨_, sv4, rfl, ⟨x4, rfl, e4⟩, g4⟩ := z_st1 g3
  obtain ⟨_, sv5, rfl, ⟨a0, ha0, rfl⟩, h5⟩ := z_st1 g4
  obtain rfl : x1 = n := e1
  obtain rfl : x2 = 0 := e2
  obtain rfl : x4 = 0 := e4
  obtain ⟨b0, _, hws0, hb0, f, rfl, hf⟩ := z_w_get h3 hw0
  obtain rfl : a0 = b0 := Option.some.inj (ha0.symm.trans hb0)
  obtain ⟨b1, _, hws1, hb1, g, rfl, hg⟩ := z_w_get h3 hw1
  obtain rfl : a1 = b1 := Option.some.inj (ha1.symm.trans hb1)
  have hsum : (sv5.map fun v => v.category).sum ≤ 8 := by rw [← z_cats h5]; exact hst
  obtain ⟨lv, hlv, hz⟩ := id h1
  have z0 : (0 : Int32).toNatClampNeg = 0 := by decide
  refine va_copyi hx hb (by rw [hml]; exact hlv.1.symm) hown hlink hnat hstat hini hK hP hD hS r0 r1 0 0 hws0 hws1 ht ht rfl (by decide) (by decide) hn (by rw [z0, hN]; omega) (by rw [z0, hN]; omega) (fun _ _ => rfl) hfr (Nat.le_trans (Nat.add_le_add_right hsum _) (Nat.le_trans (by decide) hlo)) hd (fun H1 locs1 hP1 hD1 hS1 => ?_)
  rw [z0, hN] at hP1 hD1
  have e9 := z_ad_set (xb := xb) (e := .inl (kc 0, es1.length, .inl (va_cpy f g 0 0 es0.length))) hws1
  refine kk ls _ _ H1 locs1 ⟨by rw [e9]; exact h1, by rw [e9]; exact h5, z_w_set h3 hws1 ⟨_, by rw [hl], fun j y hj => ?_⟩, by rw [e9]; exact h6, hP1, hD1, hS1⟩
  have hj2 : j < es0.length := (List.getElem?_eq_some_iff.mp hj).1
  rw [pk_cpy_in (Nat.zero_le j) (by omega), Nat.zero_add, Nat.sub_zero]
  exact hf j y hj
theorem z_copyl (hx : p.tables.exec = Jvm.exec) (hb : c.code = cc) {own : String} {index r0 r1 n0 n1 : Nat} {n : Int32} (hown : s.vm.findClass own = some m.cls) (hml : c.maxLocals = nL) (hlink : (Cond.methodLink own index arraycopyName).before args s = true) (hnat : (Cond.native arraycopyName).before args s = true) (hstat : (Cond.static arraycopyName).before args s = true) (hini : (Cond.initialized "java/lang/System").before args s = true) (hK : va_K D cl tys s) (ht : tys[1]? = some (kc 1, .long))
    (hw0 : w[r0]? = some (.inr (.inr (.inl n0)))) (hw1 : w[r1]? = some (.inr (.inr (.inl n1)))) (hn : ¬ n < 0) (hN : n.toNatClampNeg ≤ n0) (hN1 : n.toNatClampNeg ≤ n1) (hfr : 1 ≤ R.frames) (hlo : 100 ≤ R.locals) (hst : (st.map z_cat).sum ≤ 8) (hd : decode cc pc = .ok (.invokestatic index, 3)) (kk : z_G p l e R s m args below meth c Q xb env kc D cl A H0 ad0 nL (pc + 3) (zl, st, w.set r1 (.inr (.inr (.inl n1))), nc, ns)) : z_G p l e R s m args below meth c Q xb env kc D cl A H0 ad0 nL pc (zl, .inl (.inl (some n)) :: .inl (.inl (some 0)) :: .inr (.inl (some (r1 + 1))) :: .inl (.inl (some 0)) :: .inr (.inl (some (r0 + 1))) :: st, w, nc, ns) := by
  intro ls sv ws H locs ⟨h1, h2, h3, h6, hP, hD, hS⟩
  obtain ⟨_, sv1, rfl, ⟨x1, rfl, e1⟩, g1⟩ := z_st1 h2
  obtain ⟨_, sv2, rfl, ⟨x2, rfl, e2⟩, g2⟩ := z_st1 g1
  obtain ⟨_, sv3, rfl, ⟨a1, ha1, rfl⟩, g3⟩ := z_st1 g2
  obtain ⟨_, sv4, rfl, ⟨x4, rfl, e4⟩, g4⟩ := z_st1 g3
  obtain ⟨_, sv5, rfl, ⟨a0, ha0, rfl⟩, h5⟩ := z_st1 g4
  obtain rfl : x1 = n := e1
  obtain rfl : x2 = 0 := e2
  obtain rfl : x4 = 0 := e4
  obtain ⟨b0, _, hws0, hb0, f, rfl⟩ := z_w_get h3 hw0
  obtain rfl : a0 = b0 := Option.some.inj (ha0.symm.trans hb0)
  obtain ⟨b1, _, hws1, hb1, g, rfl⟩ := z_w_get h3 hw1
  obtain rfl : a1 = b1 := Option.some.inj (ha1.symm.trans hb1)
  have hsum : (sv5.map fun v => v.category).sum ≤ 8 := by rw [← z_cats h5]; exact hst
  obtain ⟨lv, hlv, hz⟩ := id h1
  have z0 : (0 : Int32).toNatClampNeg = 0 := by decide
  refine va_copyl hx hb (by rw [hml]; exact hlv.1.symm) hown hlink hnat hstat hini hK hP hD hS r0 r1 1 1 hws0 hws1 ht ht rfl (by decide) (by decide) hn (by rw [z0]; omega) (by rw [z0]; omega) (fun _ _ => rfl) hfr (Nat.le_trans (Nat.add_le_add_right hsum _) (Nat.le_trans (by decide) hlo)) hd (fun H1 locs1 hP1 hD1 hS1 => ?_)
  have e9 := z_ad_set (xb := xb) (e := .inl (kc 1, n1, .inr (.inl (va_cpy f g (0 : Int32).toNatClampNeg (0 : Int32).toNatClampNeg x1.toNatClampNeg)))) hws1
  exact kk ls _ _ H1 locs1 ⟨by rw [e9]; exact h1, by rw [e9]; exact h5, z_w_set h3 hws1 ⟨_, rfl⟩, by rw [e9]; exact h6, hP1, hD1, hS1⟩
theorem z_mmin (hx : p.tables.exec = Jvm.exec) (hb : c.code = cc) {B : List (Int × Int)} (hB : z_B B env) {own : String} {index : Nat} {x y : zI} {b : Bool} (hown : s.vm.findClass own = some m.cls) (hml : c.maxLocals = nL) (hlink : (Cond.methodLink own index Lib.Math.min.name).before args s = true) (hstat : (Cond.static Lib.Math.min.name).before args s = true) (hini : (Cond.initialized "java/lang/Math").before args s = true) (hcode : (Cond.code Lib.Math.min.name Lib.Math.min.code 2 (some .int)).before args s = true) (hfr : 1 ≤ R.frames) (hlo : 100 ≤ R.locals) (hc : nc ≤ R.cells) (hs : ns ≤ R.slots) (hst : (st.map z_cat).sum ≤ 8) (hlt : z_lt B y x = some b) (hd : decode cc pc = .ok (.invokestatic index, 3)) (kk : z_G p l e R s m args below meth c Q xb env kc D cl A H0 ad0 nL (pc + 3) (zl, .inl (if b then y else x) :: st, w, nc, ns)) : z_G p l e R s m args below meth c Q xb env kc D cl A H0 ad0 nL pc (zl, .inl y :: .inl x :: st, w, nc, ns) := by
  intro ls sv ws H locs ⟨h1, h2, h3⟩
  obtain ⟨_, sv', rfl, ⟨v, rfl, hv⟩, h4⟩ := z_st1 h2
  obtain ⟨_, sv'', rfl, ⟨u, rfl, hu⟩, h5⟩ := z_st1 h4
  have hsum : (sv''.map fun v => v.category).sum ≤ 8 := by rw [← z_cats h5]; exact hst
  obtain ⟨lv, hlv, hz⟩ := id h1
  refine va_mmin hx hb (by rw [hml]; exact hlv.1.symm) hown hlink hstat hini hcode hfr (by omega) hc hs hd ?_
  refine kk ls _ ws H locs ⟨h1, ⟨⟨_, rfl, ?_⟩, h5⟩, h3⟩
  have he := z_lt_ok hB hv hu hlt
  cases b with
  | true => rw [if_pos (he.mpr rfl)]; exact hv
  | false => rw [if_neg (show ¬ v < u from fun q => by have := he.mp q; cases this)]; exact hu
end ZN
end
section
/-! ===== calls ===== -/
theorem z_L_un {α β : Type} {R : α → β → Prop} : ∀ {as cs : List α} {bs : List β}, z_L R (as ++ cs) bs → ∃ x y, bs = x ++ y ∧ z_L R as x ∧ z_L R cs y
  | [], _, bs, h => ⟨[], bs, rfl, trivial, h⟩
  | a :: as, cs, [], h => h.elim
  | a :: as, cs, b :: bs, h => by
    obtain ⟨x, y, rfl, h1, h2⟩ := z_L_un (as := as) h.2
    exact ⟨b :: x, y, rfl, ⟨h.1, h1⟩, h2⟩
theorem z_L_rev {α β : Type} {R : α → β → Prop} : ∀ {as : List α} {bs : List β}, z_L R as bs → z_L R as.reverse bs.reverse
  | [], [], _ => trivial
  | a :: as, b :: bs, h => by
    rw [List.reverse_cons, List.reverse_cons]
    exact z_L_app (z_L_rev h.2) ⟨h.1, trivial⟩
  | [], _ :: _, h => h.elim
  | _ :: _, [], h => h.elim
/-- what the machine's tables say beside the words -/
def z_N (NT : List (String × Nat × MethodName × String)) (U : State) : Prop := (∀ q ∈ NT, va_Nw (.methodLinkNest q.1 q.2.1 q.2.2.1 q.2.2.2) U) ∧ va_AO "HeldCoats$State" U ∧ va_AO "HeldCoats$Image" U
theorem z_N_moved {NT : List (String × Nat × MethodName × String)} {s U : State} (hW : s.WarmedH U.vm) (h : z_N NT s) : z_N NT U := ⟨fun q hq => va_Nw.warmM hW (h.1 q hq), va_AO.moved hW.alike h.2.1, va_AO.moved hW.alike h.2.2⟩
def z_pre (NT : List (String × Nat × MethodName × String)) (D : va_G) (cl : List vw_C) (kc : Nat → ClassId) (ws0 : va_W) (sz : Nat) (U : State) : Prop := U.heap.size = sz ∧ va_P D cl ws0 U.heap ∧ va_K D cl (z_TY kc) U ∧ va_D (fun _ => True) ws0 ∧ z_N NT U
def z_post (D : va_G) (cl : List vw_C) (ws0 : va_W) (sz : Nat) (u : va_W) (t : State) : Prop := va_P D cl u t.heap ∧ va_D (va_A ws0 sz) u
def z_ok (xb : Nat) (env : Nat → Int32) (kc : Nat → ClassId) (ws0 : va_W) (w' : zW) (u : va_W) : Prop := z_w xb env kc w' u ∧ ∀ i a, z_ad xb ws0 i = some a → z_ad xb u i = some a
def z_Qc (xb : Nat) (env : Nat → Int32) (kc : Nat → ClassId) (D : va_G) (cl : List vw_C) (ws0 : va_W) (sz : Nat) (w' : zW) (rz : Option zV) : Array Value → State → Outcome → State → Prop := match rz with
  | none => va_Qv (fun u : va_W => z_ok xb env kc ws0 w' u) (z_post D cl ws0 sz) (va_A ws0 sz)
  | some (.inl t) => va_Qi (fun (r : Int32) (u : va_W) => z_i env t r ∧ z_ok xb env kc ws0 w' u) (z_post D cl ws0 sz) (va_A ws0 sz)
  | some (.inr (.inl (some i))) => va_Qr (fun u : va_W => z_ok xb env kc ws0 w' u) (fun u a t => z_ad xb u i = some a ∧ z_post D cl ws0 sz u t) (va_A ws0 sz)
  | _ => fun _ _ _ _ => False
def z_Met (l : Launch) (TB : List Cond) (NT : List (String × Nat × MethodName × String)) (kc : Nat → ClassId) (D : va_G) (cl : List vw_C) (xb : Nat) (env : Nat → Int32) (y : MethodName) (cc : ByteArray) (maxL : Nat) (ret : Option FieldType) (rm : Room) (za : List zV) (w : zW) (rz : Option zV) (w' : zW) (mc ms : Nat) : Prop :=
  ∀ (av : List Value) (ws0 : va_W) (sz : Nat), z_L (z_v env (z_ad xb ws0)) za av → z_w xb env kc w ws0 → Met l y (.code y cc maxL ret :: TB) rm (va_Pc av (z_pre NT D cl kc ws0 sz)) (z_Qc xb env kc D cl ws0 sz w' rz) mc ms (va_A ws0 sz)
theorem z_blind {NT : List (String × Nat × MethodName × String)} {D : va_G} {cl : List vw_C} {kc : Nat → ClassId} {ws0 : va_W} {sz : Nat} {av : List Value} : FrameBlind (va_Pc av (z_pre NT D cl kc ws0 sz)) := fun a U g mk q => by
  obtain ⟨q0, q1, qP, qK, qD, qN⟩ := q
  exact ⟨q0, q1, qP, va_K.moved (u := U) (U := U.calling g mk a) (Vm.Alike.refl U.vm) qK, qD, ⟨fun x hx => va_Nw.same rfl rfl (qN.1 x hx), va_AO.moved (u := U) (U := U.calling g mk a) (Vm.Alike.refl U.vm) qN.2.1, va_AO.moved (u := U) (U := U.calling g mk a) (Vm.Alike.refl U.vm) qN.2.2⟩⟩
section ZC
variable {p : Program} {l : Launch} {e : Env} {R : Room} {s : State} {m : MethodId} {args : Array Value} {below : List Frame} {meth : Method} {c : Code} {Q : State → Prop} {cc : ByteArray}
variable {xb : Nat} {env : Nat → Int32} {kc : Nat → ClassId} {D : va_G} {cl : List vw_C} {A : Nat → Prop} {H0 : Heap} {ad0 : Nat → Option Nat} {nL : Nat}
variable {zl : List (Nat × zV)} {st : List zV} {w : zW} {nc ns pc : Nat} {NT : List (String × Nat × MethodName × String)} {TB : List Cond}
theorem z_after {rz : Option zV} {w' : zW} {mc ms : Nat} {rest : List zV} {ls : Array Slot} {st0 svr : List Value} {ws : va_W} {H : Heap} {locs : List Loc} {a : Array Value} (hr : va_Run p l e R s m args below meth c H locs nc ns mc ms (F0 m pc ls st0) svr (z_Qc xb env kc D cl ws H.size w' rz a) (va_A ws H.size)) (hA : ∀ q, H0.size ≤ q → A q) (h1 : z_l env (z_ad xb ws) nL zl ls) (h2 : z_L (z_v env (z_ad xb ws)) rest svr) (h6 : ∀ i a, ad0 i = some a → z_ad xb ws i = some a) (hP : va_P D cl ws H) (hD : va_D A ws) (hS : va_S A H0 H locs) (kk : z_G p l e R s m args below meth c Q xb env kc D cl A H0 ad0 nL (pc + 3) (zl, rz.toList ++ rest, w', nc + mc, ns + ms)) : W p l e R s m args below meth c H locs nc ns Q (F0 m pc ls st0) := by
  have hAA : ∀ q, va_A ws H.size q → A q := by
    intro q hq
    rcases hq with ⟨k, e1, hk⟩ | hq
    · exact hD.2 k (q, e1) hk
    · exact hA q (Nat.le_trans hS.1 hq)
  have hgo : ∀ (u : va_W) (H1 : Heap) (locs1 : List Loc) (sr : List Value), z_ok xb env kc ws w' u → va_P D cl u H1 → va_D (va_A ws H.size) u → va_S A H0 H1 locs1 → z_L (z_v env (z_ad xb u)) rz.toList sr → W p l e R s m args below meth c H1 locs1 (nc + mc) (ns + ms) Q (F0 m (pc + 3) ls (sr ++ svr)) := by
    intro u H1 locs1 sr hu hP1 hD1 hS1 hsr
    exact kk ls _ u H1 locs1 ⟨z_l_mono hu.2 h1, z_L_app hsr (z_L_mono (z_v_mono hu.2) h2), hu.1, fun i b hi => hu.2 i b (h6 i b hi), hP1, hD1.weaken (fun _ _ _ h => hAA _ h), hS1⟩
  match rz, hr, hgo with
  | none, hr, hgo =>
    refine va_callv (a := a) hr hS (fun q _ h => hAA q h) hAA (fun u t H1 locs1 ht hvm hw hB hz1 hk1 hS1 => ?_)
    exact hgo u H1 locs1 [] hw (by rw [← ht]; exact hB.1) hB.2 hS1 trivial
  | some (.inl t0), hr, hgo =>
    refine va_calli (a := a) hr hS (fun q _ h => hAA q h) hAA (fun r u t H1 locs1 ht hvm hw hB hz1 hk1 hS1 => ?_)
    exact hgo u H1 locs1 [.int r] hw.2 (by rw [← ht]; exact hB.1) hB.2 hS1 ⟨⟨r, rfl, hw.1⟩, trivial⟩
  | some (.inr (.inl (some i))), hr, hgo =>
    refine va_callr (a := a) hr hS (fun q _ h => hAA q h) hAA (fun u ra t H1 locs1 ht hvm hw hB hz1 hk1 hS1 => ?_)
    exact hgo u H1 locs1 [.ref ra] hw (by rw [← ht]; exact hB.2.1) hB.2.2 hS1 ⟨⟨ra, hB.1, rfl⟩, trivial⟩
  | some (.inr (.inl none)), hr, _ =>
    intro T hT X
    obtain ⟨v, st₀, t, T', L, _, _, _, _, _, hq, _⟩ := hr T hT X
    exact hq.elim
  | some (.inr (.inr _)), hr, _ =>
    intro T hT X
    obtain ⟨v, st₀, t, T', L, _, _, _, _, _, hq, _⟩ := hr T hT X
    exact hq.elim
theorem z_good {y : MethodName} {cy : ByteArray} {maxL : Nat} {ret : Option FieldType} (hg : ∀ w ∈ TB, goodWord w = true) (hc : Cond.code y cy maxL ret ∈ TB) : GoodIn TB (Cond.code y cy maxL ret :: TB) := by
  intro w hw
  rcases List.mem_cons.mp hw with rfl | hw
  · exact ⟨hc, good_of_word (hg _ hc)⟩
  · exact ⟨hw, good_of_word (hg _ hw)⟩
/-- what is said of a method that is called -/
def z_Y (TB : List Cond) (y : MethodName) (cy : ByteArray) (maxL n : Nat) (ret : Option FieldType) : Prop :=
  Cond.code y cy maxL ret ∈ TB ∧ Cond.initialized y.cls ∈ TB ∧ (y.cls ≠ "java/lang/invoke/MethodHandle" ∧ y.cls ≠ "java/lang/invoke/VarHandle" ∧ (parseMethodDescriptor y.desc).map (fun d => d.parameters.length) = some n)
theorem z_callV (hx : p.tables.exec = Jvm.exec) (hb : c.code = cc) {own : String} {index maxL n r ci : Nat} {y : MethodName} {cy : ByteArray} {ret : Option FieldType} {rm : Room} {za : List zV} {rest : List zV} {rz : Option zV} {w' : zW} {mc ms : Nat} {T : u_T} {N : Nat} {fs : List zV} (hg : ∀ w ∈ TB, goodWord w = true) (hts : ∀ w ∈ TB, w.before args s = true) (hown : s.vm.findClass own = some m.cls) (hml : c.maxLocals = nL) (hK : va_K D cl (z_TY kc) s) (hN : z_N NT s) (hA : ∀ q, H0.size ≤ q → A q)
    (hy : z_Y TB y cy maxL n ret) (hl : Cond.methodLink own index y ∈ TB ∨ ∃ host, (own, index, y, host) ∈ NT) (hin : Cond.instanceMethod y ∈ TB) (hsel : Cond.selects y.cls y y ∈ TB) (hcl : cl[ci]? = some (y.cls, T, N)) (hw : w[r]? = some (.inl (ci, fs))) (hM : z_Met l TB NT kc D cl xb env y cy maxL ret rm (.inr (.inl (some (r + 1))) :: za) w rz w' mc ms) (hrc : rm.cells = mc) (hrs : rm.slots = ms) (hR : rm.frames + 1 ≤ R.frames ∧ 8 + (maxL + 11) + rm.locals ≤ R.locals) (hn : za.length = n) (hst : (rest.map z_cat).sum ≤ 8) (hd : decode cc pc = .ok (.invokevirtual index, 3)) (hf : nc + mc ≤ R.cells ∧ ns + ms ≤ R.slots) (kk : z_G p l e R s m args below meth c Q xb env kc D cl A H0 ad0 nL (pc + 3) (zl, rz.toList ++ rest, w', nc + mc, ns + ms)) : z_G p l e R s m args below meth c Q xb env kc D cl A H0 ad0 nL pc (zl, za.reverse ++ .inr (.inl (some (r + 1))) :: rest, w, nc, ns) := by
  intro ls sv ws H locs ⟨h1, h2, h3, h6, hP, hD, hS⟩
  obtain ⟨sa, sb, rfl, ha, hb2⟩ := z_L_un h2
  obtain ⟨_, svr, rfl, ⟨b, hb1, rfl⟩, h5⟩ := z_st1 hb2
  have ha2 : z_L (z_v env (z_ad xb ws)) za sa.reverse := by rw [← List.reverse_reverse za]; exact z_L_rev ha
  obtain ⟨b', _, hws, hb', vs, rfl, hvs⟩ := z_w_get h3 hw
  obtain rfl : b = b' := Option.some.inj (hb1.symm.trans hb')
  have hsum : (svr.map fun v => v.category).sum ≤ 8 := by rw [← z_cats h5]; exact hst
  obtain ⟨lv, hlv, hz⟩ := id h1
  have hM' := hM (.ref b :: sa.reverse) ws H.size ⟨⟨b, hb1, rfl⟩, ha2⟩ h3
  have hp : PreV s H y.cls b (va_Pc (.ref b :: sa.reverse) (z_pre NT D cl kc ws H.size)) sa.reverse := ⟨z_blind, va_recv (q := (y.cls, T, N)) hK hP hcl hws, fun U hU hW => ⟨rfl, by rw [hU], by rw [hU]; exact hP, va_K.moved hW.alike hK, hD.weaken (fun _ _ _ _ => trivial), z_N_moved hW hN⟩⟩
  have hlen : sa.reverse.length = n := by rw [← z_L_len ha2]; exact hn
  have hstk : (F0 m pc ls (sa ++ Value.ref b :: svr)).stack = sa.reverse.reverse ++ .ref b :: svr := by rw [List.reverse_reverse]
  have hrun : va_Run p l e R s m args below meth c H locs nc ns mc ms (F0 m pc ls (sa ++ Value.ref b :: svr)) svr (z_Qc xb env kc D cl ws H.size w' rz (Value.ref b :: sa.reverse).toArray) (va_A ws H.size) := by
    rcases hl with hl | ⟨host, hl⟩
    · exact va_runV ⟨hx, hb, hml, hown, hts⟩ hM' ⟨callB_of n hts (z_good hg hy.1) rfl hrc hrs (hts _ hy.2.1) (hts _ hl) hy.2.2 hR, hts _ hin, hts _ hsel⟩ hp rfl hlen hlv.1 hstk (lv_room hsum) hd hf
    · exact va_runVN ⟨hx, hb, hml, hown, hts⟩ hM' ⟨va_cnB n hts (z_good hg hy.1) rfl hrc hrs (hN.1 _ hl) (hts _ hy.2.1) hy.2.2 hR, hts _ hin, hts _ hsel⟩ hp rfl hlen hlv.1 hstk (lv_room hsum) hd hf
  exact z_after hrun hA h1 h5 h6 hP hD hS kk
theorem z_callI (hx : p.tables.exec = Jvm.exec) (hb : c.code = cc) {own : String} {index maxL n r : Nat} {y : MethodName} {cy : ByteArray} {rm : Room} {za : List zV} {rest : List zV} {w' : zW} {mc ms : Nat} (hg : ∀ w ∈ TB, goodWord w = true) (hts : ∀ w ∈ TB, w.before args s = true) (hown : s.vm.findClass own = some m.cls) (hml : c.maxLocals = nL) (hK : va_K D cl (z_TY kc) s) (hN : z_N NT s) (hA : ∀ q, H0.size ≤ q → A q)
    (hy : z_Y TB y cy maxL n none) (hl : Cond.methodLink own index y ∈ TB ∨ ∃ host, (own, index, y, host) ∈ NT) (hin : Cond.instanceMethod y ∈ TB) (hni : y.name = "<init>") (hM : z_Met l TB NT kc D cl xb env y cy maxL none rm (.inr (.inl (some r)) :: za) w none w' mc ms) (hrc : rm.cells = mc) (hrs : rm.slots = ms) (hR : rm.frames + 1 ≤ R.frames ∧ 8 + (maxL + 11) + rm.locals ≤ R.locals) (hn : za.length = n) (hst : (rest.map z_cat).sum ≤ 8) (hd : decode cc pc = .ok (.invokespecial index, 3)) (hf : nc + mc ≤ R.cells ∧ ns + ms ≤ R.slots) (kk : z_G p l e R s m args below meth c Q xb env kc D cl A H0 ad0 nL (pc + 3) (zl, rest, w', nc + mc, ns + ms)) : z_G p l e R s m args below meth c Q xb env kc D cl A H0 ad0 nL pc (zl, za.reverse ++ .inr (.inl (some r)) :: rest, w, nc, ns) := by
  intro ls sv ws H locs ⟨h1, h2, h3, h6, hP, hD, hS⟩
  obtain ⟨sa, sb, rfl, ha, hb2⟩ := z_L_un h2
  obtain ⟨_, svr, rfl, ⟨b, hb1, rfl⟩, h5⟩ := z_st1 hb2
  have ha2 : z_L (z_v env (z_ad xb ws)) za sa.reverse := by rw [← List.reverse_reverse za]; exact z_L_rev ha
  have hsum : (svr.map fun v => v.category).sum ≤ 8 := by rw [← z_cats h5]; exact hst
  obtain ⟨lv, hlv, hz⟩ := id h1
  have hM' := hM (.ref b :: sa.reverse) ws H.size ⟨⟨b, hb1, rfl⟩, ha2⟩ h3
  have hp : PreS s H (va_Pc (.ref b :: sa.reverse) (z_pre NT D cl kc ws H.size)) (.ref b :: sa.reverse) := ⟨z_blind, fun U hU hW => ⟨rfl, by rw [hU], by rw [hU]; exact hP, va_K.moved hW.alike hK, hD.weaken (fun _ _ _ _ => trivial), z_N_moved hW hN⟩⟩
  have hlen : sa.reverse.length = n := by rw [← z_L_len ha2]; exact hn
  have hstk : (F0 m pc ls (sa ++ Value.ref b :: svr)).stack = sa.reverse.reverse ++ .ref b :: svr := by rw [List.reverse_reverse]
  have hrun : va_Run p l e R s m args below meth c H locs nc ns mc ms (F0 m pc ls (sa ++ Value.ref b :: svr)) svr (z_Qc xb env kc D cl ws H.size w' none (Value.ref b :: sa.reverse).toArray) (va_A ws H.size) := by
    rcases hl with hl | ⟨host, hl⟩
    · exact va_runI ⟨hx, hb, hml, hown, hts⟩ hM' ⟨callB_of n hts (z_good hg hy.1) rfl hrc hrs (hts _ hy.2.1) (hts _ hl) hy.2.2 hR, hni, hts _ hin⟩ hp rfl hlen hlv.1 hstk (lv_room hsum) hd hf
    · exact va_runIN ⟨hx, hb, hml, hown, hts⟩ hM' ⟨va_cnB n hts (z_good hg hy.1) rfl hrc hrs (hN.1 _ hl) (hts _ hy.2.1) hy.2.2 hR, hni, hts _ hin⟩ hp rfl hlen hlv.1 hstk (lv_room hsum) hd hf
  exact z_after hrun hA h1 h5 h6 hP hD hS kk
theorem z_callS (hx : p.tables.exec = Jvm.exec) (hb : c.code = cc) {own : String} {index maxL n : Nat} {y : MethodName} {cy : ByteArray} {ret : Option FieldType} {rm : Room} {za : List zV} {rest : List zV} {rz : Option zV} {w' : zW} {mc ms : Nat} (hg : ∀ w ∈ TB, goodWord w = true) (hts : ∀ w ∈ TB, w.before args s = true) (hown : s.vm.findClass own = some m.cls) (hml : c.maxLocals = nL) (hK : va_K D cl (z_TY kc) s) (hN : z_N NT s) (hA : ∀ q, H0.size ≤ q → A q)
    (hy : z_Y TB y cy maxL n ret) (hl : Cond.methodLink own index y ∈ TB ∨ ∃ host, (own, index, y, host) ∈ NT) (hsta : Cond.static y ∈ TB) (hM : z_Met l TB NT kc D cl xb env y cy maxL ret rm za w rz w' mc ms) (hrc : rm.cells = mc) (hrs : rm.slots = ms) (hR : rm.frames + 1 ≤ R.frames ∧ 8 + (maxL + 11) + rm.locals ≤ R.locals) (hn : za.length = n) (hst : (rest.map z_cat).sum ≤ 8) (hd : decode cc pc = .ok (.invokestatic index, 3)) (hf : nc + mc ≤ R.cells ∧ ns + ms ≤ R.slots) (kk : z_G p l e R s m args below meth c Q xb env kc D cl A H0 ad0 nL (pc + 3) (zl, rz.toList ++ rest, w', nc + mc, ns + ms)) : z_G p l e R s m args below meth c Q xb env kc D cl A H0 ad0 nL pc (zl, za.reverse ++ rest, w, nc, ns) := by
  intro ls sv ws H locs ⟨h1, h2, h3, h6, hP, hD, hS⟩
  obtain ⟨sa, svr, rfl, ha, h5⟩ := z_L_un h2
  have ha2 : z_L (z_v env (z_ad xb ws)) za sa.reverse := by rw [← List.reverse_reverse za]; exact z_L_rev ha
  have hsum : (svr.map fun v => v.category).sum ≤ 8 := by rw [← z_cats h5]; exact hst
  obtain ⟨lv, hlv, hz⟩ := id h1
  have hM' := hM sa.reverse ws H.size ha2 h3
  have hp : PreS s H (va_Pc sa.reverse (z_pre NT D cl kc ws H.size)) sa.reverse := ⟨z_blind, fun U hU hW => ⟨rfl, by rw [hU], by rw [hU]; exact hP, va_K.moved hW.alike hK, hD.weaken (fun _ _ _ _ => trivial), z_N_moved hW hN⟩⟩
  have hlen : sa.reverse.length = n := by rw [← z_L_len ha2]; exact hn
  have hstk : (F0 m pc ls (sa ++ svr)).stack = sa.reverse.reverse ++ svr := by rw [List.reverse_reverse]
  have hrun : va_Run p l e R s m args below meth c H locs nc ns mc ms (F0 m pc ls (sa ++ svr)) svr (z_Qc xb env kc D cl ws H.size w' rz sa.reverse.toArray) (va_A ws H.size) := by
    rcases hl with hl | ⟨host, hl⟩
    · exact va_runS ⟨hx, hb, hml, hown, hts⟩ hM' ⟨callB_of n hts (z_good hg hy.1) rfl hrc hrs (hts _ hy.2.1) (hts _ hl) hy.2.2 hR, hts _ hsta⟩ hp rfl hlen hlv.1 hstk (lv_room hsum) hd hf
    · exact va_runSN ⟨hx, hb, hml, hown, hts⟩ hM' ⟨va_cnB n hts (z_good hg hy.1) rfl hrc hrs (hN.1 _ hl) (hts _ hy.2.1) hy.2.2 hR, hts _ hsta, trivial⟩ hp rfl hlen hlv.1 hstk (lv_room hsum) hd hf
  exact z_after hrun hA h1 h5 h6 hP hD hS kk
end ZC
section ZR
variable {p : Program} {l : Launch} {e : Env} {R : Room} {s : State} {m : MethodId} {args : Array Value} {below : List Frame} {meth : Method} {c : Code} {cc : ByteArray}
variable {xb : Nat} {env : Nat → Int32} {kc : Nat → ClassId} {D : va_G} {cl : List vw_C} {ws0 : va_W} {sz : Nat} {nL : Nat} {zl : List (Nat × zV)} {w : zW} {nc ns pc mc ms : Nat}
theorem z_iret (hx : p.tables.exec = Jvm.exec) (hb : c.code = cc) {ty : FieldType} {t : zI} (hr : meth.sig.returnType = some ty) (hlocks : meth.locks = false) (hfit : z_fit ty (.inl t) = true) (h1 : nc ≤ mc) (h2 : ns ≤ ms) (hd : decode cc pc = .ok (.ireturn, 1)) : z_G p l e R s m args below meth c (MQ below (z_Qc xb env kc D cl ws0 sz w (some (.inl t))) args s mc ms (va_A ws0 sz)) xb env kc D cl (va_A ws0 sz) s.heap (z_ad xb ws0) nL pc (zl, [.inl t], w, nc, ns) := by
  intro ls sv ws H locs ⟨_, g2, g3, g6, hP, hD, hS⟩
  obtain ⟨_, sv', rfl, ⟨x, rfl, hx1⟩, g4⟩ := z_st1 g2
  obtain rfl : sv' = [] := by
    cases sv' with
    | nil => rfl
    | cons _ _ => exact g4.elim
  refine W.widen (k := mc) (n := ms) h1 h2 ?_
  exact W.zret hx hb hr (z_fit_ok (ad := z_ad xb ws) hfit ⟨x, rfl, hx1⟩).1 (fun t' ht hW => ⟨⟨x, ws, rfl, ⟨hx1, g3, g6⟩, by rw [ht]; exact hP, hD⟩, hS.F ht⟩) hS.2.2 hd hlocks
theorem z_vret (hx : p.tables.exec = Jvm.exec) (hb : c.code = cc) (hr : meth.sig.returnType = none) (hlocks : meth.locks = false) (h1 : nc ≤ mc) (h2 : ns ≤ ms) (hd : decode cc pc = .ok (.return_, 1)) : z_G p l e R s m args below meth c (MQ below (z_Qc xb env kc D cl ws0 sz w none) args s mc ms (va_A ws0 sz)) xb env kc D cl (va_A ws0 sz) s.heap (z_ad xb ws0) nL pc (zl, [], w, nc, ns) := by
  intro ls sv ws H locs ⟨_, g2, g3, g6, hP, hD, hS⟩
  obtain rfl : sv = [] := by
    cases sv with
    | nil => rfl
    | cons _ _ => exact g2.elim
  refine W.widen (k := mc) (n := ms) h1 h2 ?_
  exact W.vret hx hb hr (fun t' ht hW => ⟨⟨ws, rfl, ⟨g3, g6⟩, by rw [ht]; exact hP, hD⟩, hS.F ht⟩) hS.2.2 hd (hlocks := hlocks)
theorem z_aret (hx : p.tables.exec = Jvm.exec) (hb : c.code = cc) {n : String} {i : Nat} (hr : meth.sig.returnType = some (.object n)) (hlocks : meth.locks = false) (h1 : nc ≤ mc) (h2 : ns ≤ ms) (hd : decode cc pc = .ok (.areturn, 1)) : z_G p l e R s m args below meth c (MQ below (z_Qc xb env kc D cl ws0 sz w (some (.inr (.inl (some i))))) args s mc ms (va_A ws0 sz)) xb env kc D cl (va_A ws0 sz) s.heap (z_ad xb ws0) nL pc (zl, [.inr (.inl (some i))], w, nc, ns) := by
  intro ls sv ws H locs ⟨_, g2, g3, g6, hP, hD, hS⟩
  obtain ⟨_, sv', rfl, ⟨a, ha, rfl⟩, g4⟩ := z_st1 g2
  obtain rfl : sv' = [] := by
    cases sv' with
    | nil => rfl
    | cons _ _ => exact g4.elim
  refine W.widen (k := mc) (n := ms) h1 h2 ?_
  exact W.aret hx hb hr (Or.inl ⟨n, rfl⟩) (Or.inr ⟨a, rfl⟩) (fun t' ht hW => ⟨⟨ws, a, rfl, ⟨g3, g6⟩, ha, by rw [ht]; exact hP, hD⟩, hS.F ht⟩) hS.2.2 hd (hlocks := hlocks)
end ZR
end
section
/-! ===== the run ===== -/
abbrev zE : Type := Nat × Instr × List Nat
/-- a method: its name, code, locals, answer, rows, cells and slots that it makes at most, arguments -/
abbrev zM : Type := MethodName × ByteArray × Nat × Option FieldType × List zE × Nat × Nat × Nat
def z_find : List zE → Nat → Option (Instr × List Nat)
  | [], _ => none
  | (k, I, inf) :: r, pc => if k = pc then some (I, inf) else z_find r pc
theorem z_find_in : ∀ {t : List zE} {pc : Nat} {I : Instr} {inf : List Nat}, z_find t pc = some (I, inf) → (pc, I, inf) ∈ t
  | [], _, _, _, h => by cases h
  | (k, J, jnf) :: r, pc, I, inf, h => by
    unfold z_find at h
    by_cases hk : k = pc
    · rw [if_pos hk] at h
      cases h
      subst hk
      exact List.mem_cons_self
    · rw [if_neg hk] at h
      exact List.mem_cons_of_mem _ (z_find_in h)
def z_len (I : Instr) (inf : List Nat) : Nat := match I with
  | .bipush _ => 2
  | .sipush _ => 3
  | .ldc2_w _ => 3
  | .iload _ => 2
  | .aload _ => 2
  | .istore _ => 2
  | .astore _ => 2
  | .iinc _ _ => 3
  | .goto _ => 3
  | .if_icmp _ _ => 3
  | .ifCond _ _ => 3
  | .getfield _ => 3
  | .putfield _ => 3
  | .new _ => 3
  | .newarray _ => 2
  | .anewarray _ => 3
  | .invokespecial _ => 3
  | .invokestatic _ => 3
  | .invokevirtual _ => 3
  | .tableswitch _ _ _ _ => inf.headD 0
  | _ => 1
def z_x (B : List (Int × Int)) (TF : Nat → Nat → FieldType) (DF : Nat → List zV) (C S nL : Nat) (I : Instr) (inf : List Nat) (pc : Nat) (z : zS) : Option (Nat × zS) :=
  match z with
  | (zl, st, w, nc, ns) => match I with
    | .iconst n => some (pc + 1, (zl, .inl (.inl (some (Int32.ofInt n))) :: st, w, nc, ns))
    | .bipush n => some (pc + 2, (zl, .inl (.inl (some (Int8.ofInt n).toInt32)) :: st, w, nc, ns))
    | .sipush n => some (pc + 3, (zl, .inl (.inl (some (Int16.ofInt n).toInt32)) :: st, w, nc, ns))
    | .lconst _ => some (pc + 1, (zl, .inr (.inr ()) :: st, w, nc, ns))
    | .ldc2_w _ => some (pc + 3, (zl, .inr (.inr ()) :: st, w, nc, ns))
    | .iload i => match z_get zl i with
      | some (.inl t) => some (pc + 2, (zl, .inl t :: st, w, nc, ns))
      | _ => none
    | .iload_n k => match z_get zl (k : Nat) with
      | some (.inl t) => some (pc + 1, (zl, .inl t :: st, w, nc, ns))
      | _ => none
    | .aload i => match z_get zl i with
      | some (.inr (.inl (some r))) => some (pc + 2, (zl, .inr (.inl (some r)) :: st, w, nc, ns))
      | _ => none
    | .aload_n k => match z_get zl (k : Nat) with
      | some (.inr (.inl (some r))) => some (pc + 1, (zl, .inr (.inl (some r)) :: st, w, nc, ns))
      | _ => none
    | .istore i => match st with
      | .inl t :: rest => if i < nL then some (pc + 2, (z_put zl i (.inl t), rest, w, nc, ns)) else none
      | _ => none
    | .istore_n k => match st with
      | .inl t :: rest => if (k : Nat) < nL then some (pc + 1, (z_put zl (k : Nat) (.inl t), rest, w, nc, ns)) else none
      | _ => none
    | .astore i => match st with
      | .inr (.inl (some r)) :: rest => if i < nL then some (pc + 2, (z_put zl i (.inr (.inl (some r))), rest, w, nc, ns)) else none
      | _ => none
    | .astore_n k => match st with
      | .inr (.inl (some r)) :: rest => if (k : Nat) < nL then some (pc + 1, (z_put zl (k : Nat) (.inr (.inl (some r))), rest, w, nc, ns)) else none
      | _ => none
    | .iinc i n => match z_get zl i with
      | some (.inl t) => if i < nL then some (pc + 3, (z_put zl i (.inl (z_add t (.inl (some (Int32.ofInt n))))), st, w, nc, ns)) else none
      | _ => none
    | .dup => match st with
      | t :: rest => if z_cat t = 1 then some (pc + 1, (zl, t :: t :: rest, w, nc, ns)) else none
      | _ => none
    | .dup2 => match st with
      | t :: u :: rest => if z_cat t = 1 ∧ z_cat u = 1 then some (pc + 1, (zl, t :: u :: t :: u :: rest, w, nc, ns)) else none
      | _ => none
    | .pop => match st with
      | t :: rest => if z_cat t = 1 then some (pc + 1, (zl, rest, w, nc, ns)) else none
      | _ => none
    | .goto off => match z_tgt pc off with
      | some t => some (t, (zl, st, w, nc, ns))
      | none => none
    | .i2l => match st with
      | .inl _ :: rest => some (pc + 1, (zl, .inr (.inr ()) :: rest, w, nc, ns))
      | _ => none
    | .i2b => match st with
      | .inl _ :: rest => some (pc + 1, (zl, .inl (.inl none) :: rest, w, nc, ns))
      | _ => none
    | .iadd => match st with
      | .inl y :: .inl x :: rest => some (pc + 1, (zl, .inl (z_add x y) :: rest, w, nc, ns))
      | _ => none
    | .iand => match st with
      | .inl y :: .inl x :: rest => some (pc + 1, (zl, .inl (z_and x y) :: rest, w, nc, ns))
      | _ => none
    | .isub => match st with
      | .inl y :: .inl x :: rest => some (pc + 1, (zl, .inl (z_op2 (fun a b => a - b) x y) :: rest, w, nc, ns))
      | _ => none
    | .imul => match st with
      | .inl y :: .inl x :: rest => some (pc + 1, (zl, .inl (z_op2 (fun a b => a * b) x y) :: rest, w, nc, ns))
      | _ => none
    | .ior => match st with
      | .inl y :: .inl x :: rest => some (pc + 1, (zl, .inl (z_op2 (fun a b => a ||| b) x y) :: rest, w, nc, ns))
      | _ => none
    | .ixor => match st with
      | .inl y :: .inl x :: rest => some (pc + 1, (zl, .inl (z_op2 (fun a b => a ^^^ b) x y) :: rest, w, nc, ns))
      | _ => none
    | .ishl => match st with
      | .inl y :: .inl x :: rest => some (pc + 1, (zl, .inl (z_op2 (fun a b => a <<< (b &&& 31)) x y) :: rest, w, nc, ns))
      | _ => none
    | .ishr => match st with
      | .inl y :: .inl x :: rest => some (pc + 1, (zl, .inl (z_op2 (fun a b => a >>> (b &&& 31)) x y) :: rest, w, nc, ns))
      | _ => none
    | .iushr => match st with
      | .inl _ :: .inl _ :: rest => some (pc + 1, (zl, .inl (.inl none) :: rest, w, nc, ns))
      | _ => none
    | .if_icmp k off => match st with
      | .inl y :: .inl x :: rest => match z_tgt pc off with
        | some t => match z_cond B k x y with
          | some b => some (if b then t else pc + 3, (zl, rest, w, nc, ns))
          | none => none
        | none => none
      | _ => none
    | .ifCond k off => match st with
      | .inl x :: rest => match z_tgt pc off with
        | some t => match z_cond B k x (.inl (some 0)) with
          | some b => some (if b then t else pc + 3, (zl, rest, w, nc, ns))
          | none => none
        | none => none
      | _ => none
    | .tableswitch d lo hi offs => match st with
      | .inl t :: rest => match z_sw B pc d lo hi offs t with
        | some tgt => some (tgt, (zl, rest, w, nc, ns))
        | none => none
      | _ => none
    | .getfield _ => match inf, st with
      | [ci, k], .inr (.inl (some (r + 1))) :: rest => match w[r]? with
        | some (.inl (cj, fs)) => if cj = ci then match fs[k]? with
            | some v => some (pc + 3, (zl, v :: rest, w, nc, ns))
            | none => none
          else none
        | _ => none
      | _, _ => none
    | .putfield _ => match inf, st with
      | [ci, k], v :: .inr (.inl (some (r + 1))) :: rest => match w[r]? with
        | some (.inl (cj, fs)) => if cj = ci ∧ k < fs.length ∧ z_fit (TF ci k) v = true then some (pc + 3, (zl, rest, w.set r (.inl (cj, fs.set k v)), nc, ns)) else none
        | _ => none
      | _, _ => none
    | .iaload => match st with
      | .inl t :: .inr (.inl (some (r + 1))) :: rest => match w[r]? with
        | some (.inr (.inl (0, es))) => match z_ix B t es.length with
          | some k => match es[k]? with
            | some x => some (pc + 1, (zl, .inl x :: rest, w, nc, ns))
            | none => none
          | none => none
        | _ => none
      | _ => none
    | .baload => match st with
      | .inl t :: .inr (.inl (some (r + 1))) :: rest => match w[r]? with
        | some (.inr (.inl (3, es))) => match z_ix B t es.length with
          | some k => match es[k]? with
            | some x => some (pc + 1, (zl, .inl x :: rest, w, nc, ns))
            | none => none
          | none => none
        | _ => none
      | _ => none
    | .iastore => match st with
      | .inl v :: .inl t :: .inr (.inl (some (r + 1))) :: rest => match w[r]? with
        | some (.inr (.inl (0, es))) => match z_ix B t es.length with
          | some k => some (pc + 1, (zl, rest, w.set r (.inr (.inl (0, es.set k v))), nc, ns))
          | none => none
        | _ => none
      | _ => none
    | .bastore => match st with
      | .inl v :: .inl t :: .inr (.inl (some (r + 1))) :: rest => match w[r]? with
        | some (.inr (.inl (2, es))) => match z_ix B t es.length with
          | some k => some (pc + 1, (zl, rest, w.set r (.inr (.inl (2, es.set k (.inl none)))), nc, ns))
          | none => none
        | some (.inr (.inl (3, es))) => match z_ix B t es.length with
          | some k => match v with
            | .inl (some v0) => if v0 = 0 ∨ v0 = 1 then some (pc + 1, (zl, rest, w.set r (.inr (.inl (3, es.set k (.inl (some v0))))), nc, ns)) else none
            | _ => none
          | none => none
        | _ => none
      | _ => none
    | .laload => match st with
      | .inl t :: .inr (.inl (some (r + 1))) :: rest => match w[r]? with
        | some (.inr (.inr (.inl n))) => match z_ix B t n with
          | some _ => some (pc + 1, (zl, .inr (.inr ()) :: rest, w, nc, ns))
          | none => none
        | _ => none
      | _ => none
    | .lastore => match st with
      | .inr (.inr _) :: .inl t :: .inr (.inl (some (r + 1))) :: rest => match w[r]? with
        | some (.inr (.inr (.inl n))) => match z_ix B t n with
          | some _ => some (pc + 1, (zl, rest, w, nc, ns))
          | none => none
        | _ => none
      | _ => none
    | .aaload => match st with
      | .inl t :: .inr (.inl (some (r + 1))) :: rest => match w[r]? with
        | some (.inr (.inr (.inr (kt, es)))) => if kt = 4 ∨ kt = 5 then match z_ix B t es.length with
            | some k => match es[k]? with
              | some (some q) => some (pc + 1, (zl, .inr (.inl (some q)) :: rest, w, nc, ns))
              | _ => none
            | none => none
          else none
        | _ => none
      | _ => none
    | .aastore => match st with
      | .inr (.inl (some (q + 1))) :: .inl t :: .inr (.inl (some (r + 1))) :: rest => match w[r]? with
        | some (.inr (.inr (.inr (kt, es)))) => match w[q]? with
          | some (.inl (ci, _)) => if (kt = 4 ∧ ci = 9) ∨ (kt = 5 ∧ ci = 2) then match z_ix B t es.length with
              | some k => some (pc + 1, (zl, rest, w.set r (.inr (.inr (.inr (kt, es.set k (some (q + 1)))))), nc, ns))
              | none => none
            else none
          | _ => none
        | _ => none
      | _ => none
    | .arraylength => match st with
      | .inr (.inl (some (r + 1))) :: rest => match w[r]? with
        | some (.inr (.inl (0, es))) => some (pc + 1, (zl, .inl (.inl (some (Int32.ofNat es.length))) :: rest, w, nc, ns))
        | _ => none
      | _ => none
    | .new _ => match inf with
      | [ci, N] => if nc + 1 ≤ C ∧ ns + N ≤ S then some (pc + 3, (zl, .inr (.inl (some (w.length + 1))) :: st, w ++ [.inl (ci, DF ci)], nc + 1, ns + N)) else none
      | _ => none
    | .newarray at0 => match st with
      | .inl (.inl (some t)) :: rest => if ¬ t < 0 ∧ t.toNatClampNeg ≤ 100000 ∧ nc + 1 ≤ C ∧ ns + t.toNatClampNeg ≤ S then match at0 with
          | .int => some (pc + 2, (zl, .inr (.inl (some (w.length + 1))) :: rest, w ++ [.inr (.inl (0, List.replicate t.toNatClampNeg (.inl (some 0))))], nc + 1, ns + t.toNatClampNeg))
          | .byte => some (pc + 2, (zl, .inr (.inl (some (w.length + 1))) :: rest, w ++ [.inr (.inl (2, List.replicate t.toNatClampNeg (.inl (some 0))))], nc + 1, ns + t.toNatClampNeg))
          | .boolean => some (pc + 2, (zl, .inr (.inl (some (w.length + 1))) :: rest, w ++ [.inr (.inl (3, List.replicate t.toNatClampNeg (.inl (some 0))))], nc + 1, ns + t.toNatClampNeg))
          | .long => some (pc + 2, (zl, .inr (.inl (some (w.length + 1))) :: rest, w ++ [.inr (.inr (.inl t.toNatClampNeg))], nc + 1, ns + t.toNatClampNeg))
          | _ => none
        else none
      | _ => none
    | .anewarray _ => match inf, st with
      | [kt], .inl (.inl (some t)) :: rest => if ¬ t < 0 ∧ t.toNatClampNeg ≤ 100000 ∧ nc + 1 ≤ C ∧ ns + t.toNatClampNeg ≤ S then some (pc + 3, (zl, .inr (.inl (some (w.length + 1))) :: rest, w ++ [.inr (.inr (.inr (kt, List.replicate t.toNatClampNeg none)))], nc + 1, ns + t.toNatClampNeg)) else none
      | _, _ => none
    | .invokespecial _ => match inf, st with
      | [0], .inr (.inl (some _)) :: rest => if (rest.map z_cat).sum ≤ 8 then some (pc + 3, (zl, rest, w, nc, ns)) else none
      | _, _ => none
    | .invokestatic _ => match inf, st with
      | [0], .inl (.inl (some n)) :: .inl (.inl (some z1)) :: .inr (.inl (some (r1 + 1))) :: .inl (.inl (some z0)) :: .inr (.inl (some (r0 + 1))) :: rest =>
        if z1 = 0 ∧ z0 = 0 ∧ ¬ n < 0 ∧ (rest.map z_cat).sum ≤ 8 then match w[r0]?, w[r1]? with
          | some (.inr (.inl (0, es0))), some (.inr (.inl (0, es1))) => if es0.length = es1.length ∧ n.toNatClampNeg = es0.length then some (pc + 3, (zl, rest, w.set r1 (.inr (.inl (0, es0))), nc, ns)) else none
          | some (.inr (.inr (.inl n0))), some (.inr (.inr (.inl n1))) => if n.toNatClampNeg ≤ n0 ∧ n.toNatClampNeg ≤ n1 then some (pc + 3, (zl, rest, w.set r1 (.inr (.inr (.inl n1))), nc, ns)) else none
          | _, _ => none
        else none
      | [2], .inl y :: .inl x :: rest => match z_lt B y x with
        | some b => if nc ≤ C ∧ ns ≤ S ∧ (rest.map z_cat).sum ≤ 8 then some (pc + 3, (zl, .inl (if b then y else x) :: rest, w, nc, ns)) else none
        | none => none
      | _, _ => none
    | _ => none
/-- what the tables say of a class of the world -/
def z_K (TB : List Cond) (cl : List vw_C) (TF : Nat → Nat → FieldType) (ci : Nat) (C : String) (T : u_T) (N : Nat) : Prop :=
  cl[ci]? = some (C, T, N) ∧ (∀ w ∈ u_ws C T N, w ∈ TB) ∧ (∀ k, k < N → parseFieldDescriptor (T k).2.2.1 = some (TF ci k)) ∧ ∀ a, a < N → ∀ b, b < N → a ≠ b → (T a).2.1 ≠ (T b).2.1
/-- what the tables say of a row -/
def z_en (TB : List Cond) (NT : List (String × Nat × MethodName × String)) (cl : List vw_C) (TF : Nat → Nat → FieldType) (DF : Nat → List zV) (P : List zM) (y : MethodName) (cc : ByteArray) (en : zE) : Prop :=
  decode cc en.1 = .ok (en.2.1, z_len en.2.1 en.2.2) ∧ match en.2.1 with
  | .ldc2_w idx => ∃ v, Cond.constantLong y.cls idx v ∈ TB
  | .getfield idx => ∃ ci k C T N, en.2.2 = [ci, k] ∧ z_K TB cl TF ci C T N ∧ k < N ∧ Cond.fieldLink y.cls idx (T k).1 (T k).2.1 (T k).2.2.1 ∈ TB
  | .putfield idx => ∃ ci k C T N, en.2.2 = [ci, k] ∧ z_K TB cl TF ci C T N ∧ k < N ∧ Cond.fieldLink y.cls idx (T k).1 (T k).2.1 (T k).2.2.1 ∈ TB ∧ ((T k).2.2.2 = false ∨ ((T k).2.2.2 = true ∧ y.name = "<init>" ∧ (T k).1 = y.cls))
  | .new idx => ∃ ci C T N, en.2.2 = [ci, N] ∧ z_K TB cl TF ci C T N ∧ Cond.classLink y.cls idx C ∈ TB ∧ Cond.instantiable C N ∈ TB ∧ Cond.initialized C ∈ TB ∧ (DF ci).all z_dok = true ∧ ∀ j, j < N → defaultValue (TF ci j) = vp_V ((DF ci).map z_dv) j
  | .newarray at0 => Cond.arrayClass (newarray.typeOf at0) ∈ TB
  | .anewarray idx => ∃ kt C, en.2.2 = [kt] ∧ Cond.classLink y.cls idx C ∈ TB ∧ ((kt = 4 ∧ C = "HeldCoats$State") ∨ (kt = 5 ∧ C = "HeldCoats$Image"))
  | .invokespecial idx => en.2.2 = [9999] ∨ (en.2.2 = [0] ∧ Cond.methodLink y.cls idx Lib.objectInit ∈ TB ∧ Cond.instanceMethod Lib.objectInit ∈ TB ∧ Cond.code Lib.objectInit ⟨#[0xb1]⟩ 1 none ∈ TB) ∨ (∃ j y2 c2 L2 t2 mc ms n, en.2.2 = [1, j] ∧ P[j]? = some (y2, c2, L2, none, t2, mc, ms, n) ∧ z_Y TB y2 c2 L2 n none ∧ (Cond.methodLink y.cls idx y2 ∈ TB ∨ ∃ host, (y.cls, idx, y2, host) ∈ NT) ∧ Cond.instanceMethod y2 ∈ TB ∧ y2.name = "<init>")
  | .invokestatic idx => en.2.2 = [9999] ∨ (en.2.2 = [2] ∧ Cond.methodLink y.cls idx Lib.Math.min.name ∈ TB ∧ Cond.static Lib.Math.min.name ∈ TB ∧ Cond.initialized "java/lang/Math" ∈ TB ∧ Cond.code Lib.Math.min.name Lib.Math.min.code 2 (some .int) ∈ TB) ∨ (en.2.2 = [0] ∧ Cond.methodLink y.cls idx arraycopyName ∈ TB ∧ Cond.native arraycopyName ∈ TB ∧ Cond.static arraycopyName ∈ TB ∧ Cond.initialized "java/lang/System" ∈ TB) ∨ (∃ j y2 c2 L2 r2 t2 mc ms n, en.2.2 = [1, j] ∧ P[j]? = some (y2, c2, L2, r2, t2, mc, ms, n) ∧ z_Y TB y2 c2 L2 n r2 ∧ (Cond.methodLink y.cls idx y2 ∈ TB ∨ ∃ host, (y.cls, idx, y2, host) ∈ NT) ∧ Cond.static y2 ∈ TB)
  | .invokevirtual idx => en.2.2 = [9999] ∨ ∃ j ci y2 c2 L2 r2 t2 mc ms n T N, en.2.2 = [1, j, ci] ∧ P[j]? = some (y2, c2, L2, r2, t2, mc, ms, n) ∧ z_Y TB y2 c2 L2 n r2 ∧ (Cond.methodLink y.cls idx y2 ∈ TB ∨ ∃ host, (y.cls, idx, y2, host) ∈ NT) ∧ Cond.instanceMethod y2 ∈ TB ∧ Cond.selects y2.cls y2 y2 ∈ TB ∧ cl[ci]? = some (y2.cls, T, N)
  | _ => True
end
section
section ZX
variable {p : Program} {l : Launch} {e : Env} {R : Room} {s : State} {m : MethodId} {args : Array Value} {below : List Frame} {meth : Method} {c : Code} {Q : State → Prop} {cc : ByteArray}
variable {xb : Nat} {env : Nat → Int32} {kc : Nat → ClassId} {D : va_G} {cl : List vw_C} {A : Nat → Prop} {H0 : Heap} {ad0 : Nat → Option Nat} {nL : Nat}
variable {NT : List (String × Nat × MethodName × String)} {TB : List Cond} {TF : Nat → Nat → FieldType} {DF : Nat → List zV} {P : List zM} {B : List (Int × Int)} {C S : Nat}
set_option maxHeartbeats 4000000 in
set_option maxRecDepth 100000 in
theorem z_x_ok (hx : p.tables.exec = Jvm.exec) (hb : c.code = cc) {y : MethodName} {I : Instr} {inf : List Nat} {pc pc' : Nat} {z z' : zS} (hB : z_B B env) (hml : c.maxLocals = nL) (hown : s.vm.findClass y.cls = some m.cls) (hname : meth.name = y.name) (hts : ∀ w ∈ TB, w.before args s = true) (hK : va_K D cl (z_TY kc) s) (hN : z_N NT s) (hA : ∀ q, H0.size ≤ q → A q) (hfr : 1 ≤ R.frames) (hlo : 100 ≤ R.locals) (hC : C ≤ R.cells) (hS : S ≤ R.slots) (hc9 : ∃ T N, cl[9]? = some ("HeldCoats$State", T, N)) (hc2 : ∃ T N, cl[2]? = some ("HeldCoats$Image", T, N)) (hen : z_en TB NT cl TF DF P y cc (pc, I, inf)) (h : z_x B TF DF C S nL I inf pc z = some (pc', z')) (kk : z_G p l e R s m args below meth c Q xb env kc D cl A H0 ad0 nL pc' z') : z_G p l e R s m args below meth c Q xb env kc D cl A H0 ad0 nL pc z := by
  obtain ⟨zl, st, w, nc, ns⟩ := z
  obtain ⟨hd, hen⟩ := hen
  dsimp only at hd hen
  unfold z_x at h
  dsimp only at h
  split at h
  next => cases h; exact z_iconst hx hb hd kk
  next => cases h; exact z_bipush hx hb hd kk
  next => cases h; exact z_sipush hx hb hd kk
  next => cases h; exact z_lconst hx hb hd kk
  next => cases h; obtain ⟨v, hv⟩ := hen; exact z_ldc2 hx hb hown (hts _ hv) hd kk
  next =>
    split at h
    next hg => cases h; exact z_iload hx hb hd hg kk
    next => cases h
  next =>
    split at h
    next hg => cases h; exact z_iload_n hx hb hd hg kk
    next => cases h
  next =>
    split at h
    next hg => cases h; exact z_aload hx hb hd hg kk
    next => cases h
  next =>
    split at h
    next hg => cases h; exact z_aload_n hx hb hd hg kk
    next => cases h
  next =>
    split at h
    next =>
      split at h
      next hn => cases h; exact z_istore hx hb hd hn kk
      next => cases h
    next => cases h
  next =>
    split at h
    next =>
      split at h
      next hn => cases h; exact z_istore_n hx hb hd hn kk
      next => cases h
    next => cases h
  next =>
    split at h
    next =>
      split at h
      next hn => cases h; exact z_astore hx hb hd hn kk
      next => cases h
    next => cases h
  next =>
    split at h
    next =>
      split at h
      next hn => cases h; exact z_astore_n hx hb hd hn kk
      next => cases h
    next => cases h
  next =>
    split at h
    next hg =>
      split at h
      next hn => cases h; exact z_iinc hx hb hd hg hn kk
      next => cases h
    next => cases h
  next =>
    split at h
    next =>
      split at h
      next hn => cases h; exact z_dup hx hb hd hn kk
      next => cases h
    next => cases h
  next =>
    split at h
    next =>
      split at h
      next hn => cases h; exact z_dup2 hx hb hd hn.1 hn.2 kk
      next => cases h
    next => cases h
  next =>
    split at h
    next =>
      split at h
      next hn => cases h; exact z_pop hx hb hd hn kk
      next => cases h
    next => cases h
  next =>
    split at h
    next ht => cases h; exact z_goto hx hb hd (z_tgt_ok ht) kk
    next => cases h
  next =>
    split at h
    next => cases h; exact z_i2l hx hb hd kk
    next => cases h
  next =>
    split at h
    next => cases h; exact z_i2b hx hb hd kk
    next => cases h
  next =>
    split at h
    next => cases h; exact z_iadd hx hb hd kk
    next => cases h
  next =>
    split at h
    next => cases h; exact z_iand hx hb hd kk
    next => cases h
  next =>
    split at h
    next => cases h; exact z_isub hx hb hd kk
    next => cases h
  next =>
    split at h
    next => cases h; exact z_imul hx hb hd kk
    next => cases h
  next =>
    split at h
    next => cases h; exact z_ior hx hb hd kk
    next => cases h
  next =>
    split at h
    next => cases h; exact z_ixor hx hb hd kk
    next => cases h
  next =>
    split at h
    next => cases h; exact z_ishl hx hb hd kk
    next => cases h
  next =>
    split at h
    next => cases h; exact z_ishr hx hb hd kk
    next => cases h
  next =>
    split at h
    next => cases h; exact z_iushr hx hb hd kk
    next => cases h
  next =>
    split at h
    next =>
      split at h
      next ht =>
        split at h
        next hr => cases h; exact z_icmp hx hb hB hd (z_tgt_ok ht) hr kk
        next => cases h
      next => cases h
    next => cases h
  next =>
    split at h
    next =>
      split at h
      next ht =>
        split at h
        next hr => cases h; exact z_if hx hb hB hd (z_tgt_ok ht) hr kk
        next => cases h
      next => cases h
    next => cases h
  next =>
    split at h
    next =>
      split at h
      next hs => cases h; exact z_table hx hb hB hd hs kk
      next => cases h
    next => cases h
  next =>
    split at h
    next =>
      split at h
      next hw =>
        split at h
        next hci =>
          split at h
          next hv =>
            cases h
            obtain ⟨ci, k, C0, T, N, hi, hKc, hk, hl⟩ := hen
            cases hi
            subst hci
            exact z_getf hx hb hts hKc.2.1 hown hK hKc.1 hk hl hd hw hv kk
          next => cases h
        next => cases h
      next => cases h
    next => cases h
  next =>
    split at h
    next =>
      split at h
      next hw =>
        split at h
        next hci =>
          cases h
          obtain ⟨ci, k, C0, T, N, hi, hKc, hk, hl, hfin⟩ := hen
          cases hi
          obtain ⟨hci, hkl, hfit⟩ := hci
          subst hci
          exact z_putf hx hb hts hKc.2.1 hKc.2.2.1 hKc.2.2.2 hown hK hKc.1 hk hl (hfin.imp id (fun q => ⟨q.1, hname.trans q.2.1, q.2.2⟩)) hd hw hkl hfit kk
        next => cases h
      next => cases h
    next => cases h
  next =>
    split at h
    next =>
      split at h
      next hw =>
        split at h
        next hi =>
          split at h
          next hv => cases h; exact z_iald hx hb hB hK rfl hd hw hi hv kk
          next => cases h
        next => cases h
      next => cases h
    next => cases h
  next =>
    split at h
    next =>
      split at h
      next hw =>
        split at h
        next hi =>
          split at h
          next hv => cases h; exact z_zald hx hb hB hK rfl hd hw hi hv kk
          next => cases h
        next => cases h
      next => cases h
    next => cases h
  next =>
    split at h
    next =>
      split at h
      next hw =>
        split at h
        next hi => cases h; exact z_iast hx hb hB hK rfl hd hw hi kk
        next => cases h
      next => cases h
    next => cases h
  next =>
    split at h
    next =>
      split at h
      next hw =>
        split at h
        next hi => cases h; exact z_bast hx hb hB hK rfl hd hw hi kk
        next => cases h
      next hw =>
        split at h
        next hi =>
          split at h
          next v0 =>
            split at h
            next h01 =>
              cases h
              exact z_zast hx hb hB hK rfl hd (by rcases h01 with rfl | rfl <;> decide +kernel) hw hi kk
            next => cases h
          next => cases h
        next => cases h
      next => cases h
    next => cases h
  next =>
    split at h
    next =>
      split at h
      next hw =>
        split at h
        next hi => cases h; exact z_lald hx hb hB hK rfl hd hw hi kk
        next => cases h
      next => cases h
    next => cases h
  next =>
    split at h
    next =>
      split at h
      next hw =>
        split at h
        next hi => cases h; exact z_last hx hb hB hK rfl hd hw hi kk
        next => cases h
      next => cases h
    next => cases h
  next =>
    split at h
    next =>
      split at h
      next hw =>
        split at h
        next hkt =>
          split at h
          next hi =>
            split at h
            next hv =>
              cases h
              rcases hkt with rfl | rfl
              · exact z_aald hx hb hB hK rfl hd hw hi hv kk
              · exact z_aald hx hb hB hK rfl hd hw hi hv kk
            next => cases h
          next => cases h
        next => cases h
      next => cases h
    next => cases h
  next =>
    split at h
    next =>
      split at h
      next hw =>
        split at h
        next hq =>
          split at h
          next hkt =>
            split at h
            next hi =>
              cases h
              rcases hkt with ⟨rfl, rfl⟩ | ⟨rfl, rfl⟩
              · obtain ⟨T, N, hc⟩ := hc9
                exact z_aast hx hb hB hK rfl hc hd hw hq hi kk
              · obtain ⟨T, N, hc⟩ := hc2
                exact z_aast hx hb hB hK rfl hc hd hw hq hi kk
            next => cases h
          next => cases h
        next => cases h
      next => cases h
    next => cases h
  next =>
    split at h
    next =>
      split at h
      next hw => cases h; exact z_alen (n := 0) hx hb hK rfl hd hw kk
      next => cases h
    next => cases h
  next =>
    split at h
    next =>
      split at h
      next hcs =>
        cases h
        obtain ⟨ci, C0, T, N, hi, hKc, hl, hins, hini, hdf, hfs⟩ := hen
        cases hi
        exact z_newo hx hb hts hKc.2.1 hKc.2.2.1 hown hl hins hini hK hA hKc.1 hdf hfs (by omega) (by omega) hd kk
      next => cases h
    next => cases h
  next =>
    split at h
    next =>
      split at h
      next hcs =>
        obtain ⟨hn0, hn1, hn2, hn3⟩ := hcs
        split at h
        next =>
          cases h
          exact z_newi hx hb (hts _ hen) rfl (kt := 0) rfl rfl hK hA hn0 rfl (by show _ * 4 ≤ _; omega) (by omega) (by omega) hd kk
        next =>
          cases h
          exact z_newi hx hb (hts _ hen) rfl (kt := 2) rfl rfl hK hA hn0 rfl (by show _ * 1 ≤ _; omega) (by omega) (by omega) hd kk
        next =>
          cases h
          exact z_newi hx hb (hts _ hen) rfl (kt := 3) rfl rfl hK hA hn0 rfl (by show _ * 1 ≤ _; omega) (by omega) (by omega) hd kk
        next =>
          cases h
          exact z_newl hx hb (hts _ hen) rfl hK hA hn0 rfl (by show _ * 8 ≤ _; omega) (by omega) (by omega) hd kk
        next => cases h
      next => cases h
    next => cases h
  next =>
    split at h
    next =>
      split at h
      next hcs =>
        obtain ⟨hn0, hn1, hn2, hn3⟩ := hcs
        cases h
        obtain ⟨kt, C0, hi, hl, hk⟩ := hen
        cases hi
        rcases hk with ⟨rfl, rfl⟩ | ⟨rfl, rfl⟩
        · exact z_newr hx hb hown (hts _ hl) hN.2.1 (kt := 4) rfl hK hA hn0 rfl (by omega) (by omega) (by omega) hd kk
        · exact z_newr hx hb hown (hts _ hl) hN.2.2 (kt := 5) rfl hK hA hn0 rfl (by omega) (by omega) (by omega) hd kk
      next => cases h
    next => cases h
  next =>
    split at h
    next =>
      split at h
      next hs =>
        cases h
        rcases hen with hi | ⟨_, h1, h2, h3⟩ | ⟨_, _, _, _, _, _, _, _, hi, _⟩
        · cases hi
        · exact z_objInit hx hb hown hml (hts _ h1) (hts _ h2) (hts _ h3) hd hfr hlo hs kk
        · cases hi
      next => cases h
    next => cases h
  next =>
    split at h
    next =>
      split at h
      next hs =>
        obtain ⟨rfl, rfl, hn0, hs⟩ := hs
        rcases hen with hi | ⟨hi, _⟩ | ⟨_, h1, h2, h3, h4⟩ | ⟨_, _, _, _, _, _, _, _, _, hi, _⟩
        · cases hi
        · cases hi
        · split at h
          next hw0 hw1 =>
            split at h
            next hle =>
              cases h
              exact z_copyi hx hb hown hml (hts _ h1) (hts _ h2) (hts _ h3) (hts _ h4) hK rfl hw0 hw1 hle.1 hn0 hle.2 hfr hlo hs hd kk
            next => cases h
          next hw0 hw1 =>
            split at h
            next hle =>
              cases h
              exact z_copyl hx hb hown hml (hts _ h1) (hts _ h2) (hts _ h3) (hts _ h4) hK rfl hw0 hw1 hn0 hle.1 hle.2 hfr hlo hs hd kk
            next => cases h
          next => cases h
        · cases hi
      next => cases h
    next =>
      split at h
      next b0 hlt =>
        split at h
        next hcs =>
          cases h
          rcases hen with hi | ⟨_, h1, h2, h3, h4⟩ | ⟨hi, _⟩ | ⟨_, _, _, _, _, _, _, _, _, hi, _⟩
          · cases hi
          · exact z_mmin hx hb hB hown hml (hts _ h1) (hts _ h2) (hts _ h3) (hts _ h4) hfr hlo (by omega) (by omega) hcs.2.2 hlt hd kk
          · cases hi
          · cases hi
        next => cases h
      next => cases h
    next => cases h
  next => cases h
end ZX
end
section
/-! ===== the run through methods ===== -/
def z_ent : Nat → List zV → List (Nat × zV)
  | _, [] => []
  | i, v :: vs => (i, v) :: z_ent (if z_cat v = 2 then i + 2 else i + 1) vs
theorem z_ent_ok {env : Nat → Int32} {ad : Nat → Option Nat} : ∀ {za : List zV} {av : List Value} (i : Nat), z_L (z_v env ad) za av → z_L (fun (a : Nat × zV) (b : Nat × Value) => a.1 = b.1 ∧ z_v env ad a.2 b.2) (z_ent i za) (lv_args i av)
  | [], [], _, _ => trivial
  | v :: za, x :: av, i, h => by
    unfold z_ent lv_args
    rw [z_v_cat h.1]
    exact ⟨⟨rfl, h.1⟩, z_ent_ok _ h.2⟩
  | [], _ :: _, _, h => h.elim
  | _ :: _, [], _, h => h.elim
theorem z_sl_len : ∀ (vs : List Value), (lg_sl vs).length = (vs.map fun v => v.category).sum
  | [] => rfl
  | v :: vs => by
    have ih := z_sl_len vs
    unfold lg_sl at ih ⊢
    rw [List.flatMap_cons, List.length_append, List.map_cons, List.sum_cons, ih]
    rcases lv_cat v with h | h <;> simp [h]
def z_res (tab : List zE) (ret : Option FieldType) (pc : Nat) (st : List zV) : Option (Option zV) := match z_find tab pc with
  | some (.ireturn, _) => match ret, st with
    | some ty, [.inl t] => if z_fit ty (.inl t) = true then some (some (.inl t)) else none
    | _, _ => none
  | some (.return_, _) => match ret, st with
    | none, [] => some none
    | _, _ => none
  | some (.areturn, _) => match ret, st with
    | some (.object _), [.inr (.inl (some i))] => some (some (.inr (.inl (some i))))
    | _, _ => none
  | _ => none
def z_isR (I : Instr) : Bool := match I with
  | .ireturn => true
  | .return_ => true
  | .areturn => true
  | .athrow => true
  | _ => false
/-- a call: how (1 of an object, 2 a constructor, 3 static), of whom, the receiver's class -/
def z_ck (I : Instr) (inf : List Nat) : Option (Nat × Nat × Nat) := match I, inf with
  | .invokevirtual _, [_, j, ci] => some (1, j, ci)
  | .invokespecial _, [_, j] => some (2, j, 0)
  | .invokestatic _, [_, j] => some (3, j, 0)
  | _, _ => none
/-- the arguments (the receiver ahead), what stays on the stack -/
def z_arg (k n ci : Nat) (st : List zV) (w : zW) : Option (List zV × List zV) :=
  if n ≤ st.length then
    if k = 3 then some ((st.take n).reverse, st.drop n)
    else match st.drop n with
      | .inr (.inl (some (r + 1))) :: rest => if k = 2 then some (.inr (.inl (some (r + 1))) :: (st.take n).reverse, rest) else match w[r]? with
          | some (.inl (cj, _)) => if cj = ci then some (.inr (.inl (some (r + 1))) :: (st.take n).reverse, rest) else none
          | _ => none
      | _ => none
  else none
def z_fin (C S nc ns : Nat) (M2 : zM) (za rest : List zV) (pcr : Nat) (zr : zS) : Option (Option zV) :=
  if zr.2.2.2.1 ≤ M2.2.2.2.2.2.1 ∧ zr.2.2.2.2 ≤ M2.2.2.2.2.2.2.1 ∧ nc + M2.2.2.2.2.2.1 ≤ C ∧ ns + M2.2.2.2.2.2.2.1 ≤ S ∧ (rest.map z_cat).sum ≤ 8 ∧ (za.map z_cat).sum ≤ M2.2.2.1 ∧ M2.2.2.1 ≤ 80 then z_res M2.2.2.2.2.1 M2.2.2.2.1 pcr zr.2.1 else none
/-- the law's own script: its length, its ints, which are the named numbers -/
def z_scr (B : List (Int × Int)) (Ls : Option Nat) (I : Instr) (pc : Nat) (z : zS) : Option (Nat × zS) := match Ls, I, z with
  | some L, .arraylength, (zl, .inr (.inl (some 0)) :: rest, w, nc, ns) => some (pc + 1, (zl, .inl (.inl (some (Int32.ofNat L))) :: rest, w, nc, ns))
  | some L, .iaload, (zl, .inl t :: .inr (.inl (some 0)) :: rest, w, nc, ns) => match z_ix B t L with
    | some k => some (pc + 1, (zl, .inl (if (z_rng B (.inr (k, 0))).1 = (z_rng B (.inr (k, 0))).2 then .inl (some (Int32.ofInt (z_rng B (.inr (k, 0))).1)) else .inr (k, 0)) :: rest, w, nc, ns))
    | none => none
  | _, _, _ => none
def z_run (P : List zM) (B : List (Int × Int)) (TF : Nat → Nat → FieldType) (DF : Nat → List zV) : Nat → Option Nat → Nat → Nat → Nat → zM → Nat → zS → Option (Nat × zS)
  | 0, _, _, _, _, _, _, _ => none
  | n + 1, Ls, d, C, S, M, pc, z => match z_find M.2.2.2.2.1 pc with
    | none => none
    | some (I, inf) => if (z_isR I || inf.getLast? == some 9999) = true then some (pc, z) else match z_ck I inf with
      | some (k, j, ci) => match d, P[j]? with
        | d' + 1, some M2 => match z_arg k M2.2.2.2.2.2.2.2 ci z.2.1 z.2.2.1 with
          | some (za, rest) => match z_run P B TF DF n none d' M2.2.2.2.2.2.1 M2.2.2.2.2.2.2.1 M2 0 (z_ent 0 za, [], z.2.2.1, 0, 0) with
            | some (pcr, zr) => match z_fin C S z.2.2.2.1 z.2.2.2.2 M2 za rest pcr zr with
              | some rz => z_run P B TF DF n Ls (d' + 1) C S M (pc + 3) (z.1, rz.toList ++ rest, zr.2.2.1, z.2.2.2.1 + M2.2.2.2.2.2.1, z.2.2.2.2 + M2.2.2.2.2.2.2.1)
              | none => none
            | none => none
          | none => none
        | _, _ => none
      | none => match z_scr B Ls I pc z with
        | some (pc', z') => z_run P B TF DF n Ls d C S M pc' z'
        | none => match z_x B TF DF C S M.2.2.1 I inf pc z with
          | some (pc', z') => z_run P B TF DF n Ls d C S M pc' z'
          | none => none
def z_Mok (TB : List Cond) (NT : List (String × Nat × MethodName × String)) (cl : List vw_C) (TF : Nat → Nat → FieldType) (DF : Nat → List zV) (P : List zM) (M : zM) : Prop := plainName M.1.cls = true ∧ ∀ en ∈ M.2.2.2.2.1, z_en TB NT cl TF DF P M.1 M.2.1 en
/-- what a frame of a method stands on -/
def z_ctx (TB : List Cond) (NT : List (String × Nat × MethodName × String)) (cl : List vw_C) (kc : Nat → ClassId) (D : va_G) (p : Program) (R : Room) (s : State) (m : MethodId) (args : Array Value) (meth : Method) (c : Code) (A : Nat → Prop) (H0 : Heap) (xb : Nat) (env : Nat → Int32) (Ls : Option Nat) (d C S : Nat) (M : zM) : Prop :=
  p.tables.exec = Jvm.exec ∧ c.code = M.2.1 ∧ c.maxLocals = M.2.2.1 ∧ s.vm.findClass M.1.cls = some m.cls ∧ meth.name = M.1.name ∧ (∀ w ∈ TB, w.before args s = true) ∧ va_K D cl (z_TY kc) s ∧ z_N NT s ∧ (∀ q, H0.size ≤ q → A q) ∧ d + 1 ≤ R.frames ∧ 100 * d + 100 ≤ R.locals ∧ C ≤ R.cells ∧ S ≤ R.slots ∧ ∀ L, Ls = some L → va_X xb L env s s.heap ∧ xb < s.heap.size ∧ ¬ A xb ∧ H0 = s.heap
/-- the whole program's tables -/
def z_all (TB : List Cond) (NT : List (String × Nat × MethodName × String)) (cl : List vw_C) (TF : Nat → Nat → FieldType) (DF : Nat → List zV) (P : List zM) : Prop :=
  (∀ w ∈ TB, goodWord w = true) ∧ (∃ T N, cl[9]? = some ("HeldCoats$State", T, N)) ∧ (∃ T N, cl[2]? = some ("HeldCoats$Image", T, N)) ∧ ∀ (j : Nat) (M : zM), P[j]? = some M → z_Mok TB NT cl TF DF P M
/-- what the run of n steps says -/
def z_H (l : Launch) (TB : List Cond) (NT : List (String × Nat × MethodName × String)) (cl : List vw_C) (kc : Nat → ClassId) (D : va_G) (xb : Nat) (env : Nat → Int32) (B : List (Int × Int)) (TF : Nat → Nat → FieldType) (DF : Nat → List zV) (P : List zM) (n : Nat) : Prop :=
  ∀ (Ls : Option Nat) (d C S : Nat) (M : zM) (pc : Nat) (z : zS) (pc' : Nat) (z' : zS), z_run P B TF DF n Ls d C S M pc z = some (pc', z') → z_Mok TB NT cl TF DF P M → ∀ (p : Program) (e : Env) (R : Room) (s : State) (m : MethodId) (args : Array Value) (below : List Frame) (meth : Method) (c : Code) (Q : State → Prop) (A : Nat → Prop) (H0 : Heap) (ad0 : Nat → Option Nat), z_ctx TB NT cl kc D p R s m args meth c A H0 xb env Ls d C S M →
    z_G p l e R s m args below meth c Q xb env kc D cl A H0 ad0 M.2.2.1 pc' z' → z_G p l e R s m args below meth c Q xb env kc D cl A H0 ad0 M.2.2.1 pc z
def z_rm (d mc ms : Nat) : Room := { frames := d + 1, cells := mc, slots := ms, locals := 100 * d + 100 }
theorem z_meets {l : Launch} {TB : List Cond} {NT : List (String × Nat × MethodName × String)} {cl : List vw_C} {kc : Nat → ClassId} {D : va_G} {xb : Nat} {env : Nat → Int32} {B : List (Int × Int)} {TF : Nat → Nat → FieldType} {DF : Nat → List zV} {P : List zM} {n d pcr mc ms na : Nat} {y : MethodName} {cc : ByteArray} {maxL : Nat} {ret : Option FieldType} {tab : List zE} {za : List zV} {w : zW} {zr : zS} {rz : Option zV}
    (hH : z_H l TB NT cl kc D xb env B TF DF P n) (hM : z_Mok TB NT cl TF DF P (y, cc, maxL, ret, tab, mc, ms, na)) (hrun : z_run P B TF DF n none d mc ms (y, cc, maxL, ret, tab, mc, ms, na) 0 (z_ent 0 za, [], w, 0, 0) = some (pcr, zr)) (hres : z_res tab ret pcr zr.2.1 = some rz) (h1 : zr.2.2.2.1 ≤ mc) (h2 : zr.2.2.2.2 ≤ ms) (hL : (za.map z_cat).sum ≤ maxL) : z_Met l TB NT kc D cl xb env y cc maxL ret (z_rm d mc ms) za w rz zr.2.2.1 mc ms := by
  intro av ws0 sz hav hws
  refine Met.ofW (cc := cc) (maxL := maxL) (ret := ret) hM.1 rfl ?_
  intro p e s m args below meth c s₁ Bd hml hv
  obtain ⟨rfl, hsz, hP, hK, hD0, hN⟩ := hv
  subst hsz
  have hts0 := atoms_spec (ws := Cond.code y cc maxL ret :: TB) Bd.pre
  have hts : ∀ w ∈ TB, w.before av.toArray s = true := fun w hw => hts0 w (List.mem_cons_of_mem _ hw)
  have hown : s.vm.findClass y.cls = some m.cls := findClass_of_methodNamed Bd.named
  have hname : meth.name = y.name := (name_of_methodNamed Bd.named Bd.method).1
  have hsum : (lg_sl av).length ≤ maxL := by rw [z_sl_len, ← z_cats hav]; exact hL
  rw [lg_entry_eq]
  refine hH none d mc ms (y, cc, maxL, ret, tab, mc, ms, na) 0 _ pcr zr hrun hM p e _ s m av.toArray below meth c _ (va_A ws0 s.heap.size) s.heap (z_ad xb ws0) ⟨Bd.exec, Bd.bytes, hml, hown, hname, hts, hK, hN, fun q h => Or.inr h, Nat.le_refl _, Nat.le_refl _, Nat.le_refl _, Nat.le_refl _, fun _ h => by cases h⟩ ?_ _ [] ws0 s.heap [] ⟨⟨_, lv_entry av hsum, z_ent_ok 0 hav⟩, trivial, hws, fun _ _ h => h, hP, hD0.self, va_S.rf⟩
  obtain ⟨zl, st, w', nc, ns⟩ := zr
  dsimp only at hres h1 h2 ⊢
  unfold z_res at hres
  split at hres
  next hf =>
    split at hres
    next ty t =>
      split at hres
      next hfit =>
        cases hres
        exact z_iret Bd.exec Bd.bytes Bd.returns Bd.notSynchronized hfit h1 h2 (hM.2 _ (z_find_in hf)).1
      next => cases hres
    next => cases hres
  next hf =>
    split at hres
    next =>
      cases hres
      exact z_vret Bd.exec Bd.bytes Bd.returns Bd.notSynchronized h1 h2 (hM.2 _ (z_find_in hf)).1
    next => cases hres
  next hf =>
    split at hres
    next =>
      cases hres
      exact z_aret Bd.exec Bd.bytes Bd.returns Bd.notSynchronized h1 h2 (hM.2 _ (z_find_in hf)).1
    next => cases hres
  next => cases hres
theorem z_arg_st {k n ci : Nat} {st : List zV} {w : zW} {za rest : List zV} (h : z_arg k n ci st w = some (za, rest)) (hk : k ≠ 3) : ∃ (r : Nat) (zb : List zV), za = .inr (.inl (some (r + 1))) :: zb ∧ st = zb.reverse ++ .inr (.inl (some (r + 1))) :: rest ∧ zb.length = n ∧ (k ≠ 2 → ∃ fs, w[r]? = some (.inl (ci, fs))) := by
  unfold z_arg at h
  split at h
  next hn =>
    split at h
    next r rest' hdr =>
      have hst : st = (st.take n).reverse.reverse ++ .inr (.inl (some (r + 1))) :: rest' := by rw [List.reverse_reverse, ← hdr, List.take_append_drop]
      have hlen : (st.take n).reverse.length = n := by rw [List.length_reverse, List.length_take]; omega
      split at h
      next h2 =>
        cases h
        exact ⟨r, _, rfl, hst, hlen, fun q => absurd h2 q⟩
      next =>
        split at h
        next cj fs hw =>
          split at h
          next hc =>
            cases h
            subst hc
            exact ⟨r, _, rfl, hst, hlen, fun _ => ⟨fs, hw⟩⟩
          next => cases h
        next => cases h
    next => cases h
  next => cases h
theorem z_arg_s {n ci : Nat} {st : List zV} {w : zW} {za rest : List zV} (h : z_arg 3 n ci st w = some (za, rest)) : st = za.reverse ++ rest ∧ za.length = n := by
  unfold z_arg at h
  split at h
  next hn =>
    rw [if_pos rfl] at h
    cases h
    exact ⟨by rw [List.reverse_reverse, List.take_append_drop], by rw [List.length_reverse, List.length_take]; omega⟩
  next => cases h
theorem z_ck_1 {I : Instr} {inf : List Nat} {j ci : Nat} (h : z_ck I inf = some (1, j, ci)) : ∃ idx k, I = .invokevirtual idx ∧ inf = [k, j, ci] := by
  unfold z_ck at h
  split at h <;> cases h
  exact ⟨_, _, rfl, rfl⟩
theorem z_ck_2 {I : Instr} {inf : List Nat} {j ci : Nat} (h : z_ck I inf = some (2, j, ci)) : ∃ idx k, I = .invokespecial idx ∧ inf = [k, j] := by
  unfold z_ck at h
  split at h <;> cases h
  exact ⟨_, _, rfl, rfl⟩
theorem z_ck_3 {I : Instr} {inf : List Nat} {j ci : Nat} (h : z_ck I inf = some (3, j, ci)) : ∃ idx k, I = .invokestatic idx ∧ inf = [k, j] := by
  unfold z_ck at h
  split at h <;> cases h
  exact ⟨_, _, rfl, rfl⟩
theorem z_ck_k {I : Instr} {inf : List Nat} {k j ci : Nat} (h : z_ck I inf = some (k, j, ci)) : k = 1 ∨ k = 2 ∨ k = 3 := by
  unfold z_ck at h
  split at h <;> cases h
  · exact Or.inl rfl
  · exact Or.inr (Or.inl rfl)
  · exact Or.inr (Or.inr rfl)
section ZQ
variable {p : Program} {l : Launch} {e : Env} {R : Room} {s : State} {m : MethodId} {args : Array Value} {below : List Frame} {meth : Method} {c : Code} {Q : State → Prop} {cc : ByteArray}
variable {xb : Nat} {env : Nat → Int32} {kc : Nat → ClassId} {D : va_G} {cl : List vw_C} {A : Nat → Prop} {H0 : Heap} {ad0 : Nat → Option Nat} {nL : Nat} {B : List (Int × Int)}
theorem z_scr_ok (hx : p.tables.exec = Jvm.exec) (hb : c.code = cc) {Ls : Option Nat} {I : Instr} {inf : List Nat} {pc pc' : Nat} {z z' : zS} (hB : z_B B env) (hLs : ∀ L, Ls = some L → va_X xb L env s s.heap ∧ xb < s.heap.size ∧ ¬ A xb ∧ H0 = s.heap) (hd : decode cc pc = .ok (I, z_len I inf)) (h : z_scr B Ls I pc z = some (pc', z')) (kk : z_G p l e R s m args below meth c Q xb env kc D cl A H0 ad0 nL pc' z') : z_G p l e R s m args below meth c Q xb env kc D cl A H0 ad0 nL pc z := by
  unfold z_scr at h
  split at h
  next L zl rest w nc ns =>
    cases h
    obtain ⟨hX, hbl, hbA, rfl⟩ := hLs L rfl
    intro ls sv ws H locs ⟨h1, h2, h3, h6, hP, hD, hS⟩
    obtain ⟨_, sv', rfl, ⟨a, ha, rfl⟩, h4⟩ := z_st1 h2
    obtain rfl : a = xb := (Option.some.inj ha).symm
    refine va_slen hx hb hX hbl hbA hS hd ?_
    exact kk ls _ ws H locs ⟨h1, ⟨⟨_, rfl, rfl⟩, h4⟩, h3, h6, hP, hD, hS⟩
  next L zl t rest w nc ns =>
    split at h
    next k hk =>
      cases h
      obtain ⟨hX, hbl, hbA, rfl⟩ := hLs L rfl
      intro ls sv ws H locs ⟨h1, h2, h3, h6, hP, hD, hS⟩
      obtain ⟨_, sv', rfl, ⟨y, rfl, hy⟩, h4⟩ := z_st1 h2
      obtain ⟨_, sv'', rfl, ⟨a, ha, rfl⟩, h5⟩ := z_st1 h4
      obtain rfl : a = xb := (Option.some.inj ha).symm
      obtain ⟨hi1, hi2, hi3⟩ := z_ix_ok hB hy hk
      refine va_sld hx hb hX hbl hbA hS hi1 hd ?_
      rw [hi2]
      have hk0 : z_i env (.inr (k, 0)) (env k) := (Int32.add_zero _).symm
      have hr := z_rng_ok hB hk0
      refine kk ls _ ws H locs ⟨h1, ⟨⟨_, rfl, ?_⟩, h5⟩, h3, h6, hP, hD, hS⟩
      split
      next heq =>
        show env k = Int32.ofInt _
        rw [← Int32.ofInt_toInt (env k), show (env k).toInt = (z_rng B (.inr (k, 0))).1 by omega]
      next => exact hk0
    next => cases h
  next => cases h
end ZQ
set_option maxHeartbeats 4000000 in
theorem z_run_ok {l : Launch} {TB : List Cond} {NT : List (String × Nat × MethodName × String)} {cl : List vw_C} {kc : Nat → ClassId} {D : va_G} {xb : Nat} {env : Nat → Int32} {B : List (Int × Int)} {TF : Nat → Nat → FieldType} {DF : Nat → List zV} {P : List zM} (hB : z_B B env) (hall : z_all TB NT cl TF DF P) : ∀ n, z_H l TB NT cl kc D xb env B TF DF P n := by
  intro n
  induction n with
  | zero =>
    intro Ls d C S M pc z pc' z' h
    simp only [z_run] at h
    cases h
  | succ n ih =>
    intro Ls d C S M pc z pc' z' h hM p e R s m args below meth c Q A H0 ad0 hctx kk
    obtain ⟨hx, hb, hml, hown, hname, hts, hK, hN, hA, hfr, hlo, hC, hS, hLs⟩ := id hctx
    unfold z_run at h
    split at h
    next => cases h
    next I inf hf =>
      have hen := hM.2 _ (z_find_in hf)
      split at h
      next =>
        cases h
        exact kk
      next =>
        split at h
        next k j ci hck =>
          split at h
          next d' M2 hj =>
            split at h
            next za rest harg =>
              split at h
              next pcr zr hrun =>
                split at h
                next rz hfin =>
                  obtain ⟨y2, c2, L2, r2, t2, mc, ms, na⟩ := M2
                  obtain ⟨zl, st, w, nc, ns⟩ := z
                  dsimp only at h harg hrun hfin hf
                  unfold z_fin at hfin
                  split at hfin
                  next hcs =>
                    dsimp only at hcs hfin
                    obtain ⟨g1, g2, g3, g4, g5, g6, g7⟩ := hcs
                    have hM2 := hall.2.2.2 j _ hj
                    have hmet := z_meets ih hM2 hrun hfin g1 g2 g6
                    have kk2 := ih _ _ _ _ _ _ _ _ _ h hM p e R s m args below meth c Q A H0 ad0 hctx kk
                    have hR : (z_rm d' mc ms).frames + 1 ≤ R.frames ∧ 8 + (L2 + 11) + (z_rm d' mc ms).locals ≤ R.locals := by
                      unfold z_rm
                      dsimp only
                      omega
                    rcases z_ck_k hck with rfl | rfl | rfl
                    · obtain ⟨idx, k0, rfl, rfl⟩ := z_ck_1 hck
                      obtain ⟨hd, hen⟩ := hen
                      rcases hen with hi | ⟨j', ci', y2', c2', L2', r2', t2', mc', ms', na', T, N, hi, hj', hY, hl, hin, hsel, hcl⟩
                      · cases hi
                      cases hi
                      rw [hj] at hj'
                      cases hj'
                      obtain ⟨r, zb, rfl, rfl, hzb, hw⟩ := z_arg_st harg (by decide)
                      obtain ⟨fs, hw⟩ := hw (by decide)
                      exact z_callV hx hb hall.1 hts hown hml hK hN hA hY hl hin hsel hcl hw hmet rfl rfl hR hzb g5 hd ⟨by omega, by omega⟩ kk2
                    · obtain ⟨idx, k0, rfl, rfl⟩ := z_ck_2 hck
                      obtain ⟨hd, hen⟩ := hen
                      rcases hen with hi | ⟨hi, _⟩ | ⟨j', y2', c2', L2', t2', mc', ms', na', hi, hj', hY, hl, hin, hni⟩
                      · cases hi
                      · cases hi
                      cases hi
                      rw [hj] at hj'
                      cases hj'
                      obtain ⟨r, zb, rfl, rfl, hzb, _⟩ := z_arg_st harg (by decide)
                      obtain rfl : rz = none := by
                        unfold z_res at hfin
                        split at hfin
                        · split at hfin <;> first | contradiction | cases hfin
                        · split at hfin
                          next => cases hfin; rfl
                          next => cases hfin
                        · split at hfin <;> first | contradiction | cases hfin
                        · cases hfin
                      exact z_callI hx hb hall.1 hts hown hml hK hN hA hY hl hin hni hmet rfl rfl hR hzb g5 hd ⟨by omega, by omega⟩ kk2
                    · obtain ⟨idx, k0, rfl, rfl⟩ := z_ck_3 hck
                      obtain ⟨hd, hen⟩ := hen
                      rcases hen with hi | ⟨hi, _⟩ | ⟨hi, _⟩ | ⟨j', y2', c2', L2', r2', t2', mc', ms', na', hi, hj', hY, hl, hsta⟩
                      · cases hi
                      · cases hi
                      · cases hi
                      cases hi
                      rw [hj] at hj'
                      cases hj'
                      obtain ⟨rfl, hzb⟩ := z_arg_s harg
                      exact z_callS hx hb hall.1 hts hown hml hK hN hA hY hl hsta hmet rfl rfl hR hzb g5 hd ⟨by omega, by omega⟩ kk2
                  next => cases hfin
                next => cases h
              next => cases h
            next => cases h
          next => cases h
        next =>
          split at h
          next pc2 z2 hx2 =>
            have kk2 := ih _ _ _ _ _ _ _ _ _ h hM p e R s m args below meth c Q A H0 ad0 hctx kk
            exact z_scr_ok hx hb hB hLs hen.1 hx2 kk2
          next =>
           split at h
           next pc2 z2 hx2 =>
            have kk2 := ih _ _ _ _ _ _ _ _ _ h hM p e R s m args below meth c Q A H0 ad0 hctx kk
            exact z_x_ok hx hb hB hml hown hname hts hK hN hA (by omega) (by omega) hC hS hall.2.1 hall.2.2.1 hen hx2 kk2
           next => cases h

/-! ===== rows of the tables ===== -/
def z_simple (I : Instr) : Bool := match I with
  | .ldc2_w _ => false
  | .getfield _ => false
  | .putfield _ => false
  | .new _ => false
  | .newarray _ => false
  | .anewarray _ => false
  | .invokespecial _ => false
  | .invokestatic _ => false
  | .invokevirtual _ => false
  | _ => true
section ZE
variable {TB : List Cond} {NT : List (String × Nat × MethodName × String)} {cl : List vw_C} {TF : Nat → Nat → FieldType} {DF : Nat → List zV} {P : List zM} {y : MethodName} {cc : ByteArray} {pc : Nat}
theorem ze_s {I : Instr} {inf : List Nat} (hd : decode cc pc = .ok (I, z_len I inf)) (hs : z_simple I = true) : z_en TB NT cl TF DF P y cc (pc, I, inf) := by
  refine ⟨hd, ?_⟩
  cases I <;> first | trivial | (cases hs; done)
theorem ze_ldc2 {idx : Nat} {v : Int64} (hd : decode cc pc = .ok (.ldc2_w idx, 3)) (h : Cond.constantLong y.cls idx v ∈ TB) : z_en TB NT cl TF DF P y cc (pc, .ldc2_w idx, []) := ⟨hd, v, h⟩
theorem ze_get {idx ci k N : Nat} {C : String} {T : u_T} (hd : decode cc pc = .ok (.getfield idx, 3)) (hK : z_K TB cl TF ci C T N) (hk : k < N) (hl : Cond.fieldLink y.cls idx (T k).1 (T k).2.1 (T k).2.2.1 ∈ TB) : z_en TB NT cl TF DF P y cc (pc, .getfield idx, [ci, k]) := ⟨hd, ci, k, C, T, N, rfl, hK, hk, hl⟩
theorem ze_put {idx ci k N : Nat} {C : String} {T : u_T} (hd : decode cc pc = .ok (.putfield idx, 3)) (hK : z_K TB cl TF ci C T N) (hk : k < N) (hl : Cond.fieldLink y.cls idx (T k).1 (T k).2.1 (T k).2.2.1 ∈ TB) (hf : (T k).2.2.2 = false ∨ ((T k).2.2.2 = true ∧ y.name = "<init>" ∧ (T k).1 = y.cls)) : z_en TB NT cl TF DF P y cc (pc, .putfield idx, [ci, k]) := ⟨hd, ci, k, C, T, N, rfl, hK, hk, hl, hf⟩
theorem ze_new {idx ci N : Nat} {C : String} {T : u_T} (hd : decode cc pc = .ok (.new idx, 3)) (hK : z_K TB cl TF ci C T N) (h1 : Cond.classLink y.cls idx C ∈ TB) (h2 : Cond.instantiable C N ∈ TB) (h3 : Cond.initialized C ∈ TB) (h4 : (DF ci).all z_dok = true) (h5 : ∀ j, j < N → defaultValue (TF ci j) = vp_V ((DF ci).map z_dv) j) : z_en TB NT cl TF DF P y cc (pc, .new idx, [ci, N]) := ⟨hd, ci, C, T, N, rfl, hK, h1, h2, h3, h4, h5⟩
theorem ze_newa {at0 : ArrayType} (hd : decode cc pc = .ok (.newarray at0, 2)) (h : Cond.arrayClass (newarray.typeOf at0) ∈ TB) : z_en TB NT cl TF DF P y cc (pc, .newarray at0, []) := ⟨hd, h⟩
theorem ze_newr {idx kt : Nat} {C : String} (hd : decode cc pc = .ok (.anewarray idx, 3)) (h : Cond.classLink y.cls idx C ∈ TB) (hk : (kt = 4 ∧ C = "HeldCoats$State") ∨ (kt = 5 ∧ C = "HeldCoats$Image")) : z_en TB NT cl TF DF P y cc (pc, .anewarray idx, [kt]) := ⟨hd, kt, C, rfl, h, hk⟩
theorem ze_oi {idx : Nat} (hd : decode cc pc = .ok (.invokespecial idx, 3)) (h1 : Cond.methodLink y.cls idx Lib.objectInit ∈ TB) (h2 : Cond.instanceMethod Lib.objectInit ∈ TB) (h3 : Cond.code Lib.objectInit ⟨#[0xb1]⟩ 1 none ∈ TB) : z_en TB NT cl TF DF P y cc (pc, .invokespecial idx, [0]) := ⟨hd, Or.inr (Or.inl ⟨rfl, h1, h2, h3⟩)⟩
theorem ze_ci {idx j L2 mc ms n : Nat} {y2 : MethodName} {c2 : ByteArray} {t2 : List zE} (hd : decode cc pc = .ok (.invokespecial idx, 3)) (hj : P[j]? = some (y2, c2, L2, none, t2, mc, ms, n)) (hY : z_Y TB y2 c2 L2 n none) (hl : Cond.methodLink y.cls idx y2 ∈ TB ∨ ∃ host, (y.cls, idx, y2, host) ∈ NT) (hi : Cond.instanceMethod y2 ∈ TB) (hn : y2.name = "<init>") : z_en TB NT cl TF DF P y cc (pc, .invokespecial idx, [1, j]) := ⟨hd, Or.inr (Or.inr ⟨j, y2, c2, L2, t2, mc, ms, n, rfl, hj, hY, hl, hi, hn⟩)⟩
theorem ze_cp {idx : Nat} (hd : decode cc pc = .ok (.invokestatic idx, 3)) (h1 : Cond.methodLink y.cls idx arraycopyName ∈ TB) (h2 : Cond.native arraycopyName ∈ TB) (h3 : Cond.static arraycopyName ∈ TB) (h4 : Cond.initialized "java/lang/System" ∈ TB) : z_en TB NT cl TF DF P y cc (pc, .invokestatic idx, [0]) := ⟨hd, Or.inr (Or.inr (Or.inl ⟨rfl, h1, h2, h3, h4⟩))⟩
theorem ze_cs {idx j L2 mc ms n : Nat} {y2 : MethodName} {c2 : ByteArray} {r2 : Option FieldType} {t2 : List zE} (hd : decode cc pc = .ok (.invokestatic idx, 3)) (hj : P[j]? = some (y2, c2, L2, r2, t2, mc, ms, n)) (hY : z_Y TB y2 c2 L2 n r2) (hl : Cond.methodLink y.cls idx y2 ∈ TB ∨ ∃ host, (y.cls, idx, y2, host) ∈ NT) (hs : Cond.static y2 ∈ TB) : z_en TB NT cl TF DF P y cc (pc, .invokestatic idx, [1, j]) := ⟨hd, Or.inr (Or.inr (Or.inr ⟨j, y2, c2, L2, r2, t2, mc, ms, n, rfl, hj, hY, hl, hs⟩))⟩
theorem ze_mn {idx : Nat} (hd : decode cc pc = .ok (.invokestatic idx, 3)) (h1 : Cond.methodLink y.cls idx Lib.Math.min.name ∈ TB) (h2 : Cond.static Lib.Math.min.name ∈ TB) (h3 : Cond.initialized "java/lang/Math" ∈ TB) (h4 : Cond.code Lib.Math.min.name Lib.Math.min.code 2 (some .int) ∈ TB) : z_en TB NT cl TF DF P y cc (pc, .invokestatic idx, [2]) := ⟨hd, Or.inr (Or.inl ⟨rfl, h1, h2, h3, h4⟩)⟩
theorem ze_cv {idx j ci L2 mc ms n N : Nat} {y2 : MethodName} {c2 : ByteArray} {r2 : Option FieldType} {t2 : List zE} {T : u_T} (hd : decode cc pc = .ok (.invokevirtual idx, 3)) (hj : P[j]? = some (y2, c2, L2, r2, t2, mc, ms, n)) (hY : z_Y TB y2 c2 L2 n r2) (hl : Cond.methodLink y.cls idx y2 ∈ TB ∨ ∃ host, (y.cls, idx, y2, host) ∈ NT) (hi : Cond.instanceMethod y2 ∈ TB) (hs : Cond.selects y2.cls y2 y2 ∈ TB) (hc : cl[ci]? = some (y2.cls, T, N)) : z_en TB NT cl TF DF P y cc (pc, .invokevirtual idx, [1, j, ci]) := ⟨hd, Or.inr ⟨j, ci, y2, c2, L2, r2, t2, mc, ms, n, T, N, rfl, hj, hY, hl, hi, hs, hc⟩⟩
theorem ze_xi {idx : Nat} (hd : decode cc pc = .ok (.invokespecial idx, 3)) : z_en TB NT cl TF DF P y cc (pc, .invokespecial idx, [9999]) := ⟨hd, Or.inl rfl⟩
theorem ze_xs {idx : Nat} (hd : decode cc pc = .ok (.invokestatic idx, 3)) : z_en TB NT cl TF DF P y cc (pc, .invokestatic idx, [9999]) := ⟨hd, Or.inl rfl⟩
end ZE
theorem z_fields {TB : List Cond} {C : String} {T : u_T} {N : Nat} (h : ∀ k, k < N → u_lay C T k ∈ TB) : ∀ w ∈ u_ws C T N, w ∈ TB := by
  intro w hw
  obtain ⟨k, hk, rfl⟩ := List.mem_map.mp hw
  exact h k (List.mem_range.mp hk)
end
section
-- ===== PART A: goes FIRST, ahead of the names: the tables' words, and 'selects' of the private methods out of them =====
/-- a private method of a class that the tables say can be made, by its rows of tables_1 -/
def lw_okq (q : MethodName × Nat) : Prop := (q.1.cls ≠ "java/lang/invoke/MethodHandle" ∧ q.1.cls ≠ "java/lang/invoke/VarHandle") ∧ Cond.instantiable q.1.cls q.2 ∈ tables_1 ∧ Cond.privateMethod q.1 ∈ tables_1 ∧ Cond.instanceMethod q.1 ∈ tables_1
theorem lw_p0 : lw_okq (⟨"HeldCoats$Tape", "firstUnblank", "(I)I"⟩, 11) := ⟨⟨by decide +kernel, by decide +kernel⟩, List.mem_of_getElem? (i := 35) (by decide +kernel), List.mem_of_getElem? (i := 595) (by decide +kernel), List.mem_of_getElem? (i := 596) (by decide +kernel)⟩
theorem lw_p1 : lw_okq (⟨"HeldCoats$Tape", "stopAtEnd", "()V"⟩, 11) := ⟨⟨by decide +kernel, by decide +kernel⟩, List.mem_of_getElem? (i := 35) (by decide +kernel), List.mem_of_getElem? (i := 599) (by decide +kernel), List.mem_of_getElem? (i := 600) (by decide +kernel)⟩
theorem lw_p2 : lw_okq (⟨"HeldCoats$Tape", "readRun", "()V"⟩, 11) := ⟨⟨by decide +kernel, by decide +kernel⟩, List.mem_of_getElem? (i := 35) (by decide +kernel), List.mem_of_getElem? (i := 603) (by decide +kernel), List.mem_of_getElem? (i := 604) (by decide +kernel)⟩
theorem lw_p3 : lw_okq (⟨"HeldCoats$Tape", "readSign", "(I)V"⟩, 11) := ⟨⟨by decide +kernel, by decide +kernel⟩, List.mem_of_getElem? (i := 35) (by decide +kernel), List.mem_of_getElem? (i := 607) (by decide +kernel), List.mem_of_getElem? (i := 608) (by decide +kernel)⟩
theorem lw_p4 : lw_okq (⟨"HeldCoats$Tape", "tellNameFromWord", "()V"⟩, 11) := ⟨⟨by decide +kernel, by decide +kernel⟩, List.mem_of_getElem? (i := 35) (by decide +kernel), List.mem_of_getElem? (i := 611) (by decide +kernel), List.mem_of_getElem? (i := 612) (by decide +kernel)⟩
theorem lw_p5 : lw_okq (⟨"HeldCoats$LawReader", "readLine", "()Z"⟩, 4) := ⟨⟨by decide +kernel, by decide +kernel⟩, List.mem_of_getElem? (i := 271) (by decide +kernel), List.mem_of_getElem? (i := 615) (by decide +kernel), List.mem_of_getElem? (i := 616) (by decide +kernel)⟩
theorem lw_p6 : lw_okq (⟨"HeldCoats$LawReader", "readSeat", "()Z"⟩, 4) := ⟨⟨by decide +kernel, by decide +kernel⟩, List.mem_of_getElem? (i := 271) (by decide +kernel), List.mem_of_getElem? (i := 623) (by decide +kernel), List.mem_of_getElem? (i := 624) (by decide +kernel)⟩
theorem lw_p7 : lw_okq (⟨"HeldCoats$LawReader", "readMan", "()Z"⟩, 4) := ⟨⟨by decide +kernel, by decide +kernel⟩, List.mem_of_getElem? (i := 271) (by decide +kernel), List.mem_of_getElem? (i := 641) (by decide +kernel), List.mem_of_getElem? (i := 642) (by decide +kernel)⟩
theorem lw_p8 : lw_okq (⟨"HeldCoats$LawReader", "readCoat", "()Z"⟩, 4) := ⟨⟨by decide +kernel, by decide +kernel⟩, List.mem_of_getElem? (i := 271) (by decide +kernel), List.mem_of_getElem? (i := 645) (by decide +kernel), List.mem_of_getElem? (i := 646) (by decide +kernel)⟩
theorem lw_p9 : lw_okq (⟨"HeldCoats$LawReader", "readCold", "()Z"⟩, 4) := ⟨⟨by decide +kernel, by decide +kernel⟩, List.mem_of_getElem? (i := 271) (by decide +kernel), List.mem_of_getElem? (i := 657) (by decide +kernel), List.mem_of_getElem? (i := 658) (by decide +kernel)⟩
theorem lw_p10 : lw_okq (⟨"HeldCoats$LawReader", "readOnce", "(III)I"⟩, 4) := ⟨⟨by decide +kernel, by decide +kernel⟩, List.mem_of_getElem? (i := 271) (by decide +kernel), List.mem_of_getElem? (i := 665) (by decide +kernel), List.mem_of_getElem? (i := 666) (by decide +kernel)⟩
theorem lw_p11 : lw_okq (⟨"HeldCoats", "closeTape", "()V"⟩, 11) := ⟨⟨by decide +kernel, by decide +kernel⟩, List.mem_of_getElem? (i := 27) (by decide +kernel), List.mem_of_getElem? (i := 681) (by decide +kernel), List.mem_of_getElem? (i := 682) (by decide +kernel)⟩
theorem lw_p12 : lw_okq (⟨"HeldCoats", "undoableIfDone", "(I)I"⟩, 11) := ⟨⟨by decide +kernel, by decide +kernel⟩, List.mem_of_getElem? (i := 27) (by decide +kernel), List.mem_of_getElem? (i := 796) (by decide +kernel), List.mem_of_getElem? (i := 797) (by decide +kernel)⟩
theorem lw_p13 : lw_okq (⟨"HeldCoats$State", "leaveQueue", "(I)V"⟩, 13) := ⟨⟨by decide +kernel, by decide +kernel⟩, List.mem_of_getElem? (i := 294) (by decide +kernel), List.mem_of_getElem? (i := 819) (by decide +kernel), List.mem_of_getElem? (i := 820) (by decide +kernel)⟩
theorem lw_p14 : lw_okq (⟨"HeldCoats$State", "joinQueue", "(I)V"⟩, 13) := ⟨⟨by decide +kernel, by decide +kernel⟩, List.mem_of_getElem? (i := 294) (by decide +kernel), List.mem_of_getElem? (i := 843) (by decide +kernel), List.mem_of_getElem? (i := 844) (by decide +kernel)⟩
theorem lw_p15 : lw_okq (⟨"HeldCoats$State", "freeze", "()V"⟩, 13) := ⟨⟨by decide +kernel, by decide +kernel⟩, List.mem_of_getElem? (i := 294) (by decide +kernel), List.mem_of_getElem? (i := 868) (by decide +kernel), List.mem_of_getElem? (i := 869) (by decide +kernel)⟩
def lw_privs_1 : List (MethodName × Nat) := [(⟨"HeldCoats$Tape", "firstUnblank", "(I)I"⟩, 11), (⟨"HeldCoats$Tape", "stopAtEnd", "()V"⟩, 11), (⟨"HeldCoats$Tape", "readRun", "()V"⟩, 11), (⟨"HeldCoats$Tape", "readSign", "(I)V"⟩, 11), (⟨"HeldCoats$Tape", "tellNameFromWord", "()V"⟩, 11), (⟨"HeldCoats$LawReader", "readLine", "()Z"⟩, 4), (⟨"HeldCoats$LawReader", "readSeat", "()Z"⟩, 4), (⟨"HeldCoats$LawReader", "readMan", "()Z"⟩, 4), (⟨"HeldCoats$LawReader", "readCoat", "()Z"⟩, 4), (⟨"HeldCoats$LawReader", "readCold", "()Z"⟩, 4), (⟨"HeldCoats$LawReader", "readOnce", "(III)I"⟩, 4), (⟨"HeldCoats", "closeTape", "()V"⟩, 11), (⟨"HeldCoats", "undoableIfDone", "(I)I"⟩, 11), (⟨"HeldCoats$State", "leaveQueue", "(I)V"⟩, 13), (⟨"HeldCoats$State", "joinQueue", "(I)V"⟩, 13), (⟨"HeldCoats$State", "freeze", "()V"⟩, 13)]
theorem lw_r1 : ∀ q ∈ lw_privs_1, lw_okq q := List.forall_mem_cons.mpr ⟨lw_p0, List.forall_mem_cons.mpr ⟨lw_p1, List.forall_mem_cons.mpr ⟨lw_p2, List.forall_mem_cons.mpr ⟨lw_p3, List.forall_mem_cons.mpr ⟨lw_p4, List.forall_mem_cons.mpr ⟨lw_p5, List.forall_mem_cons.mpr ⟨lw_p6, List.forall_mem_cons.mpr ⟨lw_p7, List.forall_mem_cons.mpr ⟨lw_p8, List.forall_mem_cons.mpr ⟨lw_p9, List.forall_mem_cons.mpr ⟨lw_p10, List.forall_mem_cons.mpr ⟨lw_p11, List.forall_mem_cons.mpr ⟨lw_p12, List.forall_mem_cons.mpr ⟨lw_p13, List.forall_mem_cons.mpr ⟨lw_p14, List.forall_mem_cons.mpr ⟨lw_p15, fun _ h => absurd h List.not_mem_nil⟩⟩⟩⟩⟩⟩⟩⟩⟩⟩⟩⟩⟩⟩⟩⟩
theorem lw_p16 : lw_okq (⟨"HeldCoats$State", "lieForDay", "(I)V"⟩, 13) := ⟨⟨by decide +kernel, by decide +kernel⟩, List.mem_of_getElem? (i := 294) (by decide +kernel), List.mem_of_getElem? (i := 876) (by decide +kernel), List.mem_of_getElem? (i := 877) (by decide +kernel)⟩
theorem lw_p17 : lw_okq (⟨"HeldCoats", "undoableIfAny", "(I)I"⟩, 11) := ⟨⟨by decide +kernel, by decide +kernel⟩, List.mem_of_getElem? (i := 27) (by decide +kernel), List.mem_of_getElem? (i := 880) (by decide +kernel), List.mem_of_getElem? (i := 881) (by decide +kernel)⟩
theorem lw_p18 : lw_okq (⟨"HeldCoats$Counsel", "rankBareSeats", "()I"⟩, 14) := ⟨⟨by decide +kernel, by decide +kernel⟩, List.mem_of_getElem? (i := 447) (by decide +kernel), List.mem_of_getElem? (i := 900) (by decide +kernel), List.mem_of_getElem? (i := 901) (by decide +kernel)⟩
theorem lw_p19 : lw_okq (⟨"HeldCoats$Counsel", "worthiestBareSeat", "(I)I"⟩, 14) := ⟨⟨by decide +kernel, by decide +kernel⟩, List.mem_of_getElem? (i := 447) (by decide +kernel), List.mem_of_getElem? (i := 904) (by decide +kernel), List.mem_of_getElem? (i := 905) (by decide +kernel)⟩
theorem lw_p20 : lw_okq (⟨"HeldCoats$Counsel", "countHung", "(LHeldCoats$Tape;)Z"⟩, 14) := ⟨⟨by decide +kernel, by decide +kernel⟩, List.mem_of_getElem? (i := 447) (by decide +kernel), List.mem_of_getElem? (i := 1023) (by decide +kernel), List.mem_of_getElem? (i := 1024) (by decide +kernel)⟩
theorem lw_p21 : lw_okq (⟨"HeldCoats$Counsel", "tellOfWays", "()V"⟩, 14) := ⟨⟨by decide +kernel, by decide +kernel⟩, List.mem_of_getElem? (i := 447) (by decide +kernel), List.mem_of_getElem? (i := 1032) (by decide +kernel), List.mem_of_getElem? (i := 1033) (by decide +kernel)⟩
theorem lw_p22 : lw_okq (⟨"HeldCoats$Counsel", "menWanting", "(I)I"⟩, 14) := ⟨⟨by decide +kernel, by decide +kernel⟩, List.mem_of_getElem? (i := 447) (by decide +kernel), List.mem_of_getElem? (i := 1052) (by decide +kernel), List.mem_of_getElem? (i := 1053) (by decide +kernel)⟩
theorem lw_p23 : lw_okq (⟨"HeldCoats$Counsel", "drawDay", "(LHeldCoats$State;)I"⟩, 14) := ⟨⟨by decide +kernel, by decide +kernel⟩, List.mem_of_getElem? (i := 447) (by decide +kernel), List.mem_of_getElem? (i := 1074) (by decide +kernel), List.mem_of_getElem? (i := 1075) (by decide +kernel)⟩
theorem lw_p24 : lw_okq (⟨"HeldCoats$Counsel", "drawForCoat", "(ILHeldCoats$State;)V"⟩, 14) := ⟨⟨by decide +kernel, by decide +kernel⟩, List.mem_of_getElem? (i := 447) (by decide +kernel), List.mem_of_getElem? (i := 1078) (by decide +kernel), List.mem_of_getElem? (i := 1079) (by decide +kernel)⟩
theorem lw_p25 : lw_okq (⟨"HeldCoats$Counsel", "nextDraw", "(I)I"⟩, 14) := ⟨⟨by decide +kernel, by decide +kernel⟩, List.mem_of_getElem? (i := 447) (by decide +kernel), List.mem_of_getElem? (i := 1082) (by decide +kernel), List.mem_of_getElem? (i := 1083) (by decide +kernel)⟩
theorem lw_p26 : lw_okq (⟨"HeldCoats$Counsel", "rulesByDraws", "(II)Z"⟩, 14) := ⟨⟨by decide +kernel, by decide +kernel⟩, List.mem_of_getElem? (i := 447) (by decide +kernel), List.mem_of_getElem? (i := 1098) (by decide +kernel), List.mem_of_getElem? (i := 1099) (by decide +kernel)⟩
theorem lw_p27 : lw_okq (⟨"HeldCoats$Book", "readLine", "(LHeldCoats$Tape;LHeldCoats$Names;)Z"⟩, 5) := ⟨⟨by decide +kernel, by decide +kernel⟩, List.mem_of_getElem? (i := 424) (by decide +kernel), List.mem_of_getElem? (i := 1111) (by decide +kernel), List.mem_of_getElem? (i := 1112) (by decide +kernel)⟩
theorem lw_p28 : lw_okq (⟨"HeldCoats$Book", "setLine", "(III)Z"⟩, 5) := ⟨⟨by decide +kernel, by decide +kernel⟩, List.mem_of_getElem? (i := 424) (by decide +kernel), List.mem_of_getElem? (i := 1123) (by decide +kernel), List.mem_of_getElem? (i := 1124) (by decide +kernel)⟩
theorem lw_p29 : lw_okq (⟨"HeldCoats$Book", "readWears", "(ILHeldCoats$Tape;LHeldCoats$Names;)Z"⟩, 5) := ⟨⟨by decide +kernel, by decide +kernel⟩, List.mem_of_getElem? (i := 424) (by decide +kernel), List.mem_of_getElem? (i := 1127) (by decide +kernel), List.mem_of_getElem? (i := 1128) (by decide +kernel)⟩
theorem lw_p30 : lw_okq (⟨"HeldCoats$Book", "readOfCoat", "(ILHeldCoats$Tape;LHeldCoats$Names;)Z"⟩, 5) := ⟨⟨by decide +kernel, by decide +kernel⟩, List.mem_of_getElem? (i := 424) (by decide +kernel), List.mem_of_getElem? (i := 1132) (by decide +kernel), List.mem_of_getElem? (i := 1133) (by decide +kernel)⟩
theorem lw_p31 : lw_okq (⟨"HeldCoats$Book", "liveLine", "(ILHeldCoats$State;)I"⟩, 5) := ⟨⟨by decide +kernel, by decide +kernel⟩, List.mem_of_getElem? (i := 424) (by decide +kernel), List.mem_of_getElem? (i := 1143) (by decide +kernel), List.mem_of_getElem? (i := 1144) (by decide +kernel)⟩
def lw_privs_2 : List (MethodName × Nat) := [(⟨"HeldCoats$State", "lieForDay", "(I)V"⟩, 13), (⟨"HeldCoats", "undoableIfAny", "(I)I"⟩, 11), (⟨"HeldCoats$Counsel", "rankBareSeats", "()I"⟩, 14), (⟨"HeldCoats$Counsel", "worthiestBareSeat", "(I)I"⟩, 14), (⟨"HeldCoats$Counsel", "countHung", "(LHeldCoats$Tape;)Z"⟩, 14), (⟨"HeldCoats$Counsel", "tellOfWays", "()V"⟩, 14), (⟨"HeldCoats$Counsel", "menWanting", "(I)I"⟩, 14), (⟨"HeldCoats$Counsel", "drawDay", "(LHeldCoats$State;)I"⟩, 14), (⟨"HeldCoats$Counsel", "drawForCoat", "(ILHeldCoats$State;)V"⟩, 14), (⟨"HeldCoats$Counsel", "nextDraw", "(I)I"⟩, 14), (⟨"HeldCoats$Counsel", "rulesByDraws", "(II)Z"⟩, 14), (⟨"HeldCoats$Book", "readLine", "(LHeldCoats$Tape;LHeldCoats$Names;)Z"⟩, 5), (⟨"HeldCoats$Book", "setLine", "(III)Z"⟩, 5), (⟨"HeldCoats$Book", "readWears", "(ILHeldCoats$Tape;LHeldCoats$Names;)Z"⟩, 5), (⟨"HeldCoats$Book", "readOfCoat", "(ILHeldCoats$Tape;LHeldCoats$Names;)Z"⟩, 5), (⟨"HeldCoats$Book", "liveLine", "(ILHeldCoats$State;)I"⟩, 5)]
theorem lw_r2 : ∀ q ∈ lw_privs_2, lw_okq q := List.forall_mem_cons.mpr ⟨lw_p16, List.forall_mem_cons.mpr ⟨lw_p17, List.forall_mem_cons.mpr ⟨lw_p18, List.forall_mem_cons.mpr ⟨lw_p19, List.forall_mem_cons.mpr ⟨lw_p20, List.forall_mem_cons.mpr ⟨lw_p21, List.forall_mem_cons.mpr ⟨lw_p22, List.forall_mem_cons.mpr ⟨lw_p23, List.forall_mem_cons.mpr ⟨lw_p24, List.forall_mem_cons.mpr ⟨lw_p25, List.forall_mem_cons.mpr ⟨lw_p26, List.forall_mem_cons.mpr ⟨lw_p27, List.forall_mem_cons.mpr ⟨lw_p28, List.forall_mem_cons.mpr ⟨lw_p29, List.forall_mem_cons.mpr ⟨lw_p30, List.forall_mem_cons.mpr ⟨lw_p31, fun _ h => absurd h List.not_mem_nil⟩⟩⟩⟩⟩⟩⟩⟩⟩⟩⟩⟩⟩⟩⟩⟩
theorem lw_p32 : lw_okq (⟨"HeldCoats$SentenceReader", "readCond", "(I)Z"⟩, 3) := ⟨⟨by decide +kernel, by decide +kernel⟩, List.mem_of_getElem? (i := 403) (by decide +kernel), List.mem_of_getElem? (i := 1170) (by decide +kernel), List.mem_of_getElem? (i := 1171) (by decide +kernel)⟩
theorem lw_p33 : lw_okq (⟨"HeldCoats$SentenceReader", "readAll", "(I)Z"⟩, 3) := ⟨⟨by decide +kernel, by decide +kernel⟩, List.mem_of_getElem? (i := 403) (by decide +kernel), List.mem_of_getElem? (i := 1174) (by decide +kernel), List.mem_of_getElem? (i := 1175) (by decide +kernel)⟩
theorem lw_p34 : lw_okq (⟨"HeldCoats$SentenceReader", "readOne", "(I)Z"⟩, 3) := ⟨⟨by decide +kernel, by decide +kernel⟩, List.mem_of_getElem? (i := 403) (by decide +kernel), List.mem_of_getElem? (i := 1178) (by decide +kernel), List.mem_of_getElem? (i := 1179) (by decide +kernel)⟩
theorem lw_p35 : lw_okq (⟨"HeldCoats$SentenceReader", "readSaying", "(I)Z"⟩, 3) := ⟨⟨by decide +kernel, by decide +kernel⟩, List.mem_of_getElem? (i := 403) (by decide +kernel), List.mem_of_getElem? (i := 1191) (by decide +kernel), List.mem_of_getElem? (i := 1192) (by decide +kernel)⟩
theorem lw_p36 : lw_okq (⟨"HeldCoats$Sentence", "seatsOfStep", "(ILHeldCoats$State;)I"⟩, 6) := ⟨⟨by decide +kernel, by decide +kernel⟩, List.mem_of_getElem? (i := 376) (by decide +kernel), List.mem_of_getElem? (i := 1216) (by decide +kernel), List.mem_of_getElem? (i := 1217) (by decide +kernel)⟩
theorem lw_p37 : lw_okq (⟨"HeldCoats$Sentence", "isSaidOf", "(IILHeldCoats$State;)Z"⟩, 6) := ⟨⟨by decide +kernel, by decide +kernel⟩, List.mem_of_getElem? (i := 376) (by decide +kernel), List.mem_of_getElem? (i := 1220) (by decide +kernel), List.mem_of_getElem? (i := 1221) (by decide +kernel)⟩
theorem lw_p38 : lw_okq (⟨"HeldCoats$Sentence", "compares", "(II)Z"⟩, 6) := ⟨⟨by decide +kernel, by decide +kernel⟩, List.mem_of_getElem? (i := 376) (by decide +kernel), List.mem_of_getElem? (i := 1226) (by decide +kernel), List.mem_of_getElem? (i := 1227) (by decide +kernel)⟩
theorem lw_p39 : lw_okq (⟨"java/lang/Throwable", "fillInStackTrace", "(I)Ljava/lang/Throwable;"⟩, 6) := ⟨⟨by decide +kernel, by decide +kernel⟩, List.mem_of_getElem? (i := 1306) (by decide +kernel), List.mem_of_getElem? (i := 1304) (by decide +kernel), List.mem_of_getElem? (i := 1305) (by decide +kernel)⟩
theorem lw_p40 : lw_okq (⟨"HeldCoatsModel", "four", "(I)V"⟩, 49) := ⟨⟨by decide +kernel, by decide +kernel⟩, List.mem_of_getElem? (i := 1360) (by decide +kernel), List.mem_of_getElem? (i := 1358) (by decide +kernel), List.mem_of_getElem? (i := 1359) (by decide +kernel)⟩
theorem lw_p41 : lw_okq (⟨"HeldCoatsModel", "clears", "()V"⟩, 49) := ⟨⟨by decide +kernel, by decide +kernel⟩, List.mem_of_getElem? (i := 1360) (by decide +kernel), List.mem_of_getElem? (i := 1396) (by decide +kernel), List.mem_of_getElem? (i := 1397) (by decide +kernel)⟩
theorem lw_p42 : lw_okq (⟨"HeldCoatsModel", "taken", "(I)V"⟩, 49) := ⟨⟨by decide +kernel, by decide +kernel⟩, List.mem_of_getElem? (i := 1360) (by decide +kernel), List.mem_of_getElem? (i := 1553) (by decide +kernel), List.mem_of_getElem? (i := 1554) (by decide +kernel)⟩
theorem lw_p43 : lw_okq (⟨"HeldCoatsModel", "next", "()V"⟩, 49) := ⟨⟨by decide +kernel, by decide +kernel⟩, List.mem_of_getElem? (i := 1360) (by decide +kernel), List.mem_of_getElem? (i := 1557) (by decide +kernel), List.mem_of_getElem? (i := 1558) (by decide +kernel)⟩
theorem lw_p44 : lw_okq (⟨"HeldCoatsModel", "peek", "()I"⟩, 49) := ⟨⟨by decide +kernel, by decide +kernel⟩, List.mem_of_getElem? (i := 1360) (by decide +kernel), List.mem_of_getElem? (i := 1561) (by decide +kernel), List.mem_of_getElem? (i := 1562) (by decide +kernel)⟩
theorem lw_p45 : lw_okq (⟨"HeldCoatsModel", "line", "()Z"⟩, 49) := ⟨⟨by decide +kernel, by decide +kernel⟩, List.mem_of_getElem? (i := 1360) (by decide +kernel), List.mem_of_getElem? (i := 1571) (by decide +kernel), List.mem_of_getElem? (i := 1572) (by decide +kernel)⟩
theorem lw_p46 : lw_okq (⟨"HeldCoatsModel", "isWord", "(J)Z"⟩, 49) := ⟨⟨by decide +kernel, by decide +kernel⟩, List.mem_of_getElem? (i := 1360) (by decide +kernel), List.mem_of_getElem? (i := 1575) (by decide +kernel), List.mem_of_getElem? (i := 1576) (by decide +kernel)⟩
theorem lw_p47 : lw_okq (⟨"HeldCoatsModel", "bad", "(I)Z"⟩, 49) := ⟨⟨by decide +kernel, by decide +kernel⟩, List.mem_of_getElem? (i := 1360) (by decide +kernel), List.mem_of_getElem? (i := 1579) (by decide +kernel), List.mem_of_getElem? (i := 1580) (by decide +kernel)⟩
def lw_privs_3 : List (MethodName × Nat) := [(⟨"HeldCoats$SentenceReader", "readCond", "(I)Z"⟩, 3), (⟨"HeldCoats$SentenceReader", "readAll", "(I)Z"⟩, 3), (⟨"HeldCoats$SentenceReader", "readOne", "(I)Z"⟩, 3), (⟨"HeldCoats$SentenceReader", "readSaying", "(I)Z"⟩, 3), (⟨"HeldCoats$Sentence", "seatsOfStep", "(ILHeldCoats$State;)I"⟩, 6), (⟨"HeldCoats$Sentence", "isSaidOf", "(IILHeldCoats$State;)Z"⟩, 6), (⟨"HeldCoats$Sentence", "compares", "(II)Z"⟩, 6), (⟨"java/lang/Throwable", "fillInStackTrace", "(I)Ljava/lang/Throwable;"⟩, 6), (⟨"HeldCoatsModel", "four", "(I)V"⟩, 49), (⟨"HeldCoatsModel", "clears", "()V"⟩, 49), (⟨"HeldCoatsModel", "taken", "(I)V"⟩, 49), (⟨"HeldCoatsModel", "next", "()V"⟩, 49), (⟨"HeldCoatsModel", "peek", "()I"⟩, 49), (⟨"HeldCoatsModel", "line", "()Z"⟩, 49), (⟨"HeldCoatsModel", "isWord", "(J)Z"⟩, 49), (⟨"HeldCoatsModel", "bad", "(I)Z"⟩, 49)]
theorem lw_r3 : ∀ q ∈ lw_privs_3, lw_okq q := List.forall_mem_cons.mpr ⟨lw_p32, List.forall_mem_cons.mpr ⟨lw_p33, List.forall_mem_cons.mpr ⟨lw_p34, List.forall_mem_cons.mpr ⟨lw_p35, List.forall_mem_cons.mpr ⟨lw_p36, List.forall_mem_cons.mpr ⟨lw_p37, List.forall_mem_cons.mpr ⟨lw_p38, List.forall_mem_cons.mpr ⟨lw_p39, List.forall_mem_cons.mpr ⟨lw_p40, List.forall_mem_cons.mpr ⟨lw_p41, List.forall_mem_cons.mpr ⟨lw_p42, List.forall_mem_cons.mpr ⟨lw_p43, List.forall_mem_cons.mpr ⟨lw_p44, List.forall_mem_cons.mpr ⟨lw_p45, List.forall_mem_cons.mpr ⟨lw_p46, List.forall_mem_cons.mpr ⟨lw_p47, fun _ h => absurd h List.not_mem_nil⟩⟩⟩⟩⟩⟩⟩⟩⟩⟩⟩⟩⟩⟩⟩⟩
theorem lw_p48 : lw_okq (⟨"HeldCoatsModel", "fresh", "(I)Z"⟩, 49) := ⟨⟨by decide +kernel, by decide +kernel⟩, List.mem_of_getElem? (i := 1360) (by decide +kernel), List.mem_of_getElem? (i := 1583) (by decide +kernel), List.mem_of_getElem? (i := 1584) (by decide +kernel)⟩
theorem lw_p49 : lw_okq (⟨"HeldCoatsModel", "isName", "()Z"⟩, 49) := ⟨⟨by decide +kernel, by decide +kernel⟩, List.mem_of_getElem? (i := 1360) (by decide +kernel), List.mem_of_getElem? (i := 1587) (by decide +kernel), List.mem_of_getElem? (i := 1588) (by decide +kernel)⟩
theorem lw_p50 : lw_okq (⟨"HeldCoatsModel", "find", "(II)I"⟩, 49) := ⟨⟨by decide +kernel, by decide +kernel⟩, List.mem_of_getElem? (i := 1360) (by decide +kernel), List.mem_of_getElem? (i := 1591) (by decide +kernel), List.mem_of_getElem? (i := 1592) (by decide +kernel)⟩
theorem lw_p51 : lw_okq (⟨"HeldCoatsModel", "puts", "(III)Z"⟩, 49) := ⟨⟨by decide +kernel, by decide +kernel⟩, List.mem_of_getElem? (i := 1360) (by decide +kernel), List.mem_of_getElem? (i := 1595) (by decide +kernel), List.mem_of_getElem? (i := 1596) (by decide +kernel)⟩
theorem lw_p52 : lw_okq (⟨"HeldCoatsModel", "takes", "(II)Z"⟩, 49) := ⟨⟨by decide +kernel, by decide +kernel⟩, List.mem_of_getElem? (i := 1360) (by decide +kernel), List.mem_of_getElem? (i := 1599) (by decide +kernel), List.mem_of_getElem? (i := 1600) (by decide +kernel)⟩
theorem lw_p53 : lw_okq (⟨"HeldCoatsModel", "takesName", "(II)Z"⟩, 49) := ⟨⟨by decide +kernel, by decide +kernel⟩, List.mem_of_getElem? (i := 1360) (by decide +kernel), List.mem_of_getElem? (i := 1606) (by decide +kernel), List.mem_of_getElem? (i := 1607) (by decide +kernel)⟩
theorem lw_p54 : lw_okq (⟨"HeldCoatsModel", "looksAt", "(II)Z"⟩, 49) := ⟨⟨by decide +kernel, by decide +kernel⟩, List.mem_of_getElem? (i := 1360) (by decide +kernel), List.mem_of_getElem? (i := 1610) (by decide +kernel), List.mem_of_getElem? (i := 1611) (by decide +kernel)⟩
theorem lw_p55 : lw_okq (⟨"HeldCoatsModel", "readCold", "()Z"⟩, 49) := ⟨⟨by decide +kernel, by decide +kernel⟩, List.mem_of_getElem? (i := 1360) (by decide +kernel), List.mem_of_getElem? (i := 1614) (by decide +kernel), List.mem_of_getElem? (i := 1615) (by decide +kernel)⟩
theorem lw_p56 : lw_okq (⟨"HeldCoatsModel", "once", "(IIII)Z"⟩, 49) := ⟨⟨by decide +kernel, by decide +kernel⟩, List.mem_of_getElem? (i := 1360) (by decide +kernel), List.mem_of_getElem? (i := 1618) (by decide +kernel), List.mem_of_getElem? (i := 1619) (by decide +kernel)⟩
theorem lw_p57 : lw_okq (⟨"HeldCoatsModel", "sign", "(I)Z"⟩, 49) := ⟨⟨by decide +kernel, by decide +kernel⟩, List.mem_of_getElem? (i := 1360) (by decide +kernel), List.mem_of_getElem? (i := 1625) (by decide +kernel), List.mem_of_getElem? (i := 1626) (by decide +kernel)⟩
theorem lw_p58 : lw_okq (⟨"HeldCoatsModel", "isSign", "(I)Z"⟩, 49) := ⟨⟨by decide +kernel, by decide +kernel⟩, List.mem_of_getElem? (i := 1360) (by decide +kernel), List.mem_of_getElem? (i := 1629) (by decide +kernel), List.mem_of_getElem? (i := 1630) (by decide +kernel)⟩
theorem lw_p59 : lw_okq (⟨"HeldCoatsModel", "isSeat", "(I)Z"⟩, 49) := ⟨⟨by decide +kernel, by decide +kernel⟩, List.mem_of_getElem? (i := 1360) (by decide +kernel), List.mem_of_getElem? (i := 1641) (by decide +kernel), List.mem_of_getElem? (i := 1642) (by decide +kernel)⟩
theorem lw_p60 : lw_okq (⟨"HeldCoatsModel", "coatOn", "(I)I"⟩, 49) := ⟨⟨by decide +kernel, by decide +kernel⟩, List.mem_of_getElem? (i := 1360) (by decide +kernel), List.mem_of_getElem? (i := 1645) (by decide +kernel), List.mem_of_getElem? (i := 1646) (by decide +kernel)⟩
theorem lw_p61 : lw_okq (⟨"HeldCoatsModel", "holder", "(I)I"⟩, 49) := ⟨⟨by decide +kernel, by decide +kernel⟩, List.mem_of_getElem? (i := 1360) (by decide +kernel), List.mem_of_getElem? (i := 1649) (by decide +kernel), List.mem_of_getElem? (i := 1650) (by decide +kernel)⟩
theorem lw_p62 : lw_okq (⟨"HeldCoatsModel", "isSummer", "()Z"⟩, 49) := ⟨⟨by decide +kernel, by decide +kernel⟩, List.mem_of_getElem? (i := 1360) (by decide +kernel), List.mem_of_getElem? (i := 1653) (by decide +kernel), List.mem_of_getElem? (i := 1654) (by decide +kernel)⟩
theorem lw_p63 : lw_okq (⟨"HeldCoatsModel", "coldOn", "(I)I"⟩, 49) := ⟨⟨by decide +kernel, by decide +kernel⟩, List.mem_of_getElem? (i := 1360) (by decide +kernel), List.mem_of_getElem? (i := 1657) (by decide +kernel), List.mem_of_getElem? (i := 1658) (by decide +kernel)⟩
def lw_privs_4 : List (MethodName × Nat) := [(⟨"HeldCoatsModel", "fresh", "(I)Z"⟩, 49), (⟨"HeldCoatsModel", "isName", "()Z"⟩, 49), (⟨"HeldCoatsModel", "find", "(II)I"⟩, 49), (⟨"HeldCoatsModel", "puts", "(III)Z"⟩, 49), (⟨"HeldCoatsModel", "takes", "(II)Z"⟩, 49), (⟨"HeldCoatsModel", "takesName", "(II)Z"⟩, 49), (⟨"HeldCoatsModel", "looksAt", "(II)Z"⟩, 49), (⟨"HeldCoatsModel", "readCold", "()Z"⟩, 49), (⟨"HeldCoatsModel", "once", "(IIII)Z"⟩, 49), (⟨"HeldCoatsModel", "sign", "(I)Z"⟩, 49), (⟨"HeldCoatsModel", "isSign", "(I)Z"⟩, 49), (⟨"HeldCoatsModel", "isSeat", "(I)Z"⟩, 49), (⟨"HeldCoatsModel", "coatOn", "(I)I"⟩, 49), (⟨"HeldCoatsModel", "holder", "(I)I"⟩, 49), (⟨"HeldCoatsModel", "isSummer", "()Z"⟩, 49), (⟨"HeldCoatsModel", "coldOn", "(I)I"⟩, 49)]
theorem lw_r4 : ∀ q ∈ lw_privs_4, lw_okq q := List.forall_mem_cons.mpr ⟨lw_p48, List.forall_mem_cons.mpr ⟨lw_p49, List.forall_mem_cons.mpr ⟨lw_p50, List.forall_mem_cons.mpr ⟨lw_p51, List.forall_mem_cons.mpr ⟨lw_p52, List.forall_mem_cons.mpr ⟨lw_p53, List.forall_mem_cons.mpr ⟨lw_p54, List.forall_mem_cons.mpr ⟨lw_p55, List.forall_mem_cons.mpr ⟨lw_p56, List.forall_mem_cons.mpr ⟨lw_p57, List.forall_mem_cons.mpr ⟨lw_p58, List.forall_mem_cons.mpr ⟨lw_p59, List.forall_mem_cons.mpr ⟨lw_p60, List.forall_mem_cons.mpr ⟨lw_p61, List.forall_mem_cons.mpr ⟨lw_p62, List.forall_mem_cons.mpr ⟨lw_p63, fun _ h => absurd h List.not_mem_nil⟩⟩⟩⟩⟩⟩⟩⟩⟩⟩⟩⟩⟩⟩⟩⟩
theorem lw_p64 : lw_okq (⟨"HeldCoatsModel", "whoseOn", "(I)I"⟩, 49) := ⟨⟨by decide +kernel, by decide +kernel⟩, List.mem_of_getElem? (i := 1360) (by decide +kernel), List.mem_of_getElem? (i := 1661) (by decide +kernel), List.mem_of_getElem? (i := 1662) (by decide +kernel)⟩
theorem lw_p65 : lw_okq (⟨"HeldCoatsModel", "isMan", "(I)Z"⟩, 49) := ⟨⟨by decide +kernel, by decide +kernel⟩, List.mem_of_getElem? (i := 1360) (by decide +kernel), List.mem_of_getElem? (i := 1669) (by decide +kernel), List.mem_of_getElem? (i := 1670) (by decide +kernel)⟩
theorem lw_p66 : lw_okq (⟨"HeldCoatsModel", "throwsIf", "(Z)Z"⟩, 49) := ⟨⟨by decide +kernel, by decide +kernel⟩, List.mem_of_getElem? (i := 1360) (by decide +kernel), List.mem_of_getElem? (i := 1673) (by decide +kernel), List.mem_of_getElem? (i := 1674) (by decide +kernel)⟩
theorem lw_p67 : lw_okq (⟨"HeldCoatsModel", "chill", "(I)I"⟩, 49) := ⟨⟨by decide +kernel, by decide +kernel⟩, List.mem_of_getElem? (i := 1360) (by decide +kernel), List.mem_of_getElem? (i := 1677) (by decide +kernel), List.mem_of_getElem? (i := 1678) (by decide +kernel)⟩
theorem lw_p68 : lw_okq (⟨"HeldCoatsModel", "coatsAt", "(I)I"⟩, 49) := ⟨⟨by decide +kernel, by decide +kernel⟩, List.mem_of_getElem? (i := 1360) (by decide +kernel), List.mem_of_getElem? (i := 1681) (by decide +kernel), List.mem_of_getElem? (i := 1682) (by decide +kernel)⟩
theorem lw_p69 : lw_okq (⟨"HeldCoatsModel", "chillIn", "(III)I"⟩, 49) := ⟨⟨by decide +kernel, by decide +kernel⟩, List.mem_of_getElem? (i := 1360) (by decide +kernel), List.mem_of_getElem? (i := 1685) (by decide +kernel), List.mem_of_getElem? (i := 1686) (by decide +kernel)⟩
theorem lw_p70 : lw_okq (⟨"HeldCoatsModel", "warmth", "(I)I"⟩, 49) := ⟨⟨by decide +kernel, by decide +kernel⟩, List.mem_of_getElem? (i := 1360) (by decide +kernel), List.mem_of_getElem? (i := 1689) (by decide +kernel), List.mem_of_getElem? (i := 1690) (by decide +kernel)⟩
theorem lw_p71 : lw_okq (⟨"HeldCoatsModel", "isCoat", "(I)Z"⟩, 49) := ⟨⟨by decide +kernel, by decide +kernel⟩, List.mem_of_getElem? (i := 1360) (by decide +kernel), List.mem_of_getElem? (i := 1700) (by decide +kernel), List.mem_of_getElem? (i := 1701) (by decide +kernel)⟩
theorem lw_p72 : lw_okq (⟨"HeldCoatsModel", "ruler", "()I"⟩, 49) := ⟨⟨by decide +kernel, by decide +kernel⟩, List.mem_of_getElem? (i := 1360) (by decide +kernel), List.mem_of_getElem? (i := 1708) (by decide +kernel), List.mem_of_getElem? (i := 1709) (by decide +kernel)⟩
theorem lw_p73 : lw_okq (⟨"HeldCoatsModel", "rulerBy", "(Z)I"⟩, 49) := ⟨⟨by decide +kernel, by decide +kernel⟩, List.mem_of_getElem? (i := 1360) (by decide +kernel), List.mem_of_getElem? (i := 1712) (by decide +kernel), List.mem_of_getElem? (i := 1713) (by decide +kernel)⟩
theorem lw_p74 : lw_okq (⟨"HeldCoatsModel", "whyLay", "(II)I"⟩, 49) := ⟨⟨by decide +kernel, by decide +kernel⟩, List.mem_of_getElem? (i := 1360) (by decide +kernel), List.mem_of_getElem? (i := 1720) (by decide +kernel), List.mem_of_getElem? (i := 1721) (by decide +kernel)⟩
theorem lw_p75 : lw_okq (⟨"HeldCoatsModel", "isWorn", "(I)Z"⟩, 49) := ⟨⟨by decide +kernel, by decide +kernel⟩, List.mem_of_getElem? (i := 1360) (by decide +kernel), List.mem_of_getElem? (i := 1724) (by decide +kernel), List.mem_of_getElem? (i := 1725) (by decide +kernel)⟩
theorem lw_p76 : lw_okq (⟨"HeldCoatsModel", "keepsAll", "()V"⟩, 49) := ⟨⟨by decide +kernel, by decide +kernel⟩, List.mem_of_getElem? (i := 1360) (by decide +kernel), List.mem_of_getElem? (i := 1728) (by decide +kernel), List.mem_of_getElem? (i := 1729) (by decide +kernel)⟩
theorem lw_p77 : lw_okq (⟨"HeldCoatsModel", "lays", "(II)V"⟩, 49) := ⟨⟨by decide +kernel, by decide +kernel⟩, List.mem_of_getElem? (i := 1360) (by decide +kernel), List.mem_of_getElem? (i := 1732) (by decide +kernel), List.mem_of_getElem? (i := 1733) (by decide +kernel)⟩
theorem lw_p78 : lw_okq (⟨"HeldCoatsModel", "whyWear", "(II)I"⟩, 49) := ⟨⟨by decide +kernel, by decide +kernel⟩, List.mem_of_getElem? (i := 1360) (by decide +kernel), List.mem_of_getElem? (i := 1740) (by decide +kernel), List.mem_of_getElem? (i := 1741) (by decide +kernel)⟩
theorem lw_p79 : lw_okq (⟨"HeldCoatsModel", "wears", "(II)V"⟩, 49) := ⟨⟨by decide +kernel, by decide +kernel⟩, List.mem_of_getElem? (i := 1360) (by decide +kernel), List.mem_of_getElem? (i := 1744) (by decide +kernel), List.mem_of_getElem? (i := 1745) (by decide +kernel)⟩
def lw_privs_5 : List (MethodName × Nat) := [(⟨"HeldCoatsModel", "whoseOn", "(I)I"⟩, 49), (⟨"HeldCoatsModel", "isMan", "(I)Z"⟩, 49), (⟨"HeldCoatsModel", "throwsIf", "(Z)Z"⟩, 49), (⟨"HeldCoatsModel", "chill", "(I)I"⟩, 49), (⟨"HeldCoatsModel", "coatsAt", "(I)I"⟩, 49), (⟨"HeldCoatsModel", "chillIn", "(III)I"⟩, 49), (⟨"HeldCoatsModel", "warmth", "(I)I"⟩, 49), (⟨"HeldCoatsModel", "isCoat", "(I)Z"⟩, 49), (⟨"HeldCoatsModel", "ruler", "()I"⟩, 49), (⟨"HeldCoatsModel", "rulerBy", "(Z)I"⟩, 49), (⟨"HeldCoatsModel", "whyLay", "(II)I"⟩, 49), (⟨"HeldCoatsModel", "isWorn", "(I)Z"⟩, 49), (⟨"HeldCoatsModel", "keepsAll", "()V"⟩, 49), (⟨"HeldCoatsModel", "lays", "(II)V"⟩, 49), (⟨"HeldCoatsModel", "whyWear", "(II)I"⟩, 49), (⟨"HeldCoatsModel", "wears", "(II)V"⟩, 49)]
theorem lw_r5 : ∀ q ∈ lw_privs_5, lw_okq q := List.forall_mem_cons.mpr ⟨lw_p64, List.forall_mem_cons.mpr ⟨lw_p65, List.forall_mem_cons.mpr ⟨lw_p66, List.forall_mem_cons.mpr ⟨lw_p67, List.forall_mem_cons.mpr ⟨lw_p68, List.forall_mem_cons.mpr ⟨lw_p69, List.forall_mem_cons.mpr ⟨lw_p70, List.forall_mem_cons.mpr ⟨lw_p71, List.forall_mem_cons.mpr ⟨lw_p72, List.forall_mem_cons.mpr ⟨lw_p73, List.forall_mem_cons.mpr ⟨lw_p74, List.forall_mem_cons.mpr ⟨lw_p75, List.forall_mem_cons.mpr ⟨lw_p76, List.forall_mem_cons.mpr ⟨lw_p77, List.forall_mem_cons.mpr ⟨lw_p78, List.forall_mem_cons.mpr ⟨lw_p79, fun _ h => absurd h List.not_mem_nil⟩⟩⟩⟩⟩⟩⟩⟩⟩⟩⟩⟩⟩⟩⟩⟩
theorem lw_p80 : lw_okq (⟨"HeldCoatsModel", "unqueues", "(I)V"⟩, 49) := ⟨⟨by decide +kernel, by decide +kernel⟩, List.mem_of_getElem? (i := 1360) (by decide +kernel), List.mem_of_getElem? (i := 1748) (by decide +kernel), List.mem_of_getElem? (i := 1749) (by decide +kernel)⟩
theorem lw_p81 : lw_okq (⟨"HeldCoatsModel", "whyLend", "(II)I"⟩, 49) := ⟨⟨by decide +kernel, by decide +kernel⟩, List.mem_of_getElem? (i := 1360) (by decide +kernel), List.mem_of_getElem? (i := 1756) (by decide +kernel), List.mem_of_getElem? (i := 1757) (by decide +kernel)⟩
theorem lw_p82 : lw_okq (⟨"HeldCoatsModel", "keeps", "(I)V"⟩, 49) := ⟨⟨by decide +kernel, by decide +kernel⟩, List.mem_of_getElem? (i := 1360) (by decide +kernel), List.mem_of_getElem? (i := 1764) (by decide +kernel), List.mem_of_getElem? (i := 1765) (by decide +kernel)⟩
theorem lw_p83 : lw_okq (⟨"HeldCoatsModel", "goesOn", "(I)I"⟩, 49) := ⟨⟨by decide +kernel, by decide +kernel⟩, List.mem_of_getElem? (i := 1360) (by decide +kernel), List.mem_of_getElem? (i := 1772) (by decide +kernel), List.mem_of_getElem? (i := 1773) (by decide +kernel)⟩
theorem lw_p84 : lw_okq (⟨"HeldCoatsModel", "day", "()V"⟩, 49) := ⟨⟨by decide +kernel, by decide +kernel⟩, List.mem_of_getElem? (i := 1360) (by decide +kernel), List.mem_of_getElem? (i := 1776) (by decide +kernel), List.mem_of_getElem? (i := 1777) (by decide +kernel)⟩
theorem lw_p85 : lw_okq (⟨"HeldCoatsModel", "lying", "(I)V"⟩, 49) := ⟨⟨by decide +kernel, by decide +kernel⟩, List.mem_of_getElem? (i := 1360) (by decide +kernel), List.mem_of_getElem? (i := 1780) (by decide +kernel), List.mem_of_getElem? (i := 1781) (by decide +kernel)⟩
theorem lw_p86 : lw_okq (⟨"HeldCoatsModel", "worthOf", "(I)I"⟩, 49) := ⟨⟨by decide +kernel, by decide +kernel⟩, List.mem_of_getElem? (i := 1360) (by decide +kernel), List.mem_of_getElem? (i := 1795) (by decide +kernel), List.mem_of_getElem? (i := 1796) (by decide +kernel)⟩
theorem lw_p87 : lw_okq (⟨"HeldCoatsModel", "harmIn", "(III)I"⟩, 49) := ⟨⟨by decide +kernel, by decide +kernel⟩, List.mem_of_getElem? (i := 1360) (by decide +kernel), List.mem_of_getElem? (i := 1807) (by decide +kernel), List.mem_of_getElem? (i := 1808) (by decide +kernel)⟩
theorem lw_p88 : lw_okq (⟨"HeldCoatsModel", "aheadOf", "(I)I"⟩, 49) := ⟨⟨by decide +kernel, by decide +kernel⟩, List.mem_of_getElem? (i := 1360) (by decide +kernel), List.mem_of_getElem? (i := 1819) (by decide +kernel), List.mem_of_getElem? (i := 1820) (by decide +kernel)⟩
theorem lw_p89 : lw_okq (⟨"HeldCoatsModel", "areTwo", "(II)Z"⟩, 49) := ⟨⟨by decide +kernel, by decide +kernel⟩, List.mem_of_getElem? (i := 1360) (by decide +kernel), List.mem_of_getElem? (i := 1835) (by decide +kernel), List.mem_of_getElem? (i := 1836) (by decide +kernel)⟩
theorem lw_p90 : lw_okq (⟨"HeldCoatsModel", "frostOf", "(II)I"⟩, 49) := ⟨⟨by decide +kernel, by decide +kernel⟩, List.mem_of_getElem? (i := 1360) (by decide +kernel), List.mem_of_getElem? (i := 1839) (by decide +kernel), List.mem_of_getElem? (i := 1840) (by decide +kernel)⟩
theorem lw_p91 : lw_okq (⟨"HeldCoatsModel", "tries", "()V"⟩, 49) := ⟨⟨by decide +kernel, by decide +kernel⟩, List.mem_of_getElem? (i := 1360) (by decide +kernel), List.mem_of_getElem? (i := 1851) (by decide +kernel), List.mem_of_getElem? (i := 1852) (by decide +kernel)⟩
theorem lw_p92 : lw_okq (⟨"HeldCoatsModel", "back", "()V"⟩, 49) := ⟨⟨by decide +kernel, by decide +kernel⟩, List.mem_of_getElem? (i := 1360) (by decide +kernel), List.mem_of_getElem? (i := 1855) (by decide +kernel), List.mem_of_getElem? (i := 1856) (by decide +kernel)⟩
theorem lw_p93 : lw_okq (⟨"HeldCoatsModel", "firstOf", "(I)I"⟩, 49) := ⟨⟨by decide +kernel, by decide +kernel⟩, List.mem_of_getElem? (i := 1360) (by decide +kernel), List.mem_of_getElem? (i := 1863) (by decide +kernel), List.mem_of_getElem? (i := 1864) (by decide +kernel)⟩
theorem lw_p94 : lw_okq (⟨"HeldCoatsModel", "octet", "(I)I"⟩, 49) := ⟨⟨by decide +kernel, by decide +kernel⟩, List.mem_of_getElem? (i := 1360) (by decide +kernel), List.mem_of_getElem? (i := 1879) (by decide +kernel), List.mem_of_getElem? (i := 1880) (by decide +kernel)⟩
theorem lw_p95 : lw_okq (⟨"HeldCoatsModel", "draws", "(II)I"⟩, 49) := ⟨⟨by decide +kernel, by decide +kernel⟩, List.mem_of_getElem? (i := 1360) (by decide +kernel), List.mem_of_getElem? (i := 1903) (by decide +kernel), List.mem_of_getElem? (i := 1904) (by decide +kernel)⟩
def lw_privs_6 : List (MethodName × Nat) := [(⟨"HeldCoatsModel", "unqueues", "(I)V"⟩, 49), (⟨"HeldCoatsModel", "whyLend", "(II)I"⟩, 49), (⟨"HeldCoatsModel", "keeps", "(I)V"⟩, 49), (⟨"HeldCoatsModel", "goesOn", "(I)I"⟩, 49), (⟨"HeldCoatsModel", "day", "()V"⟩, 49), (⟨"HeldCoatsModel", "lying", "(I)V"⟩, 49), (⟨"HeldCoatsModel", "worthOf", "(I)I"⟩, 49), (⟨"HeldCoatsModel", "harmIn", "(III)I"⟩, 49), (⟨"HeldCoatsModel", "aheadOf", "(I)I"⟩, 49), (⟨"HeldCoatsModel", "areTwo", "(II)Z"⟩, 49), (⟨"HeldCoatsModel", "frostOf", "(II)I"⟩, 49), (⟨"HeldCoatsModel", "tries", "()V"⟩, 49), (⟨"HeldCoatsModel", "back", "()V"⟩, 49), (⟨"HeldCoatsModel", "firstOf", "(I)I"⟩, 49), (⟨"HeldCoatsModel", "octet", "(I)I"⟩, 49), (⟨"HeldCoatsModel", "draws", "(II)I"⟩, 49)]
theorem lw_r6 : ∀ q ∈ lw_privs_6, lw_okq q := List.forall_mem_cons.mpr ⟨lw_p80, List.forall_mem_cons.mpr ⟨lw_p81, List.forall_mem_cons.mpr ⟨lw_p82, List.forall_mem_cons.mpr ⟨lw_p83, List.forall_mem_cons.mpr ⟨lw_p84, List.forall_mem_cons.mpr ⟨lw_p85, List.forall_mem_cons.mpr ⟨lw_p86, List.forall_mem_cons.mpr ⟨lw_p87, List.forall_mem_cons.mpr ⟨lw_p88, List.forall_mem_cons.mpr ⟨lw_p89, List.forall_mem_cons.mpr ⟨lw_p90, List.forall_mem_cons.mpr ⟨lw_p91, List.forall_mem_cons.mpr ⟨lw_p92, List.forall_mem_cons.mpr ⟨lw_p93, List.forall_mem_cons.mpr ⟨lw_p94, List.forall_mem_cons.mpr ⟨lw_p95, fun _ h => absurd h List.not_mem_nil⟩⟩⟩⟩⟩⟩⟩⟩⟩⟩⟩⟩⟩⟩⟩⟩
theorem lw_p96 : lw_okq (⟨"HeldCoatsModel", "drawsCoat", "(I)V"⟩, 49) := ⟨⟨by decide +kernel, by decide +kernel⟩, List.mem_of_getElem? (i := 1360) (by decide +kernel), List.mem_of_getElem? (i := 1907) (by decide +kernel), List.mem_of_getElem? (i := 1908) (by decide +kernel)⟩
theorem lw_p97 : lw_okq (⟨"HeldCoatsModel", "draw", "(I)I"⟩, 49) := ⟨⟨by decide +kernel, by decide +kernel⟩, List.mem_of_getElem? (i := 1360) (by decide +kernel), List.mem_of_getElem? (i := 1911) (by decide +kernel), List.mem_of_getElem? (i := 1912) (by decide +kernel)⟩
theorem lw_p98 : lw_okq (⟨"HeldCoatsModel", "bookLine", "()Z"⟩, 49) := ⟨⟨by decide +kernel, by decide +kernel⟩, List.mem_of_getElem? (i := 1360) (by decide +kernel), List.mem_of_getElem? (i := 1924) (by decide +kernel), List.mem_of_getElem? (i := 1925) (by decide +kernel)⟩
theorem lw_p99 : lw_okq (⟨"HeldCoatsModel", "does", "(III)I"⟩, 49) := ⟨⟨by decide +kernel, by decide +kernel⟩, List.mem_of_getElem? (i := 1360) (by decide +kernel), List.mem_of_getElem? (i := 1928) (by decide +kernel), List.mem_of_getElem? (i := 1929) (by decide +kernel)⟩
theorem lw_p100 : lw_okq (⟨"HeldCoatsModel", "nots", "()V"⟩, 49) := ⟨⟨by decide +kernel, by decide +kernel⟩, List.mem_of_getElem? (i := 1360) (by decide +kernel), List.mem_of_getElem? (i := 1940) (by decide +kernel), List.mem_of_getElem? (i := 1941) (by decide +kernel)⟩
theorem lw_p101 : lw_okq (⟨"HeldCoatsModel", "code", "(III)V"⟩, 49) := ⟨⟨by decide +kernel, by decide +kernel⟩, List.mem_of_getElem? (i := 1360) (by decide +kernel), List.mem_of_getElem? (i := 1944) (by decide +kernel), List.mem_of_getElem? (i := 1945) (by decide +kernel)⟩
theorem lw_p102 : lw_okq (⟨"HeldCoatsModel", "joins", "(I)V"⟩, 49) := ⟨⟨by decide +kernel, by decide +kernel⟩, List.mem_of_getElem? (i := 1360) (by decide +kernel), List.mem_of_getElem? (i := 1948) (by decide +kernel), List.mem_of_getElem? (i := 1949) (by decide +kernel)⟩
theorem lw_p103 : lw_okq (⟨"HeldCoatsModel", "behind", "()Z"⟩, 49) := ⟨⟨by decide +kernel, by decide +kernel⟩, List.mem_of_getElem? (i := 1360) (by decide +kernel), List.mem_of_getElem? (i := 1952) (by decide +kernel), List.mem_of_getElem? (i := 1953) (by decide +kernel)⟩
theorem lw_p104 : lw_okq (⟨"HeldCoatsModel", "operand", "()Z"⟩, 49) := ⟨⟨by decide +kernel, by decide +kernel⟩, List.mem_of_getElem? (i := 1360) (by decide +kernel), List.mem_of_getElem? (i := 1956) (by decide +kernel), List.mem_of_getElem? (i := 1957) (by decide +kernel)⟩
theorem lw_p105 : lw_okq (⟨"HeldCoatsModel", "leafOf", "()I"⟩, 49) := ⟨⟨by decide +kernel, by decide +kernel⟩, List.mem_of_getElem? (i := 1360) (by decide +kernel), List.mem_of_getElem? (i := 1960) (by decide +kernel), List.mem_of_getElem? (i := 1961) (by decide +kernel)⟩
theorem lw_p106 : lw_okq (⟨"HeldCoatsModel", "isSaid", "(I)Z"⟩, 49) := ⟨⟨by decide +kernel, by decide +kernel⟩, List.mem_of_getElem? (i := 1360) (by decide +kernel), List.mem_of_getElem? (i := 1968) (by decide +kernel), List.mem_of_getElem? (i := 1969) (by decide +kernel)⟩
theorem lw_p107 : lw_okq (⟨"HeldCoatsModel", "isLeaf", "(IIII)Z"⟩, 49) := ⟨⟨by decide +kernel, by decide +kernel⟩, List.mem_of_getElem? (i := 1360) (by decide +kernel), List.mem_of_getElem? (i := 1972) (by decide +kernel), List.mem_of_getElem? (i := 1973) (by decide +kernel)⟩
def lw_privs_7 : List (MethodName × Nat) := [(⟨"HeldCoatsModel", "drawsCoat", "(I)V"⟩, 49), (⟨"HeldCoatsModel", "draw", "(I)I"⟩, 49), (⟨"HeldCoatsModel", "bookLine", "()Z"⟩, 49), (⟨"HeldCoatsModel", "does", "(III)I"⟩, 49), (⟨"HeldCoatsModel", "nots", "()V"⟩, 49), (⟨"HeldCoatsModel", "code", "(III)V"⟩, 49), (⟨"HeldCoatsModel", "joins", "(I)V"⟩, 49), (⟨"HeldCoatsModel", "behind", "()Z"⟩, 49), (⟨"HeldCoatsModel", "operand", "()Z"⟩, 49), (⟨"HeldCoatsModel", "leafOf", "()I"⟩, 49), (⟨"HeldCoatsModel", "isSaid", "(I)Z"⟩, 49), (⟨"HeldCoatsModel", "isLeaf", "(IIII)Z"⟩, 49)]
theorem lw_r7 : ∀ q ∈ lw_privs_7, lw_okq q := List.forall_mem_cons.mpr ⟨lw_p96, List.forall_mem_cons.mpr ⟨lw_p97, List.forall_mem_cons.mpr ⟨lw_p98, List.forall_mem_cons.mpr ⟨lw_p99, List.forall_mem_cons.mpr ⟨lw_p100, List.forall_mem_cons.mpr ⟨lw_p101, List.forall_mem_cons.mpr ⟨lw_p102, List.forall_mem_cons.mpr ⟨lw_p103, List.forall_mem_cons.mpr ⟨lw_p104, List.forall_mem_cons.mpr ⟨lw_p105, List.forall_mem_cons.mpr ⟨lw_p106, List.forall_mem_cons.mpr ⟨lw_p107, fun _ h => absurd h List.not_mem_nil⟩⟩⟩⟩⟩⟩⟩⟩⟩⟩⟩⟩
def lw_privs : List (MethodName × Nat) := lw_privs_1 ++ (lw_privs_2 ++ (lw_privs_3 ++ (lw_privs_4 ++ (lw_privs_5 ++ (lw_privs_6 ++ (lw_privs_7))))))
def lw_tbl : List Cond := k2_sels lw_privs ++ tables_1
theorem lw_privs_ok : ∀ q ∈ lw_privs, lw_okq q := by
  show ∀ q ∈ lw_privs_1 ++ (lw_privs_2 ++ (lw_privs_3 ++ (lw_privs_4 ++ (lw_privs_5 ++ (lw_privs_6 ++ (lw_privs_7)))))), lw_okq q
  exact List.forall_mem_append.mpr ⟨lw_r1, List.forall_mem_append.mpr ⟨lw_r2, List.forall_mem_append.mpr ⟨lw_r3, List.forall_mem_append.mpr ⟨lw_r4, List.forall_mem_append.mpr ⟨lw_r5, List.forall_mem_append.mpr ⟨lw_r6, lw_r7⟩⟩⟩⟩⟩⟩
-- ===== end of PART A; then your names; then what follows =====
end
section
def RX0 : String := "HeldCoats$Book"
def TX0 : u_T := fun k => match k with
  | 0 => ("HeldCoats$Book", "act", "[I", true)
  | 1 => ("HeldCoats$Book", "first", "[I", true)
  | 2 => ("HeldCoats$Book", "second", "[I", true)
  | 3 => ("HeldCoats$Book", "verdict", "[I", true)
  | _ => ("HeldCoats$Book", "lines", "I", false)
def tyX0 : Nat → FieldType := fun k => match k with
  | 0 => .array .int
  | 1 => .array .int
  | 2 => .array .int
  | 3 => .array .int
  | _ => .int
theorem nmX0 : ∀ a, a < 5 → ∀ b, b < 5 → a ≠ b → (TX0 a).2.1 ≠ (TX0 b).2.1 := by decide +kernel
theorem tyX0_ok : ∀ k, k < 5 → parseFieldDescriptor (TX0 k).2.2.1 = some (tyX0 k) := by decide +kernel
def RX1 : String := "HeldCoats$Counsel"
def TX1 : u_T := fun k => match k with
  | 0 => ("HeldCoats$Counsel", "law", "LHeldCoats$Law;", true)
  | 1 => ("HeldCoats$Counsel", "state", "LHeldCoats$State;", true)
  | 2 => ("HeldCoats$Counsel", "trial", "LHeldCoats$State;", true)
  | 3 => ("HeldCoats$Counsel", "worthOfBest", "[I", true)
  | 4 => ("HeldCoats$Counsel", "hung", "[I", true)
  | 5 => ("HeldCoats$Counsel", "owned", "[I", true)
  | 6 => ("HeldCoats$Counsel", "latestLaid", "I", false)
  | 7 => ("HeldCoats$Counsel", "latestTurns", "I", false)
  | 8 => ("HeldCoats$Counsel", "latestSurely", "I", false)
  | 9 => ("HeldCoats$Counsel", "latestNever", "I", false)
  | 10 => ("HeldCoats$Counsel", "latestPrice", "I", false)
  | 11 => ("HeldCoats$Counsel", "standing", "I", false)
  | 12 => ("HeldCoats$Counsel", "givenInAt", "I", false)
  | _ => ("HeldCoats$Counsel", "seedNow", "I", false)
def tyX1 : Nat → FieldType := fun k => match k with
  | 0 => .object "HeldCoats$Law"
  | 1 => .object "HeldCoats$State"
  | 2 => .object "HeldCoats$State"
  | 3 => .array .int
  | 4 => .array .int
  | 5 => .array .int
  | 6 => .int
  | 7 => .int
  | 8 => .int
  | 9 => .int
  | 10 => .int
  | 11 => .int
  | 12 => .int
  | _ => .int
theorem nmX1 : ∀ a, a < 14 → ∀ b, b < 14 → a ≠ b → (TX1 a).2.1 ≠ (TX1 b).2.1 := by decide +kernel
theorem tyX1_ok : ∀ k, k < 14 → parseFieldDescriptor (TX1 k).2.2.1 = some (tyX1 k) := by decide +kernel
def RX2 : String := "HeldCoats$Image"
def TX2 : u_T := fun k => match k with
  | 0 => ("HeldCoats$Image", "law", "LHeldCoats$Law;", true)
  | 1 => ("HeldCoats$Image", "state", "LHeldCoats$State;", true)
  | 2 => ("HeldCoats$Image", "sentence", "LHeldCoats$Sentence;", true)
  | _ => ("HeldCoats$Image", "taken", "Z", false)
def tyX2 : Nat → FieldType := fun k => match k with
  | 0 => .object "HeldCoats$Law"
  | 1 => .object "HeldCoats$State"
  | 2 => .object "HeldCoats$Sentence"
  | _ => .boolean
theorem nmX2 : ∀ a, a < 4 → ∀ b, b < 4 → a ≠ b → (TX2 a).2.1 ≠ (TX2 b).2.1 := by decide +kernel
theorem tyX2_ok : ∀ k, k < 4 → parseFieldDescriptor (TX2 k).2.2.1 = some (tyX2 k) := by decide +kernel
def RX3 : String := "HeldCoats$Law"
def TX3 : u_T := fun k => match k with
  | 0 => ("HeldCoats$Law", "seats", "I", false)
  | 1 => ("HeldCoats$Law", "men", "I", false)
  | 2 => ("HeldCoats$Law", "coats", "I", false)
  | 3 => ("HeldCoats$Law", "colds", "I", false)
  | 4 => ("HeldCoats$Law", "summer", "I", false)
  | 5 => ("HeldCoats$Law", "holds", "I", false)
  | 6 => ("HeldCoats$Law", "moths", "I", false)
  | 7 => ("HeldCoats$Law", "limit", "I", false)
  | 8 => ("HeldCoats$Law", "worth", "[I", true)
  | 9 => ("HeldCoats$Law", "hardy", "[I", true)
  | 10 => ("HeldCoats$Law", "owner", "[I", true)
  | 11 => ("HeldCoats$Law", "warmth", "[I", true)
  | 12 => ("HeldCoats$Law", "newCloth", "[I", true)
  | 13 => ("HeldCoats$Law", "coldFrom", "[I", true)
  | 14 => ("HeldCoats$Law", "cold", "[I", true)
  | _ => ("HeldCoats$Law", "names", "LHeldCoats$Names;", true)
def tyX3 : Nat → FieldType := fun k => match k with
  | 0 => .int
  | 1 => .int
  | 2 => .int
  | 3 => .int
  | 4 => .int
  | 5 => .int
  | 6 => .int
  | 7 => .int
  | 8 => .array .int
  | 9 => .array .int
  | 10 => .array .int
  | 11 => .array .int
  | 12 => .array .int
  | 13 => .array .int
  | 14 => .array .int
  | _ => .object "HeldCoats$Names"
theorem nmX3 : ∀ a, a < 16 → ∀ b, b < 16 → a ≠ b → (TX3 a).2.1 ≠ (TX3 b).2.1 := by decide +kernel
theorem tyX3_ok : ∀ k, k < 16 → parseFieldDescriptor (TX3 k).2.2.1 = some (tyX3 k) := by decide +kernel
def RX4 : String := "HeldCoats$LawReader"
def TX4 : u_T := fun k => match k with
  | 0 => ("HeldCoats$LawReader", "tape", "LHeldCoats$Tape;", true)
  | 1 => ("HeldCoats$LawReader", "draft", "LHeldCoats$Law;", true)
  | 2 => ("HeldCoats$LawReader", "lines", "I", false)
  | _ => ("HeldCoats$LawReader", "onceTold", "I", false)
def tyX4 : Nat → FieldType := fun k => match k with
  | 0 => .object "HeldCoats$Tape"
  | 1 => .object "HeldCoats$Law"
  | 2 => .int
  | _ => .int
theorem nmX4 : ∀ a, a < 4 → ∀ b, b < 4 → a ≠ b → (TX4 a).2.1 ≠ (TX4 b).2.1 := by decide +kernel
theorem tyX4_ok : ∀ k, k < 4 → parseFieldDescriptor (TX4 k).2.2.1 = some (tyX4 k) := by decide +kernel
def RX5 : String := "HeldCoats$Names"
def TX5 : u_T := fun k => match k with
  | 0 => ("HeldCoats$Names", "spelled", "[J", true)
  | 1 => ("HeldCoats$Names", "sort", "[I", true)
  | 2 => ("HeldCoats$Names", "number", "[I", true)
  | _ => ("HeldCoats$Names", "size", "I", false)
def tyX5 : Nat → FieldType := fun k => match k with
  | 0 => .array .long
  | 1 => .array .int
  | 2 => .array .int
  | _ => .int
theorem nmX5 : ∀ a, a < 4 → ∀ b, b < 4 → a ≠ b → (TX5 a).2.1 ≠ (TX5 b).2.1 := by decide +kernel
theorem tyX5_ok : ∀ k, k < 4 → parseFieldDescriptor (TX5 k).2.2.1 = some (tyX5 k) := by decide +kernel
def RX6 : String := "HeldCoats$Past"
def TX6 : u_T := fun k => match k with
  | 0 => ("HeldCoats$Past", "rows", "[LHeldCoats$State;", true)
  | 1 => ("HeldCoats$Past", "next", "I", false)
  | _ => ("HeldCoats$Past", "size", "I", false)
def tyX6 : Nat → FieldType := fun k => match k with
  | 0 => .array (.object "HeldCoats$State")
  | 1 => .int
  | _ => .int
theorem nmX6 : ∀ a, a < 3 → ∀ b, b < 3 → a ≠ b → (TX6 a).2.1 ≠ (TX6 b).2.1 := by decide +kernel
theorem tyX6_ok : ∀ k, k < 3 → parseFieldDescriptor (TX6 k).2.2.1 = some (tyX6 k) := by decide +kernel
def RX7 : String := "HeldCoats$Sentence"
def TX7 : u_T := fun k => match k with
  | 0 => ("HeldCoats$Sentence", "step", "[I", true)
  | 1 => ("HeldCoats$Sentence", "sign", "[I", true)
  | 2 => ("HeldCoats$Sentence", "number", "[I", true)
  | 3 => ("HeldCoats$Sentence", "heap", "[I", true)
  | 4 => ("HeldCoats$Sentence", "steps", "I", false)
  | _ => ("HeldCoats$Sentence", "ones", "I", false)
def tyX7 : Nat → FieldType := fun k => match k with
  | 0 => .array .int
  | 1 => .array .int
  | 2 => .array .int
  | 3 => .array .int
  | 4 => .int
  | _ => .int
theorem nmX7 : ∀ a, a < 6 → ∀ b, b < 6 → a ≠ b → (TX7 a).2.1 ≠ (TX7 b).2.1 := by decide +kernel
theorem tyX7_ok : ∀ k, k < 6 → parseFieldDescriptor (TX7 k).2.2.1 = some (tyX7 k) := by decide +kernel
def RX8 : String := "HeldCoats$SentenceReader"
def TX8 : u_T := fun k => match k with
  | 0 => ("HeldCoats$SentenceReader", "tape", "LHeldCoats$Tape;", true)
  | 1 => ("HeldCoats$SentenceReader", "draft", "LHeldCoats$Sentence;", true)
  | _ => ("HeldCoats$SentenceReader", "names", "LHeldCoats$Names;", false)
def tyX8 : Nat → FieldType := fun k => match k with
  | 0 => .object "HeldCoats$Tape"
  | 1 => .object "HeldCoats$Sentence"
  | _ => .object "HeldCoats$Names"
theorem nmX8 : ∀ a, a < 3 → ∀ b, b < 3 → a ≠ b → (TX8 a).2.1 ≠ (TX8 b).2.1 := by decide +kernel
theorem tyX8_ok : ∀ k, k < 3 → parseFieldDescriptor (TX8 k).2.2.1 = some (tyX8 k) := by decide +kernel
def RX9 : String := "HeldCoats$State"
def TX9 : u_T := fun k => match k with
  | 0 => ("HeldCoats$State", "law", "LHeldCoats$Law;", true)
  | 1 => ("HeldCoats$State", "day", "I", false)
  | 2 => ("HeldCoats$State", "bareDays", "I", false)
  | 3 => ("HeldCoats$State", "firstBare", "I", false)
  | 4 => ("HeldCoats$State", "queued", "I", false)
  | 5 => ("HeldCoats$State", "where", "[I", true)
  | 6 => ("HeldCoats$State", "cloth", "[I", true)
  | 7 => ("HeldCoats$State", "user", "[I", true)
  | 8 => ("HeldCoats$State", "lain", "[I", true)
  | 9 => ("HeldCoats$State", "line", "[I", true)
  | 10 => ("HeldCoats$State", "harm", "[I", true)
  | 11 => ("HeldCoats$State", "ruled", "[I", true)
  | _ => ("HeldCoats$State", "tally", "[I", true)
def tyX9 : Nat → FieldType := fun k => match k with
  | 0 => .object "HeldCoats$Law"
  | 1 => .int
  | 2 => .int
  | 3 => .int
  | 4 => .int
  | 5 => .array .int
  | 6 => .array .int
  | 7 => .array .int
  | 8 => .array .int
  | 9 => .array .int
  | 10 => .array .int
  | 11 => .array .int
  | _ => .array .int
theorem nmX9 : ∀ a, a < 13 → ∀ b, b < 13 → a ≠ b → (TX9 a).2.1 ≠ (TX9 b).2.1 := by decide +kernel
theorem tyX9_ok : ∀ k, k < 13 → parseFieldDescriptor (TX9 k).2.2.1 = some (tyX9 k) := by decide +kernel
def RX10 : String := "HeldCoats$Tape"
def TX10 : u_T := fun k => match k with
  | 0 => ("HeldCoats$Tape", "bytes", "[I", true)
  | 1 => ("HeldCoats$Tape", "words", "[J", true)
  | 2 => ("HeldCoats$Tape", "size", "I", false)
  | 3 => ("HeldCoats$Tape", "most", "I", false)
  | 4 => ("HeldCoats$Tape", "place", "I", false)
  | 5 => ("HeldCoats$Tape", "behind", "I", false)
  | 6 => ("HeldCoats$Tape", "kind", "I", false)
  | 7 => ("HeldCoats$Tape", "value", "I", false)
  | 8 => ("HeldCoats$Tape", "spelled", "J", false)
  | 9 => ("HeldCoats$Tape", "faultKind", "I", false)
  | _ => ("HeldCoats$Tape", "faultPlace", "I", false)
def tyX10 : Nat → FieldType := fun k => match k with
  | 0 => .array .int
  | 1 => .array .long
  | 2 => .int
  | 3 => .int
  | 4 => .int
  | 5 => .int
  | 6 => .int
  | 7 => .int
  | 8 => .long
  | 9 => .int
  | _ => .int
theorem nmX10 : ∀ a, a < 11 → ∀ b, b < 11 → a ≠ b → (TX10 a).2.1 ≠ (TX10 b).2.1 := by decide +kernel
theorem tyX10_ok : ∀ k, k < 11 → parseFieldDescriptor (TX10 k).2.2.1 = some (tyX10 k) := by decide +kernel
def RX11 : String := "HeldCoats"
def TX11 : u_T := fun k => match k with
  | 0 => ("HeldCoats", "tape", "LHeldCoats$Tape;", true)
  | 1 => ("HeldCoats", "law", "LHeldCoats$Law;", true)
  | 2 => ("HeldCoats", "lawReader", "LHeldCoats$LawReader;", true)
  | 3 => ("HeldCoats", "state", "LHeldCoats$State;", true)
  | 4 => ("HeldCoats", "past", "LHeldCoats$Past;", true)
  | 5 => ("HeldCoats", "sentence", "LHeldCoats$Sentence;", true)
  | 6 => ("HeldCoats", "sentenceReader", "LHeldCoats$SentenceReader;", true)
  | 7 => ("HeldCoats", "script", "LHeldCoats$Book;", true)
  | 8 => ("HeldCoats", "counsel", "LHeldCoats$Counsel;", true)
  | 9 => ("HeldCoats", "images", "[LHeldCoats$Image;", true)
  | _ => ("HeldCoats", "latestFault", "I", false)
def tyX11 : Nat → FieldType := fun k => match k with
  | 0 => .object "HeldCoats$Tape"
  | 1 => .object "HeldCoats$Law"
  | 2 => .object "HeldCoats$LawReader"
  | 3 => .object "HeldCoats$State"
  | 4 => .object "HeldCoats$Past"
  | 5 => .object "HeldCoats$Sentence"
  | 6 => .object "HeldCoats$SentenceReader"
  | 7 => .object "HeldCoats$Book"
  | 8 => .object "HeldCoats$Counsel"
  | 9 => .array (.object "HeldCoats$Image")
  | _ => .int
theorem nmX11 : ∀ a, a < 11 → ∀ b, b < 11 → a ≠ b → (TX11 a).2.1 ≠ (TX11 b).2.1 := by decide +kernel
theorem tyX11_ok : ∀ k, k < 11 → parseFieldDescriptor (TX11 k).2.2.1 = some (tyX11 k) := by decide +kernel
def RX12 : String := "HeldCoatsModel"
def TX12 : u_T := fun k => match k with
  | 0 => ("HeldCoatsModel", "thrown", "I", false)
  | 1 => ("HeldCoatsModel", "tape", "[B", true)
  | 2 => ("HeldCoatsModel", "length", "I", false)
  | 3 => ("HeldCoatsModel", "size", "I", false)
  | 4 => ("HeldCoatsModel", "p", "I", false)
  | 5 => ("HeldCoatsModel", "limit", "I", false)
  | 6 => ("HeldCoatsModel", "s", "[I", true)
  | 7 => ("HeldCoatsModel", "h", "[I", true)
  | 8 => ("HeldCoatsModel", "read", "[I", true)
  | 9 => ("HeldCoatsModel", "names", "[J", true)
  | 10 => ("HeldCoatsModel", "reserved", "[J", true)
  | 11 => ("HeldCoatsModel", "token", "I", false)
  | 12 => ("HeldCoatsModel", "at", "I", false)
  | 13 => ("HeldCoatsModel", "span", "I", false)
  | 14 => ("HeldCoatsModel", "number", "I", false)
  | 15 => ("HeldCoatsModel", "fault", "I", false)
  | 16 => ("HeldCoatsModel", "faultAt", "I", false)
  | 17 => ("HeldCoatsModel", "word", "J", false)
  | 18 => ("HeldCoatsModel", "got", "I", false)
  | 19 => ("HeldCoatsModel", "lines", "I", false)
  | 20 => ("HeldCoatsModel", "onces", "I", false)
  | 21 => ("HeldCoatsModel", "undone", "[I", true)
  | 22 => ("HeldCoatsModel", "before", "[I", true)
  | 23 => ("HeldCoatsModel", "undoMany", "I", false)
  | 24 => ("HeldCoatsModel", "laidSet", "I", false)
  | 25 => ("HeldCoatsModel", "hasLaid", "Z", false)
  | 26 => ("HeldCoatsModel", "turnSet", "I", false)
  | 27 => ("HeldCoatsModel", "hasTurns", "Z", false)
  | 28 => ("HeldCoatsModel", "frostDay", "I", false)
  | 29 => ("HeldCoatsModel", "surelySet", "I", false)
  | 30 => ("HeldCoatsModel", "neverSet", "I", false)
  | 31 => ("HeldCoatsModel", "hasHooks", "Z", false)
  | 32 => ("HeldCoatsModel", "sat", "[I", true)
  | 33 => ("HeldCoatsModel", "priceNow", "I", false)
  | 34 => ("HeldCoatsModel", "hasPrice", "Z", false)
  | 35 => ("HeldCoatsModel", "seed", "I", false)
  | 36 => ("HeldCoatsModel", "toldMany", "I", false)
  | 37 => ("HeldCoatsModel", "toldAt", "[I", true)
  | 38 => ("HeldCoatsModel", "hasTold", "Z", false)
  | 39 => ("HeldCoatsModel", "stack", "[I", true)
  | 40 => ("HeldCoatsModel", "codes", "I", false)
  | 41 => ("HeldCoatsModel", "ones", "I", false)
  | 42 => ("HeldCoatsModel", "top", "I", false)
  | 43 => ("HeldCoatsModel", "deep", "I", false)
  | 44 => ("HeldCoatsModel", "isWhole", "Z", false)
  | 45 => ("HeldCoatsModel", "truths", "[Z", true)
  | 46 => ("HeldCoatsModel", "kept", "[I", true)
  | 47 => ("HeldCoatsModel", "namesKept", "[J", true)
  | _ => ("HeldCoatsModel", "areKept", "[Z", true)
def tyX12 : Nat → FieldType := fun k => match k with
  | 0 => .int
  | 1 => .array .byte
  | 2 => .int
  | 3 => .int
  | 4 => .int
  | 5 => .int
  | 6 => .array .int
  | 7 => .array .int
  | 8 => .array .int
  | 9 => .array .long
  | 10 => .array .long
  | 11 => .int
  | 12 => .int
  | 13 => .int
  | 14 => .int
  | 15 => .int
  | 16 => .int
  | 17 => .long
  | 18 => .int
  | 19 => .int
  | 20 => .int
  | 21 => .array .int
  | 22 => .array .int
  | 23 => .int
  | 24 => .int
  | 25 => .boolean
  | 26 => .int
  | 27 => .boolean
  | 28 => .int
  | 29 => .int
  | 30 => .int
  | 31 => .boolean
  | 32 => .array .int
  | 33 => .int
  | 34 => .boolean
  | 35 => .int
  | 36 => .int
  | 37 => .array .int
  | 38 => .boolean
  | 39 => .array .int
  | 40 => .int
  | 41 => .int
  | 42 => .int
  | 43 => .int
  | 44 => .boolean
  | 45 => .array .boolean
  | 46 => .array .int
  | 47 => .array .long
  | _ => .array .boolean
theorem nmX12 : ∀ a, a < 49 → ∀ b, b < 49 → a ≠ b → (TX12 a).2.1 ≠ (TX12 b).2.1 := by decide +kernel
theorem tyX12_ok : ∀ k, k < 49 → parseFieldDescriptor (TX12 k).2.2.1 = some (tyX12 k) := by decide +kernel
abbrev vwCl : List vw_C := [(RX0, TX0, 5), (RX1, TX1, 14), (RX2, TX2, 4), (RX3, TX3, 16), (RX4, TX4, 4), (RX5, TX5, 4), (RX6, TX6, 3), (RX7, TX7, 6), (RX8, TX8, 3), (RX9, TX9, 13), (RX10, TX10, 11), (RX11, TX11, 11), (RX12, TX12, 49)]
def zTF (ci k : Nat) : FieldType := match ci with
  | 0 => tyX0 k
  | 1 => tyX1 k
  | 2 => tyX2 k
  | 3 => tyX3 k
  | 4 => tyX4 k
  | 5 => tyX5 k
  | 6 => tyX6 k
  | 7 => tyX7 k
  | 8 => tyX8 k
  | 9 => tyX9 k
  | 10 => tyX10 k
  | 11 => tyX11 k
  | _ => tyX12 k
def zDF (ci : Nat) : List zV := match ci with
  | 0 => [.inr (.inl none), .inr (.inl none), .inr (.inl none), .inr (.inl none), .inl (.inl (some 0))]
  | 1 => [.inr (.inl none), .inr (.inl none), .inr (.inl none), .inr (.inl none), .inr (.inl none), .inr (.inl none), .inl (.inl (some 0)), .inl (.inl (some 0)), .inl (.inl (some 0)), .inl (.inl (some 0)), .inl (.inl (some 0)), .inl (.inl (some 0)), .inl (.inl (some 0)), .inl (.inl (some 0))]
  | 2 => [.inr (.inl none), .inr (.inl none), .inr (.inl none), .inl (.inl (some 0))]
  | 3 => [.inl (.inl (some 0)), .inl (.inl (some 0)), .inl (.inl (some 0)), .inl (.inl (some 0)), .inl (.inl (some 0)), .inl (.inl (some 0)), .inl (.inl (some 0)), .inl (.inl (some 0)), .inr (.inl none), .inr (.inl none), .inr (.inl none), .inr (.inl none), .inr (.inl none), .inr (.inl none), .inr (.inl none), .inr (.inl none)]
  | 4 => [.inr (.inl none), .inr (.inl none), .inl (.inl (some 0)), .inl (.inl (some 0))]
  | 5 => [.inr (.inl none), .inr (.inl none), .inr (.inl none), .inl (.inl (some 0))]
  | 6 => [.inr (.inl none), .inl (.inl (some 0)), .inl (.inl (some 0))]
  | 7 => [.inr (.inl none), .inr (.inl none), .inr (.inl none), .inr (.inl none), .inl (.inl (some 0)), .inl (.inl (some 0))]
  | 8 => [.inr (.inl none), .inr (.inl none), .inr (.inl none)]
  | 9 => [.inr (.inl none), .inl (.inl (some 0)), .inl (.inl (some 0)), .inl (.inl (some 0)), .inl (.inl (some 0)), .inr (.inl none), .inr (.inl none), .inr (.inl none), .inr (.inl none), .inr (.inl none), .inr (.inl none), .inr (.inl none), .inr (.inl none)]
  | 10 => [.inr (.inl none), .inr (.inl none), .inl (.inl (some 0)), .inl (.inl (some 0)), .inl (.inl (some 0)), .inl (.inl (some 0)), .inl (.inl (some 0)), .inl (.inl (some 0)), .inr (.inr ()), .inl (.inl (some 0)), .inl (.inl (some 0))]
  | 11 => [.inr (.inl none), .inr (.inl none), .inr (.inl none), .inr (.inl none), .inr (.inl none), .inr (.inl none), .inr (.inl none), .inr (.inl none), .inr (.inl none), .inr (.inl none), .inl (.inl (some 0))]
  | _ => [.inl (.inl (some 0)), .inr (.inl none), .inl (.inl (some 0)), .inl (.inl (some 0)), .inl (.inl (some 0)), .inl (.inl (some 0)), .inr (.inl none), .inr (.inl none), .inr (.inl none), .inr (.inl none), .inr (.inl none), .inl (.inl (some 0)), .inl (.inl (some 0)), .inl (.inl (some 0)), .inl (.inl (some 0)), .inl (.inl (some 0)), .inl (.inl (some 0)), .inr (.inr ()), .inl (.inl (some 0)), .inl (.inl (some 0)), .inl (.inl (some 0)), .inr (.inl none), .inr (.inl none), .inl (.inl (some 0)), .inl (.inl (some 0)), .inl (.inl (some 0)), .inl (.inl (some 0)), .inl (.inl (some 0)), .inl (.inl (some 0)), .inl (.inl (some 0)), .inl (.inl (some 0)), .inl (.inl (some 0)), .inr (.inl none), .inl (.inl (some 0)), .inl (.inl (some 0)), .inl (.inl (some 0)), .inl (.inl (some 0)), .inr (.inl none), .inl (.inl (some 0)), .inr (.inl none), .inl (.inl (some 0)), .inl (.inl (some 0)), .inl (.inl (some 0)), .inl (.inl (some 0)), .inl (.inl (some 0)), .inr (.inl none), .inr (.inl none), .inr (.inl none), .inr (.inl none)]
theorem zD_0 : (zDF 0).all z_dok = true := by decide +kernel
theorem zDD_0 : ∀ j, j < 5 → defaultValue (zTF 0 j) = vp_V ((zDF 0).map z_dv) j := by decide +kernel
theorem zD_1 : (zDF 1).all z_dok = true := by decide +kernel
theorem zDD_1 : ∀ j, j < 14 → defaultValue (zTF 1 j) = vp_V ((zDF 1).map z_dv) j := by decide +kernel
theorem zD_2 : (zDF 2).all z_dok = true := by decide +kernel
theorem zDD_2 : ∀ j, j < 4 → defaultValue (zTF 2 j) = vp_V ((zDF 2).map z_dv) j := by decide +kernel
theorem zD_3 : (zDF 3).all z_dok = true := by decide +kernel
theorem zDD_3 : ∀ j, j < 16 → defaultValue (zTF 3 j) = vp_V ((zDF 3).map z_dv) j := by decide +kernel
theorem zD_4 : (zDF 4).all z_dok = true := by decide +kernel
theorem zDD_4 : ∀ j, j < 4 → defaultValue (zTF 4 j) = vp_V ((zDF 4).map z_dv) j := by decide +kernel
theorem zD_5 : (zDF 5).all z_dok = true := by decide +kernel
theorem zDD_5 : ∀ j, j < 4 → defaultValue (zTF 5 j) = vp_V ((zDF 5).map z_dv) j := by decide +kernel
theorem zD_6 : (zDF 6).all z_dok = true := by decide +kernel
theorem zDD_6 : ∀ j, j < 3 → defaultValue (zTF 6 j) = vp_V ((zDF 6).map z_dv) j := by decide +kernel
theorem zD_7 : (zDF 7).all z_dok = true := by decide +kernel
theorem zDD_7 : ∀ j, j < 6 → defaultValue (zTF 7 j) = vp_V ((zDF 7).map z_dv) j := by decide +kernel
theorem zD_8 : (zDF 8).all z_dok = true := by decide +kernel
theorem zDD_8 : ∀ j, j < 3 → defaultValue (zTF 8 j) = vp_V ((zDF 8).map z_dv) j := by decide +kernel
theorem zD_9 : (zDF 9).all z_dok = true := by decide +kernel
theorem zDD_9 : ∀ j, j < 13 → defaultValue (zTF 9 j) = vp_V ((zDF 9).map z_dv) j := by decide +kernel
theorem zD_10 : (zDF 10).all z_dok = true := by decide +kernel
theorem zDD_10 : ∀ j, j < 11 → defaultValue (zTF 10 j) = vp_V ((zDF 10).map z_dv) j := by decide +kernel
theorem zD_11 : (zDF 11).all z_dok = true := by decide +kernel
theorem zDD_11 : ∀ j, j < 11 → defaultValue (zTF 11 j) = vp_V ((zDF 11).map z_dv) j := by decide +kernel
theorem zD_12 : (zDF 12).all z_dok = true := by decide +kernel
theorem zDD_12 : ∀ j, j < 49 → defaultValue (zTF 12 j) = vp_V ((zDF 12).map z_dv) j := by decide +kernel
end
section
def zTB : List Cond := lw_tbl.filter goodWord
theorem zTB_good : ∀ w ∈ zTB, goodWord w = true := fun _ h => (List.mem_filter.mp h).2
theorem z_mem {w : Cond} {t : List Cond} (ht : ∀ w ∈ t, w ∈ tables_1) (i : Nat) (h : t[i]? = some w) (hg : goodWord w = true) : w ∈ zTB := List.mem_filter.mpr ⟨List.mem_append_right _ (ht _ (List.mem_of_getElem? h)), hg⟩
theorem z_memS {y : MethodName} {n : Nat} (i : Nat) (h : lw_privs[i]? = some (y, n)) (hg : goodWord (Cond.selects y.cls y y) = true) : Cond.selects y.cls y y ∈ zTB := List.mem_filter.mpr ⟨List.mem_append_left _ (List.mem_map.mpr ⟨(y, n), List.mem_of_getElem? h, rfl⟩), hg⟩
theorem zc_1 : ∀ w ∈ tables_1_1, w ∈ tables_1 := fun w h => List.mem_append_left _ h
theorem zc_2 : ∀ w ∈ tables_1_2, w ∈ tables_1 := fun w h => List.mem_append_right _ (List.mem_append_left _ h)
theorem zc_3 : ∀ w ∈ tables_1_3, w ∈ tables_1 := fun w h => List.mem_append_right _ (List.mem_append_right _ (List.mem_append_left _ h))
theorem zc_4 : ∀ w ∈ tables_1_4, w ∈ tables_1 := fun w h => List.mem_append_right _ (List.mem_append_right _ (List.mem_append_right _ (List.mem_append_left _ h)))
theorem zc_5 : ∀ w ∈ tables_1_5, w ∈ tables_1 := fun w h => List.mem_append_right _ (List.mem_append_right _ (List.mem_append_right _ (List.mem_append_right _ (List.mem_append_left _ h))))
theorem zc_6 : ∀ w ∈ tables_1_6, w ∈ tables_1 := fun w h => List.mem_append_right _ (List.mem_append_right _ (List.mem_append_right _ (List.mem_append_right _ (List.mem_append_right _ (List.mem_append_left _ h)))))
theorem zc_7 : ∀ w ∈ tables_1_7, w ∈ tables_1 := fun w h => List.mem_append_right _ (List.mem_append_right _ (List.mem_append_right _ (List.mem_append_right _ (List.mem_append_right _ (List.mem_append_right _ (List.mem_append_left _ h))))))
theorem zc_8 : ∀ w ∈ tables_1_8, w ∈ tables_1 := fun w h => List.mem_append_right _ (List.mem_append_right _ (List.mem_append_right _ (List.mem_append_right _ (List.mem_append_right _ (List.mem_append_right _ (List.mem_append_right _ (List.mem_append_left _ h)))))))
theorem zc_9 : ∀ w ∈ tables_1_9, w ∈ tables_1 := fun w h => List.mem_append_right _ (List.mem_append_right _ (List.mem_append_right _ (List.mem_append_right _ (List.mem_append_right _ (List.mem_append_right _ (List.mem_append_right _ (List.mem_append_right _ (h))))))))
theorem zw_1 : (.initialized "HeldCoats" : Cond) ∈ zTB := z_mem zc_1 1 rfl rfl
theorem zw_2 : (.initialized "HeldCoats$Tape" : Cond) ∈ zTB := z_mem zc_1 2 rfl rfl
theorem zw_7 : (.initialized "HeldCoats$Law" : Cond) ∈ zTB := z_mem zc_1 7 rfl rfl
theorem zw_8 : (.initialized "HeldCoats$Names" : Cond) ∈ zTB := z_mem zc_1 8 rfl rfl
theorem zw_9 : (.initialized "HeldCoats$LawReader" : Cond) ∈ zTB := z_mem zc_1 9 rfl rfl
theorem zw_10 : (.initialized "HeldCoats$State" : Cond) ∈ zTB := z_mem zc_1 10 rfl rfl
theorem zw_11 : (.initialized "HeldCoats$Past" : Cond) ∈ zTB := z_mem zc_1 11 rfl rfl
theorem zw_12 : (.initialized "HeldCoats$Sentence" : Cond) ∈ zTB := z_mem zc_1 12 rfl rfl
theorem zw_13 : (.initialized "HeldCoats$SentenceReader" : Cond) ∈ zTB := z_mem zc_1 13 rfl rfl
theorem zw_14 : (.initialized "HeldCoats$Book" : Cond) ∈ zTB := z_mem zc_1 14 rfl rfl
theorem zw_15 : (.initialized "HeldCoats$Counsel" : Cond) ∈ zTB := z_mem zc_1 15 rfl rfl
theorem zw_16 : (.initialized "HeldCoats$Image" : Cond) ∈ zTB := z_mem zc_1 16 rfl rfl
theorem zw_17 : (.initialized "HeldCoatsModel" : Cond) ∈ zTB := z_mem zc_1 17 rfl rfl
theorem zw_18 : (.initialized "java/lang/System" : Cond) ∈ zTB := z_mem zc_1 18 rfl rfl
theorem zw_19 : (.initialized "java/util/Arrays" : Cond) ∈ zTB := z_mem zc_1 19 rfl rfl
theorem zw_24 : (.initialized "java/lang/Math" : Cond) ∈ zTB := z_mem zc_1 24 rfl rfl
theorem zw_26 : (.classLink "HeldCoatsLaw" 8 "HeldCoats" : Cond) ∈ zTB := z_mem zc_1 26 rfl rfl
theorem zw_27 : (.instantiable "HeldCoats" 11 : Cond) ∈ zTB := z_mem zc_1 27 rfl rfl
theorem zw_30 : (.code ⟨"HeldCoats", "<init>", "()V"⟩ prog_1_method_1_code 2 none : Cond) ∈ zTB := z_mem zc_1 30 rfl rfl
theorem zw_31 : (.methodLink "HeldCoats" 1 ⟨"java/lang/Object", "<init>", "()V"⟩ : Cond) ∈ zTB := z_mem zc_1 31 rfl rfl
theorem zw_32 : (.instanceMethod ⟨"java/lang/Object", "<init>", "()V"⟩ : Cond) ∈ zTB := z_mem zc_1 32 rfl rfl
theorem zw_33 : (.code Lib.objectInit ⟨#[0xb1]⟩ 1 none : Cond) ∈ zTB := z_mem zc_1 33 rfl rfl
theorem zw_34 : (.classLink "HeldCoats" 7 "HeldCoats$Tape" : Cond) ∈ zTB := z_mem zc_1 34 rfl rfl
theorem zw_35 : (.instantiable "HeldCoats$Tape" 11 : Cond) ∈ zTB := z_mem zc_1 35 rfl rfl
theorem zw_90 : (.fieldLink "HeldCoats$Tape" 9 "HeldCoats$Tape" "bytes" "[I" : Cond) ∈ zTB := z_mem zc_1 90 rfl rfl
theorem zw_93 : (.fieldLink "HeldCoats" 85 "HeldCoats$Tape" "size" "I" : Cond) ∈ zTB := z_mem zc_1 93 rfl rfl
theorem zw_94 : (.fieldLink "HeldCoats$Tape" 33 "HeldCoats$Tape" "size" "I" : Cond) ∈ zTB := z_mem zc_1 94 rfl rfl
theorem zw_96 : (.fieldLink "HeldCoats$Tape" 37 "HeldCoats$Tape" "most" "I" : Cond) ∈ zTB := z_mem zc_1 96 rfl rfl
theorem zw_97 : (.fieldLink "HeldCoats$Tape" 56 "HeldCoats$Tape" "place" "I" : Cond) ∈ zTB := z_mem zc_1 97 rfl rfl
theorem zw_98 : (.fieldLink "HeldCoats$Tape" 40 "HeldCoats$Tape" "behind" "I" : Cond) ∈ zTB := z_mem zc_1 98 rfl rfl
theorem zw_99 : (.fieldLink "HeldCoats$Book" 34 "HeldCoats$Tape" "kind" "I" : Cond) ∈ zTB := z_mem zc_1 99 rfl rfl
theorem zw_100 : (.fieldLink "HeldCoats$LawReader" 38 "HeldCoats$Tape" "kind" "I" : Cond) ∈ zTB := z_mem zc_1 100 rfl rfl
theorem zw_101 : (.fieldLink "HeldCoats$Tape" 69 "HeldCoats$Tape" "kind" "I" : Cond) ∈ zTB := z_mem zc_1 101 rfl rfl
theorem zw_102 : (.fieldLink "HeldCoats$SentenceReader" 62 "HeldCoats$Tape" "kind" "I" : Cond) ∈ zTB := z_mem zc_1 102 rfl rfl
theorem zw_109 : (.fieldLink "HeldCoats$Tape" 43 "HeldCoats$Tape" "faultKind" "I" : Cond) ∈ zTB := z_mem zc_1 109 rfl rfl
theorem zw_111 : (.fieldLink "HeldCoats" 396 "HeldCoats$Tape" "faultKind" "I" : Cond) ∈ zTB := z_mem zc_1 111 rfl rfl
theorem zw_112 : (.fieldLink "HeldCoats$Tape" 46 "HeldCoats$Tape" "faultPlace" "I" : Cond) ∈ zTB := z_mem zc_1 112 rfl rfl
theorem zw_113 : (.fieldLink "HeldCoats" 100 "HeldCoats$Tape" "faultPlace" "I" : Cond) ∈ zTB := z_mem zc_1 113 rfl rfl
theorem zw_114 : (.laysFinal "HeldCoats$Tape" "HeldCoats$Tape" "bytes" "[I" : Cond) ∈ zTB := z_mem zc_1 114 rfl rfl
theorem zw_116 : (.laysFinal "HeldCoats$Tape" "HeldCoats$Tape" "words" "[J" : Cond) ∈ zTB := z_mem zc_1 116 rfl rfl
theorem zw_118 : (.lays "HeldCoats$Tape" "HeldCoats$Tape" "size" "I" : Cond) ∈ zTB := z_mem zc_1 118 rfl rfl
theorem zw_120 : (.lays "HeldCoats$Tape" "HeldCoats$Tape" "most" "I" : Cond) ∈ zTB := z_mem zc_1 120 rfl rfl
theorem zw_122 : (.lays "HeldCoats$Tape" "HeldCoats$Tape" "place" "I" : Cond) ∈ zTB := z_mem zc_1 122 rfl rfl
theorem zw_124 : (.lays "HeldCoats$Tape" "HeldCoats$Tape" "behind" "I" : Cond) ∈ zTB := z_mem zc_1 124 rfl rfl
theorem zw_126 : (.lays "HeldCoats$Tape" "HeldCoats$Tape" "kind" "I" : Cond) ∈ zTB := z_mem zc_1 126 rfl rfl
theorem zw_128 : (.lays "HeldCoats$Tape" "HeldCoats$Tape" "value" "I" : Cond) ∈ zTB := z_mem zc_1 128 rfl rfl
theorem zw_130 : (.lays "HeldCoats$Tape" "HeldCoats$Tape" "spelled" "J" : Cond) ∈ zTB := z_mem zc_1 130 rfl rfl
theorem zw_132 : (.lays "HeldCoats$Tape" "HeldCoats$Tape" "faultKind" "I" : Cond) ∈ zTB := z_mem zc_1 132 rfl rfl
theorem zw_134 : (.lays "HeldCoats$Tape" "HeldCoats$Tape" "faultPlace" "I" : Cond) ∈ zTB := z_mem zc_1 134 rfl rfl
theorem zw_137 : (.arrayClass .int : Cond) ∈ zTB := z_mem zc_1 137 rfl rfl
theorem zw_138 : (.arrayClass .long : Cond) ∈ zTB := z_mem zc_1 138 rfl rfl
theorem zw_139 : (.arrayClass .byte : Cond) ∈ zTB := z_mem zc_1 139 rfl rfl
theorem zw_140 : (.classLink "HeldCoats" 16 "HeldCoats$Law" : Cond) ∈ zTB := z_mem zc_1 140 rfl rfl
theorem zw_141 : (.instantiable "HeldCoats$Law" 16 : Cond) ∈ zTB := z_mem zc_1 141 rfl rfl
theorem zw_142 : (.methodLink "HeldCoats" 18 ⟨"HeldCoats$Law", "<init>", "()V"⟩ : Cond) ∈ zTB := z_mem zc_1 142 rfl rfl
theorem zw_143 : (.instanceMethod ⟨"HeldCoats$Law", "<init>", "()V"⟩ : Cond) ∈ zTB := z_mem zc_1 143 rfl rfl
theorem zw_144 : (.code ⟨"HeldCoats$Law", "<init>", "()V"⟩ prog_5_method_1_code 1 none : Cond) ∈ zTB := z_mem zc_1 144 rfl rfl
theorem zw_145 : (.methodLink "HeldCoats$Law" 3 ⟨"java/lang/Object", "<init>", "()V"⟩ : Cond) ∈ zTB := z_mem zc_1 145 rfl rfl
theorem zw_146 : (.classLink "HeldCoats$Law" 33 "HeldCoats$Names" : Cond) ∈ zTB := z_mem zc_1 146 rfl rfl
theorem zw_147 : (.instantiable "HeldCoats$Names" 4 : Cond) ∈ zTB := z_mem zc_1 147 rfl rfl
theorem zw_149 : (.instanceMethod ⟨"HeldCoats$Names", "<init>", "()V"⟩ : Cond) ∈ zTB := z_mem zc_1 149 rfl rfl
theorem zw_150 : (.code ⟨"HeldCoats$Names", "<init>", "()V"⟩ prog_7_method_1_code 1 none : Cond) ∈ zTB := z_mem zc_1 150 rfl rfl
theorem zw_151 : (.methodLink "HeldCoats$Names" 3 ⟨"java/lang/Object", "<init>", "()V"⟩ : Cond) ∈ zTB := z_mem zc_1 151 rfl rfl
theorem zw_152 : (.fieldLink "HeldCoats$Names" 9 "HeldCoats$Names" "spelled" "[J" : Cond) ∈ zTB := z_mem zc_1 152 rfl rfl
theorem zw_153 : (.fieldLink "HeldCoats$Names" 15 "HeldCoats$Names" "sort" "[I" : Cond) ∈ zTB := z_mem zc_1 153 rfl rfl
theorem zw_154 : (.fieldLink "HeldCoats$Names" 19 "HeldCoats$Names" "number" "[I" : Cond) ∈ zTB := z_mem zc_1 154 rfl rfl
theorem zw_155 : (.fieldLink "HeldCoats$Names" 22 "HeldCoats$Names" "size" "I" : Cond) ∈ zTB := z_mem zc_1 155 rfl rfl
theorem zw_156 : (.laysFinal "HeldCoats$Names" "HeldCoats$Names" "spelled" "[J" : Cond) ∈ zTB := z_mem zc_1 156 rfl rfl
theorem zw_158 : (.laysFinal "HeldCoats$Names" "HeldCoats$Names" "sort" "[I" : Cond) ∈ zTB := z_mem zc_1 158 rfl rfl
theorem zw_160 : (.laysFinal "HeldCoats$Names" "HeldCoats$Names" "number" "[I" : Cond) ∈ zTB := z_mem zc_1 160 rfl rfl
theorem zw_162 : (.lays "HeldCoats$Names" "HeldCoats$Names" "size" "I" : Cond) ∈ zTB := z_mem zc_1 162 rfl rfl
theorem zw_165 : (.methodLink "HeldCoats$Law" 40 ⟨"HeldCoats$Law", "clear", "()V"⟩ : Cond) ∈ zTB := z_mem zc_1 165 rfl rfl
theorem zw_166 : (.instanceMethod ⟨"HeldCoats$Law", "clear", "()V"⟩ : Cond) ∈ zTB := z_mem zc_1 166 rfl rfl
theorem zw_167 : (.selects "HeldCoats$Law" ⟨"HeldCoats$Law", "clear", "()V"⟩ ⟨"HeldCoats$Law", "clear", "()V"⟩ : Cond) ∈ zTB := z_mem zc_1 167 rfl rfl
theorem zw_168 : (.code ⟨"HeldCoats$Law", "clear", "()V"⟩ prog_5_method_2_code 1 none : Cond) ∈ zTB := z_mem zc_1 168 rfl rfl
theorem zw_169 : (.methodLink "HeldCoats$Law" 68 ⟨"HeldCoats$Names", "clear", "()V"⟩ : Cond) ∈ zTB := z_mem zc_1 169 rfl rfl
theorem zw_170 : (.instanceMethod ⟨"HeldCoats$Names", "clear", "()V"⟩ : Cond) ∈ zTB := z_mem zc_1 170 rfl rfl
theorem zw_171 : (.selects "HeldCoats$Names" ⟨"HeldCoats$Names", "clear", "()V"⟩ ⟨"HeldCoats$Names", "clear", "()V"⟩ : Cond) ∈ zTB := z_mem zc_1 171 rfl rfl
theorem zw_172 : (.code ⟨"HeldCoats$Names", "clear", "()V"⟩ prog_7_method_2_code 1 none : Cond) ∈ zTB := z_mem zc_1 172 rfl rfl
theorem zw_173 : (.fieldLink "HeldCoats$Law" 43 "HeldCoats$Law" "seats" "I" : Cond) ∈ zTB := z_mem zc_1 173 rfl rfl
theorem zw_175 : (.fieldLink "HeldCoats$Counsel" 91 "HeldCoats$Law" "seats" "I" : Cond) ∈ zTB := z_mem zc_1 175 rfl rfl
theorem zw_178 : (.fieldLink "HeldCoats" 378 "HeldCoats$Law" "seats" "I" : Cond) ∈ zTB := z_mem zc_1 178 rfl rfl
theorem zw_179 : (.fieldLink "HeldCoats$Law" 47 "HeldCoats$Law" "men" "I" : Cond) ∈ zTB := z_mem zc_1 179 rfl rfl
theorem zw_180 : (.fieldLink "HeldCoats$State" 76 "HeldCoats$Law" "men" "I" : Cond) ∈ zTB := z_mem zc_1 180 rfl rfl
theorem zw_182 : (.fieldLink "HeldCoats$Counsel" 148 "HeldCoats$Law" "men" "I" : Cond) ∈ zTB := z_mem zc_1 182 rfl rfl
theorem zw_183 : (.fieldLink "HeldCoats" 381 "HeldCoats$Law" "men" "I" : Cond) ∈ zTB := z_mem zc_1 183 rfl rfl
theorem zw_184 : (.fieldLink "HeldCoats$Law" 50 "HeldCoats$Law" "coats" "I" : Cond) ∈ zTB := z_mem zc_1 184 rfl rfl
theorem zw_185 : (.fieldLink "HeldCoats$State" 53 "HeldCoats$Law" "coats" "I" : Cond) ∈ zTB := z_mem zc_1 185 rfl rfl
theorem zw_188 : (.fieldLink "HeldCoats" 307 "HeldCoats$Law" "coats" "I" : Cond) ∈ zTB := z_mem zc_1 188 rfl rfl
theorem zw_189 : (.fieldLink "HeldCoats$Law" 53 "HeldCoats$Law" "colds" "I" : Cond) ∈ zTB := z_mem zc_1 189 rfl rfl
theorem zw_191 : (.fieldLink "HeldCoats$Law" 56 "HeldCoats$Law" "summer" "I" : Cond) ∈ zTB := z_mem zc_1 191 rfl rfl
theorem zw_193 : (.fieldLink "HeldCoats" 384 "HeldCoats$Law" "summer" "I" : Cond) ∈ zTB := z_mem zc_1 193 rfl rfl
theorem zw_194 : (.fieldLink "HeldCoats$Law" 59 "HeldCoats$Law" "holds" "I" : Cond) ∈ zTB := z_mem zc_1 194 rfl rfl
theorem zw_197 : (.fieldLink "HeldCoats" 387 "HeldCoats$Law" "holds" "I" : Cond) ∈ zTB := z_mem zc_1 197 rfl rfl
theorem zw_198 : (.fieldLink "HeldCoats$Law" 62 "HeldCoats$Law" "moths" "I" : Cond) ∈ zTB := z_mem zc_1 198 rfl rfl
theorem zw_201 : (.fieldLink "HeldCoats" 390 "HeldCoats$Law" "moths" "I" : Cond) ∈ zTB := z_mem zc_1 201 rfl rfl
theorem zw_202 : (.fieldLink "HeldCoats$Law" 65 "HeldCoats$Law" "limit" "I" : Cond) ∈ zTB := z_mem zc_1 202 rfl rfl
theorem zw_205 : (.fieldLink "HeldCoats" 393 "HeldCoats$Law" "limit" "I" : Cond) ∈ zTB := z_mem zc_1 205 rfl rfl
theorem zw_206 : (.fieldLink "HeldCoats$Law" 9 "HeldCoats$Law" "worth" "[I" : Cond) ∈ zTB := z_mem zc_1 206 rfl rfl
theorem zw_212 : (.fieldLink "HeldCoats$Law" 15 "HeldCoats$Law" "hardy" "[I" : Cond) ∈ zTB := z_mem zc_1 212 rfl rfl
theorem zw_217 : (.fieldLink "HeldCoats$Law" 18 "HeldCoats$Law" "owner" "[I" : Cond) ∈ zTB := z_mem zc_1 217 rfl rfl
theorem zw_222 : (.fieldLink "HeldCoats$Law" 21 "HeldCoats$Law" "warmth" "[I" : Cond) ∈ zTB := z_mem zc_1 222 rfl rfl
theorem zw_227 : (.fieldLink "HeldCoats$Law" 24 "HeldCoats$Law" "newCloth" "[I" : Cond) ∈ zTB := z_mem zc_1 227 rfl rfl
theorem zw_230 : (.fieldLink "HeldCoats$Law" 27 "HeldCoats$Law" "coldFrom" "[I" : Cond) ∈ zTB := z_mem zc_1 230 rfl rfl
theorem zw_232 : (.fieldLink "HeldCoats$Law" 30 "HeldCoats$Law" "cold" "[I" : Cond) ∈ zTB := z_mem zc_1 232 rfl rfl
theorem zw_234 : (.fieldLink "HeldCoats$Law" 36 "HeldCoats$Law" "names" "LHeldCoats$Names;" : Cond) ∈ zTB := z_mem zc_1 234 rfl rfl
theorem zw_236 : (.fieldLink "HeldCoats" 317 "HeldCoats$Law" "names" "LHeldCoats$Names;" : Cond) ∈ zTB := z_mem zc_1 236 rfl rfl
theorem zw_237 : (.lays "HeldCoats$Law" "HeldCoats$Law" "seats" "I" : Cond) ∈ zTB := z_mem zc_1 237 rfl rfl
theorem zw_239 : (.lays "HeldCoats$Law" "HeldCoats$Law" "men" "I" : Cond) ∈ zTB := z_mem zc_1 239 rfl rfl
theorem zw_241 : (.lays "HeldCoats$Law" "HeldCoats$Law" "coats" "I" : Cond) ∈ zTB := z_mem zc_2 1 rfl rfl
theorem zw_243 : (.lays "HeldCoats$Law" "HeldCoats$Law" "colds" "I" : Cond) ∈ zTB := z_mem zc_2 3 rfl rfl
theorem zw_245 : (.lays "HeldCoats$Law" "HeldCoats$Law" "summer" "I" : Cond) ∈ zTB := z_mem zc_2 5 rfl rfl
theorem zw_247 : (.lays "HeldCoats$Law" "HeldCoats$Law" "holds" "I" : Cond) ∈ zTB := z_mem zc_2 7 rfl rfl
theorem zw_249 : (.lays "HeldCoats$Law" "HeldCoats$Law" "moths" "I" : Cond) ∈ zTB := z_mem zc_2 9 rfl rfl
theorem zw_251 : (.lays "HeldCoats$Law" "HeldCoats$Law" "limit" "I" : Cond) ∈ zTB := z_mem zc_2 11 rfl rfl
theorem zw_253 : (.laysFinal "HeldCoats$Law" "HeldCoats$Law" "worth" "[I" : Cond) ∈ zTB := z_mem zc_2 13 rfl rfl
theorem zw_255 : (.laysFinal "HeldCoats$Law" "HeldCoats$Law" "hardy" "[I" : Cond) ∈ zTB := z_mem zc_2 15 rfl rfl
theorem zw_257 : (.laysFinal "HeldCoats$Law" "HeldCoats$Law" "owner" "[I" : Cond) ∈ zTB := z_mem zc_2 17 rfl rfl
theorem zw_259 : (.laysFinal "HeldCoats$Law" "HeldCoats$Law" "warmth" "[I" : Cond) ∈ zTB := z_mem zc_2 19 rfl rfl
theorem zw_261 : (.laysFinal "HeldCoats$Law" "HeldCoats$Law" "newCloth" "[I" : Cond) ∈ zTB := z_mem zc_2 21 rfl rfl
theorem zw_263 : (.laysFinal "HeldCoats$Law" "HeldCoats$Law" "coldFrom" "[I" : Cond) ∈ zTB := z_mem zc_2 23 rfl rfl
theorem zw_265 : (.laysFinal "HeldCoats$Law" "HeldCoats$Law" "cold" "[I" : Cond) ∈ zTB := z_mem zc_2 25 rfl rfl
theorem zw_267 : (.laysFinal "HeldCoats$Law" "HeldCoats$Law" "names" "LHeldCoats$Names;" : Cond) ∈ zTB := z_mem zc_2 27 rfl rfl
theorem zw_270 : (.classLink "HeldCoats" 23 "HeldCoats$LawReader" : Cond) ∈ zTB := z_mem zc_2 30 rfl rfl
theorem zw_271 : (.instantiable "HeldCoats$LawReader" 4 : Cond) ∈ zTB := z_mem zc_2 31 rfl rfl
theorem zw_272 : (.methodLink "HeldCoats" 25 ⟨"HeldCoats$LawReader", "<init>", "(LHeldCoats$Tape;)V"⟩ : Cond) ∈ zTB := z_mem zc_2 32 rfl rfl
theorem zw_273 : (.instanceMethod ⟨"HeldCoats$LawReader", "<init>", "(LHeldCoats$Tape;)V"⟩ : Cond) ∈ zTB := z_mem zc_2 33 rfl rfl
theorem zw_274 : (.code ⟨"HeldCoats$LawReader", "<init>", "(LHeldCoats$Tape;)V"⟩ prog_6_method_1_code 2 none : Cond) ∈ zTB := z_mem zc_2 34 rfl rfl
theorem zw_275 : (.methodLink "HeldCoats$LawReader" 3 ⟨"java/lang/Object", "<init>", "()V"⟩ : Cond) ∈ zTB := z_mem zc_2 35 rfl rfl
theorem zw_276 : (.classLink "HeldCoats$LawReader" 9 "HeldCoats$Law" : Cond) ∈ zTB := z_mem zc_2 36 rfl rfl
theorem zw_277 : (.methodLink "HeldCoats$LawReader" 11 ⟨"HeldCoats$Law", "<init>", "()V"⟩ : Cond) ∈ zTB := z_mem zc_2 37 rfl rfl
theorem zw_278 : (.fieldLink "HeldCoats$LawReader" 18 "HeldCoats$LawReader" "tape" "LHeldCoats$Tape;" : Cond) ∈ zTB := z_mem zc_2 38 rfl rfl
theorem zw_279 : (.fieldLink "HeldCoats$LawReader" 12 "HeldCoats$LawReader" "draft" "LHeldCoats$Law;" : Cond) ∈ zTB := z_mem zc_2 39 rfl rfl
theorem zw_280 : (.fieldLink "HeldCoats" 103 "HeldCoats$LawReader" "draft" "LHeldCoats$Law;" : Cond) ∈ zTB := z_mem zc_2 40 rfl rfl
theorem zw_281 : (.fieldLink "HeldCoats$LawReader" 25 "HeldCoats$LawReader" "lines" "I" : Cond) ∈ zTB := z_mem zc_2 41 rfl rfl
theorem zw_282 : (.fieldLink "HeldCoats" 116 "HeldCoats$LawReader" "lines" "I" : Cond) ∈ zTB := z_mem zc_2 42 rfl rfl
theorem zw_283 : (.fieldLink "HeldCoats$LawReader" 29 "HeldCoats$LawReader" "onceTold" "I" : Cond) ∈ zTB := z_mem zc_2 43 rfl rfl
theorem zw_284 : (.laysFinal "HeldCoats$LawReader" "HeldCoats$LawReader" "tape" "LHeldCoats$Tape;" : Cond) ∈ zTB := z_mem zc_2 44 rfl rfl
theorem zw_286 : (.laysFinal "HeldCoats$LawReader" "HeldCoats$LawReader" "draft" "LHeldCoats$Law;" : Cond) ∈ zTB := z_mem zc_2 46 rfl rfl
theorem zw_288 : (.lays "HeldCoats$LawReader" "HeldCoats$LawReader" "lines" "I" : Cond) ∈ zTB := z_mem zc_2 48 rfl rfl
theorem zw_290 : (.lays "HeldCoats$LawReader" "HeldCoats$LawReader" "onceTold" "I" : Cond) ∈ zTB := z_mem zc_2 50 rfl rfl
theorem zw_293 : (.classLink "HeldCoats" 32 "HeldCoats$State" : Cond) ∈ zTB := z_mem zc_2 53 rfl rfl
theorem zw_294 : (.instantiable "HeldCoats$State" 13 : Cond) ∈ zTB := z_mem zc_2 54 rfl rfl
theorem zw_295 : (.methodLink "HeldCoats" 34 ⟨"HeldCoats$State", "<init>", "(LHeldCoats$Law;)V"⟩ : Cond) ∈ zTB := z_mem zc_2 55 rfl rfl
theorem zw_296 : (.instanceMethod ⟨"HeldCoats$State", "<init>", "(LHeldCoats$Law;)V"⟩ : Cond) ∈ zTB := z_mem zc_2 56 rfl rfl
theorem zw_297 : (.code ⟨"HeldCoats$State", "<init>", "(LHeldCoats$Law;)V"⟩ prog_11_method_1_code 2 none : Cond) ∈ zTB := z_mem zc_2 57 rfl rfl
theorem zw_298 : (.methodLink "HeldCoats$State" 3 ⟨"java/lang/Object", "<init>", "()V"⟩ : Cond) ∈ zTB := z_mem zc_2 58 rfl rfl
theorem zw_299 : (.fieldLink "HeldCoats$State" 36 "HeldCoats$State" "law" "LHeldCoats$Law;" : Cond) ∈ zTB := z_mem zc_2 59 rfl rfl
theorem zw_301 : (.fieldLink "HeldCoats$State" 44 "HeldCoats$State" "day" "I" : Cond) ∈ zTB := z_mem zc_2 61 rfl rfl
theorem zw_302 : (.fieldLink "HeldCoats$Counsel" 68 "HeldCoats$State" "day" "I" : Cond) ∈ zTB := z_mem zc_2 62 rfl rfl
theorem zw_303 : (.fieldLink "HeldCoats$Book" 99 "HeldCoats$State" "day" "I" : Cond) ∈ zTB := z_mem zc_2 63 rfl rfl
theorem zw_304 : (.fieldLink "HeldCoats" 188 "HeldCoats$State" "day" "I" : Cond) ∈ zTB := z_mem zc_2 64 rfl rfl
theorem zw_305 : (.fieldLink "HeldCoats$State" 47 "HeldCoats$State" "bareDays" "I" : Cond) ∈ zTB := z_mem zc_2 65 rfl rfl
theorem zw_306 : (.fieldLink "HeldCoats$Book" 90 "HeldCoats$State" "bareDays" "I" : Cond) ∈ zTB := z_mem zc_2 66 rfl rfl
theorem zw_307 : (.fieldLink "HeldCoats" 201 "HeldCoats$State" "bareDays" "I" : Cond) ∈ zTB := z_mem zc_2 67 rfl rfl
theorem zw_308 : (.fieldLink "HeldCoats$State" 40 "HeldCoats$State" "firstBare" "I" : Cond) ∈ zTB := z_mem zc_2 68 rfl rfl
theorem zw_309 : (.fieldLink "HeldCoats" 204 "HeldCoats$State" "firstBare" "I" : Cond) ∈ zTB := z_mem zc_2 69 rfl rfl
theorem zw_310 : (.fieldLink "HeldCoats$State" 50 "HeldCoats$State" "queued" "I" : Cond) ∈ zTB := z_mem zc_2 70 rfl rfl
theorem zw_311 : (.fieldLink "HeldCoats$Counsel" 111 "HeldCoats$State" "queued" "I" : Cond) ∈ zTB := z_mem zc_2 71 rfl rfl
theorem zw_312 : (.fieldLink "HeldCoats" 207 "HeldCoats$State" "queued" "I" : Cond) ∈ zTB := z_mem zc_2 72 rfl rfl
theorem zw_313 : (.fieldLink "HeldCoats$State" 9 "HeldCoats$State" "where" "[I" : Cond) ∈ zTB := z_mem zc_2 73 rfl rfl
theorem zw_315 : (.fieldLink "HeldCoats$State" 15 "HeldCoats$State" "cloth" "[I" : Cond) ∈ zTB := z_mem zc_2 75 rfl rfl
theorem zw_317 : (.fieldLink "HeldCoats$State" 18 "HeldCoats$State" "user" "[I" : Cond) ∈ zTB := z_mem zc_2 77 rfl rfl
theorem zw_319 : (.fieldLink "HeldCoats$State" 21 "HeldCoats$State" "lain" "[I" : Cond) ∈ zTB := z_mem zc_2 79 rfl rfl
theorem zw_320 : (.fieldLink "HeldCoats$State" 24 "HeldCoats$State" "line" "[I" : Cond) ∈ zTB := z_mem zc_2 80 rfl rfl
theorem zw_323 : (.fieldLink "HeldCoats$State" 27 "HeldCoats$State" "harm" "[I" : Cond) ∈ zTB := z_mem zc_2 83 rfl rfl
theorem zw_325 : (.fieldLink "HeldCoats$State" 30 "HeldCoats$State" "ruled" "[I" : Cond) ∈ zTB := z_mem zc_2 85 rfl rfl
theorem zw_327 : (.fieldLink "HeldCoats$State" 33 "HeldCoats$State" "tally" "[I" : Cond) ∈ zTB := z_mem zc_2 87 rfl rfl
theorem zw_328 : (.laysFinal "HeldCoats$State" "HeldCoats$State" "law" "LHeldCoats$Law;" : Cond) ∈ zTB := z_mem zc_2 88 rfl rfl
theorem zw_330 : (.lays "HeldCoats$State" "HeldCoats$State" "day" "I" : Cond) ∈ zTB := z_mem zc_2 90 rfl rfl
theorem zw_332 : (.lays "HeldCoats$State" "HeldCoats$State" "bareDays" "I" : Cond) ∈ zTB := z_mem zc_2 92 rfl rfl
theorem zw_334 : (.lays "HeldCoats$State" "HeldCoats$State" "firstBare" "I" : Cond) ∈ zTB := z_mem zc_2 94 rfl rfl
theorem zw_336 : (.lays "HeldCoats$State" "HeldCoats$State" "queued" "I" : Cond) ∈ zTB := z_mem zc_2 96 rfl rfl
theorem zw_338 : (.laysFinal "HeldCoats$State" "HeldCoats$State" "where" "[I" : Cond) ∈ zTB := z_mem zc_2 98 rfl rfl
theorem zw_340 : (.laysFinal "HeldCoats$State" "HeldCoats$State" "cloth" "[I" : Cond) ∈ zTB := z_mem zc_2 100 rfl rfl
theorem zw_342 : (.laysFinal "HeldCoats$State" "HeldCoats$State" "user" "[I" : Cond) ∈ zTB := z_mem zc_2 102 rfl rfl
theorem zw_344 : (.laysFinal "HeldCoats$State" "HeldCoats$State" "lain" "[I" : Cond) ∈ zTB := z_mem zc_2 104 rfl rfl
theorem zw_346 : (.laysFinal "HeldCoats$State" "HeldCoats$State" "line" "[I" : Cond) ∈ zTB := z_mem zc_2 106 rfl rfl
theorem zw_348 : (.laysFinal "HeldCoats$State" "HeldCoats$State" "harm" "[I" : Cond) ∈ zTB := z_mem zc_2 108 rfl rfl
theorem zw_350 : (.laysFinal "HeldCoats$State" "HeldCoats$State" "ruled" "[I" : Cond) ∈ zTB := z_mem zc_2 110 rfl rfl
theorem zw_352 : (.laysFinal "HeldCoats$State" "HeldCoats$State" "tally" "[I" : Cond) ∈ zTB := z_mem zc_2 112 rfl rfl
theorem zw_355 : (.classLink "HeldCoats" 41 "HeldCoats$Past" : Cond) ∈ zTB := z_mem zc_2 115 rfl rfl
theorem zw_356 : (.instantiable "HeldCoats$Past" 3 : Cond) ∈ zTB := z_mem zc_2 116 rfl rfl
theorem zw_357 : (.methodLink "HeldCoats" 43 ⟨"HeldCoats$Past", "<init>", "(LHeldCoats$Law;)V"⟩ : Cond) ∈ zTB := z_mem zc_2 117 rfl rfl
theorem zw_358 : (.instanceMethod ⟨"HeldCoats$Past", "<init>", "(LHeldCoats$Law;)V"⟩ : Cond) ∈ zTB := z_mem zc_2 118 rfl rfl
theorem zw_359 : (.code ⟨"HeldCoats$Past", "<init>", "(LHeldCoats$Law;)V"⟩ prog_8_method_1_code 3 none : Cond) ∈ zTB := z_mem zc_2 119 rfl rfl
theorem zw_360 : (.methodLink "HeldCoats$Past" 3 ⟨"java/lang/Object", "<init>", "()V"⟩ : Cond) ∈ zTB := z_mem zc_2 120 rfl rfl
theorem zw_361 : (.classLink "HeldCoats$Past" 9 "HeldCoats$State" : Cond) ∈ zTB := z_mem zc_2 121 rfl rfl
theorem zw_363 : (.methodLink "HeldCoats$Past" 17 ⟨"HeldCoats$State", "<init>", "(LHeldCoats$Law;)V"⟩ : Cond) ∈ zTB := z_mem zc_2 123 rfl rfl
theorem zw_364 : (.fieldLink "HeldCoats$Past" 11 "HeldCoats$Past" "rows" "[LHeldCoats$State;" : Cond) ∈ zTB := z_mem zc_2 124 rfl rfl
theorem zw_365 : (.fieldLink "HeldCoats$Past" 24 "HeldCoats$Past" "next" "I" : Cond) ∈ zTB := z_mem zc_2 125 rfl rfl
theorem zw_366 : (.fieldLink "HeldCoats$Past" 20 "HeldCoats$Past" "size" "I" : Cond) ∈ zTB := z_mem zc_2 126 rfl rfl
theorem zw_368 : (.laysFinal "HeldCoats$Past" "HeldCoats$Past" "rows" "[LHeldCoats$State;" : Cond) ∈ zTB := z_mem zc_2 128 rfl rfl
theorem zw_370 : (.lays "HeldCoats$Past" "HeldCoats$Past" "next" "I" : Cond) ∈ zTB := z_mem zc_2 130 rfl rfl
theorem zw_372 : (.lays "HeldCoats$Past" "HeldCoats$Past" "size" "I" : Cond) ∈ zTB := z_mem zc_2 132 rfl rfl
theorem zw_375 : (.classLink "HeldCoats" 48 "HeldCoats$Sentence" : Cond) ∈ zTB := z_mem zc_2 135 rfl rfl
theorem zw_376 : (.instantiable "HeldCoats$Sentence" 6 : Cond) ∈ zTB := z_mem zc_2 136 rfl rfl
theorem zw_378 : (.instanceMethod ⟨"HeldCoats$Sentence", "<init>", "()V"⟩ : Cond) ∈ zTB := z_mem zc_2 138 rfl rfl
theorem zw_379 : (.code ⟨"HeldCoats$Sentence", "<init>", "()V"⟩ prog_9_method_1_code 1 none : Cond) ∈ zTB := z_mem zc_2 139 rfl rfl
theorem zw_380 : (.methodLink "HeldCoats$Sentence" 3 ⟨"java/lang/Object", "<init>", "()V"⟩ : Cond) ∈ zTB := z_mem zc_2 140 rfl rfl
theorem zw_381 : (.fieldLink "HeldCoats$Sentence" 11 "HeldCoats$Sentence" "step" "[I" : Cond) ∈ zTB := z_mem zc_2 141 rfl rfl
theorem zw_382 : (.fieldLink "HeldCoats$Sentence" 15 "HeldCoats$Sentence" "sign" "[I" : Cond) ∈ zTB := z_mem zc_2 142 rfl rfl
theorem zw_383 : (.fieldLink "HeldCoats$Sentence" 18 "HeldCoats$Sentence" "number" "[I" : Cond) ∈ zTB := z_mem zc_2 143 rfl rfl
theorem zw_384 : (.fieldLink "HeldCoats$Sentence" 21 "HeldCoats$Sentence" "heap" "[I" : Cond) ∈ zTB := z_mem zc_2 144 rfl rfl
theorem zw_385 : (.fieldLink "HeldCoats$Sentence" 24 "HeldCoats$Sentence" "steps" "I" : Cond) ∈ zTB := z_mem zc_2 145 rfl rfl
theorem zw_386 : (.fieldLink "HeldCoats$Sentence" 28 "HeldCoats$Sentence" "ones" "I" : Cond) ∈ zTB := z_mem zc_2 146 rfl rfl
theorem zw_388 : (.fieldLink "HeldCoats" 353 "HeldCoats$Sentence" "ones" "I" : Cond) ∈ zTB := z_mem zc_2 148 rfl rfl
theorem zw_389 : (.laysFinal "HeldCoats$Sentence" "HeldCoats$Sentence" "step" "[I" : Cond) ∈ zTB := z_mem zc_2 149 rfl rfl
theorem zw_391 : (.laysFinal "HeldCoats$Sentence" "HeldCoats$Sentence" "sign" "[I" : Cond) ∈ zTB := z_mem zc_2 151 rfl rfl
theorem zw_393 : (.laysFinal "HeldCoats$Sentence" "HeldCoats$Sentence" "number" "[I" : Cond) ∈ zTB := z_mem zc_2 153 rfl rfl
theorem zw_395 : (.laysFinal "HeldCoats$Sentence" "HeldCoats$Sentence" "heap" "[I" : Cond) ∈ zTB := z_mem zc_2 155 rfl rfl
theorem zw_397 : (.lays "HeldCoats$Sentence" "HeldCoats$Sentence" "steps" "I" : Cond) ∈ zTB := z_mem zc_2 157 rfl rfl
theorem zw_399 : (.lays "HeldCoats$Sentence" "HeldCoats$Sentence" "ones" "I" : Cond) ∈ zTB := z_mem zc_2 159 rfl rfl
theorem zw_402 : (.classLink "HeldCoats" 55 "HeldCoats$SentenceReader" : Cond) ∈ zTB := z_mem zc_2 162 rfl rfl
theorem zw_403 : (.instantiable "HeldCoats$SentenceReader" 3 : Cond) ∈ zTB := z_mem zc_2 163 rfl rfl
theorem zw_404 : (.methodLink "HeldCoats" 57 ⟨"HeldCoats$SentenceReader", "<init>", "(LHeldCoats$Tape;)V"⟩ : Cond) ∈ zTB := z_mem zc_2 164 rfl rfl
theorem zw_405 : (.instanceMethod ⟨"HeldCoats$SentenceReader", "<init>", "(LHeldCoats$Tape;)V"⟩ : Cond) ∈ zTB := z_mem zc_2 165 rfl rfl
theorem zw_406 : (.code ⟨"HeldCoats$SentenceReader", "<init>", "(LHeldCoats$Tape;)V"⟩ prog_10_method_1_code 2 none : Cond) ∈ zTB := z_mem zc_2 166 rfl rfl
theorem zw_407 : (.methodLink "HeldCoats$SentenceReader" 3 ⟨"java/lang/Object", "<init>", "()V"⟩ : Cond) ∈ zTB := z_mem zc_2 167 rfl rfl
theorem zw_408 : (.classLink "HeldCoats$SentenceReader" 9 "HeldCoats$Sentence" : Cond) ∈ zTB := z_mem zc_2 168 rfl rfl
theorem zw_410 : (.classLink "HeldCoats$SentenceReader" 22 "HeldCoats$Names" : Cond) ∈ zTB := z_mem zc_2 170 rfl rfl
theorem zw_412 : (.fieldLink "HeldCoats$SentenceReader" 18 "HeldCoats$SentenceReader" "tape" "LHeldCoats$Tape;" : Cond) ∈ zTB := z_mem zc_2 172 rfl rfl
theorem zw_413 : (.fieldLink "HeldCoats$SentenceReader" 12 "HeldCoats$SentenceReader" "draft" "LHeldCoats$Sentence;" : Cond) ∈ zTB := z_mem zc_2 173 rfl rfl
theorem zw_415 : (.fieldLink "HeldCoats$SentenceReader" 25 "HeldCoats$SentenceReader" "names" "LHeldCoats$Names;" : Cond) ∈ zTB := z_mem zc_2 175 rfl rfl
theorem zw_416 : (.laysFinal "HeldCoats$SentenceReader" "HeldCoats$SentenceReader" "tape" "LHeldCoats$Tape;" : Cond) ∈ zTB := z_mem zc_2 176 rfl rfl
theorem zw_418 : (.laysFinal "HeldCoats$SentenceReader" "HeldCoats$SentenceReader" "draft" "LHeldCoats$Sentence;" : Cond) ∈ zTB := z_mem zc_2 178 rfl rfl
theorem zw_420 : (.lays "HeldCoats$SentenceReader" "HeldCoats$SentenceReader" "names" "LHeldCoats$Names;" : Cond) ∈ zTB := z_mem zc_2 180 rfl rfl
theorem zw_423 : (.classLink "HeldCoats" 62 "HeldCoats$Book" : Cond) ∈ zTB := z_mem zc_2 183 rfl rfl
theorem zw_424 : (.instantiable "HeldCoats$Book" 5 : Cond) ∈ zTB := z_mem zc_2 184 rfl rfl
theorem zw_426 : (.instanceMethod ⟨"HeldCoats$Book", "<init>", "()V"⟩ : Cond) ∈ zTB := z_mem zc_2 186 rfl rfl
theorem zw_427 : (.code ⟨"HeldCoats$Book", "<init>", "()V"⟩ prog_2_method_1_code 1 none : Cond) ∈ zTB := z_mem zc_2 187 rfl rfl
theorem zw_428 : (.methodLink "HeldCoats$Book" 3 ⟨"java/lang/Object", "<init>", "()V"⟩ : Cond) ∈ zTB := z_mem zc_2 188 rfl rfl
theorem zw_429 : (.fieldLink "HeldCoats$Book" 9 "HeldCoats$Book" "act" "[I" : Cond) ∈ zTB := z_mem zc_2 189 rfl rfl
theorem zw_430 : (.fieldLink "HeldCoats$Book" 15 "HeldCoats$Book" "first" "[I" : Cond) ∈ zTB := z_mem zc_2 190 rfl rfl
theorem zw_431 : (.fieldLink "HeldCoats$Book" 18 "HeldCoats$Book" "second" "[I" : Cond) ∈ zTB := z_mem zc_2 191 rfl rfl
theorem zw_432 : (.fieldLink "HeldCoats$Book" 21 "HeldCoats$Book" "verdict" "[I" : Cond) ∈ zTB := z_mem zc_2 192 rfl rfl
theorem zw_433 : (.fieldLink "HeldCoats" 335 "HeldCoats$Book" "verdict" "[I" : Cond) ∈ zTB := z_mem zc_2 193 rfl rfl
theorem zw_434 : (.fieldLink "HeldCoats$Book" 24 "HeldCoats$Book" "lines" "I" : Cond) ∈ zTB := z_mem zc_2 194 rfl rfl
theorem zw_435 : (.laysFinal "HeldCoats$Book" "HeldCoats$Book" "act" "[I" : Cond) ∈ zTB := z_mem zc_2 195 rfl rfl
theorem zw_437 : (.laysFinal "HeldCoats$Book" "HeldCoats$Book" "first" "[I" : Cond) ∈ zTB := z_mem zc_2 197 rfl rfl
theorem zw_439 : (.laysFinal "HeldCoats$Book" "HeldCoats$Book" "second" "[I" : Cond) ∈ zTB := z_mem zc_2 199 rfl rfl
theorem zw_441 : (.laysFinal "HeldCoats$Book" "HeldCoats$Book" "verdict" "[I" : Cond) ∈ zTB := z_mem zc_2 201 rfl rfl
theorem zw_443 : (.lays "HeldCoats$Book" "HeldCoats$Book" "lines" "I" : Cond) ∈ zTB := z_mem zc_2 203 rfl rfl
theorem zw_446 : (.classLink "HeldCoats" 69 "HeldCoats$Counsel" : Cond) ∈ zTB := z_mem zc_2 206 rfl rfl
theorem zw_447 : (.instantiable "HeldCoats$Counsel" 14 : Cond) ∈ zTB := z_mem zc_2 207 rfl rfl
theorem zw_448 : (.methodLink "HeldCoats" 71 ⟨"HeldCoats$Counsel", "<init>", "(LHeldCoats$Law;LHeldCoats$State;)V"⟩ : Cond) ∈ zTB := z_mem zc_2 208 rfl rfl
theorem zw_449 : (.instanceMethod ⟨"HeldCoats$Counsel", "<init>", "(LHeldCoats$Law;LHeldCoats$State;)V"⟩ : Cond) ∈ zTB := z_mem zc_2 209 rfl rfl
theorem zw_450 : (.code ⟨"HeldCoats$Counsel", "<init>", "(LHeldCoats$Law;LHeldCoats$State;)V"⟩ prog_3_method_1_code 3 none : Cond) ∈ zTB := z_mem zc_2 210 rfl rfl
theorem zw_451 : (.methodLink "HeldCoats$Counsel" 3 ⟨"java/lang/Object", "<init>", "()V"⟩ : Cond) ∈ zTB := z_mem zc_2 211 rfl rfl
theorem zw_452 : (.classLink "HeldCoats$Counsel" 45 "HeldCoats$State" : Cond) ∈ zTB := z_mem zc_2 212 rfl rfl
theorem zw_453 : (.methodLink "HeldCoats$Counsel" 47 ⟨"HeldCoats$State", "<init>", "(LHeldCoats$Law;)V"⟩ : Cond) ∈ zTB := z_mem zc_2 213 rfl rfl
theorem zw_454 : (.fieldLink "HeldCoats$Counsel" 37 "HeldCoats$Counsel" "law" "LHeldCoats$Law;" : Cond) ∈ zTB := z_mem zc_2 214 rfl rfl
theorem zw_455 : (.fieldLink "HeldCoats$Counsel" 41 "HeldCoats$Counsel" "state" "LHeldCoats$State;" : Cond) ∈ zTB := z_mem zc_2 215 rfl rfl
theorem zw_456 : (.fieldLink "HeldCoats$Counsel" 50 "HeldCoats$Counsel" "trial" "LHeldCoats$State;" : Cond) ∈ zTB := z_mem zc_2 216 rfl rfl
theorem zw_457 : (.fieldLink "HeldCoats$Counsel" 9 "HeldCoats$Counsel" "worthOfBest" "[I" : Cond) ∈ zTB := z_mem zc_2 217 rfl rfl
theorem zw_458 : (.fieldLink "HeldCoats$Counsel" 15 "HeldCoats$Counsel" "hung" "[I" : Cond) ∈ zTB := z_mem zc_2 218 rfl rfl
theorem zw_459 : (.fieldLink "HeldCoats$Counsel" 18 "HeldCoats$Counsel" "owned" "[I" : Cond) ∈ zTB := z_mem zc_2 219 rfl rfl
theorem zw_460 : (.fieldLink "HeldCoats$Counsel" 21 "HeldCoats$Counsel" "latestLaid" "I" : Cond) ∈ zTB := z_mem zc_2 220 rfl rfl
theorem zw_461 : (.fieldLink "HeldCoats" 250 "HeldCoats$Counsel" "latestLaid" "I" : Cond) ∈ zTB := z_mem zc_2 221 rfl rfl
theorem zw_462 : (.fieldLink "HeldCoats$Counsel" 25 "HeldCoats$Counsel" "latestTurns" "I" : Cond) ∈ zTB := z_mem zc_2 222 rfl rfl
theorem zw_463 : (.fieldLink "HeldCoats" 257 "HeldCoats$Counsel" "latestTurns" "I" : Cond) ∈ zTB := z_mem zc_2 223 rfl rfl
theorem zw_464 : (.fieldLink "HeldCoats$Counsel" 28 "HeldCoats$Counsel" "latestSurely" "I" : Cond) ∈ zTB := z_mem zc_2 224 rfl rfl
theorem zw_465 : (.fieldLink "HeldCoats" 295 "HeldCoats$Counsel" "latestSurely" "I" : Cond) ∈ zTB := z_mem zc_2 225 rfl rfl
theorem zw_466 : (.fieldLink "HeldCoats$Counsel" 31 "HeldCoats$Counsel" "latestNever" "I" : Cond) ∈ zTB := z_mem zc_2 226 rfl rfl
theorem zw_467 : (.fieldLink "HeldCoats" 298 "HeldCoats$Counsel" "latestNever" "I" : Cond) ∈ zTB := z_mem zc_2 227 rfl rfl
theorem zw_468 : (.fieldLink "HeldCoats$Counsel" 34 "HeldCoats$Counsel" "latestPrice" "I" : Cond) ∈ zTB := z_mem zc_2 228 rfl rfl
theorem zw_469 : (.fieldLink "HeldCoats" 304 "HeldCoats$Counsel" "latestPrice" "I" : Cond) ∈ zTB := z_mem zc_2 229 rfl rfl
theorem zw_475 : (.laysFinal "HeldCoats$Counsel" "HeldCoats$Counsel" "law" "LHeldCoats$Law;" : Cond) ∈ zTB := z_mem zc_2 235 rfl rfl
theorem zw_477 : (.laysFinal "HeldCoats$Counsel" "HeldCoats$Counsel" "state" "LHeldCoats$State;" : Cond) ∈ zTB := z_mem zc_2 237 rfl rfl
theorem zw_479 : (.laysFinal "HeldCoats$Counsel" "HeldCoats$Counsel" "trial" "LHeldCoats$State;" : Cond) ∈ zTB := z_mem zc_2 239 rfl rfl
theorem zw_481 : (.laysFinal "HeldCoats$Counsel" "HeldCoats$Counsel" "worthOfBest" "[I" : Cond) ∈ zTB := z_mem zc_3 1 rfl rfl
theorem zw_483 : (.laysFinal "HeldCoats$Counsel" "HeldCoats$Counsel" "hung" "[I" : Cond) ∈ zTB := z_mem zc_3 3 rfl rfl
theorem zw_485 : (.laysFinal "HeldCoats$Counsel" "HeldCoats$Counsel" "owned" "[I" : Cond) ∈ zTB := z_mem zc_3 5 rfl rfl
theorem zw_487 : (.lays "HeldCoats$Counsel" "HeldCoats$Counsel" "latestLaid" "I" : Cond) ∈ zTB := z_mem zc_3 7 rfl rfl
theorem zw_489 : (.lays "HeldCoats$Counsel" "HeldCoats$Counsel" "latestTurns" "I" : Cond) ∈ zTB := z_mem zc_3 9 rfl rfl
theorem zw_491 : (.lays "HeldCoats$Counsel" "HeldCoats$Counsel" "latestSurely" "I" : Cond) ∈ zTB := z_mem zc_3 11 rfl rfl
theorem zw_493 : (.lays "HeldCoats$Counsel" "HeldCoats$Counsel" "latestNever" "I" : Cond) ∈ zTB := z_mem zc_3 13 rfl rfl
theorem zw_495 : (.lays "HeldCoats$Counsel" "HeldCoats$Counsel" "latestPrice" "I" : Cond) ∈ zTB := z_mem zc_3 15 rfl rfl
theorem zw_497 : (.lays "HeldCoats$Counsel" "HeldCoats$Counsel" "standing" "I" : Cond) ∈ zTB := z_mem zc_3 17 rfl rfl
theorem zw_499 : (.lays "HeldCoats$Counsel" "HeldCoats$Counsel" "givenInAt" "I" : Cond) ∈ zTB := z_mem zc_3 19 rfl rfl
theorem zw_501 : (.lays "HeldCoats$Counsel" "HeldCoats$Counsel" "seedNow" "I" : Cond) ∈ zTB := z_mem zc_3 21 rfl rfl
theorem zw_504 : (.classLink "HeldCoats" 78 "HeldCoats$Image" : Cond) ∈ zTB := z_mem zc_3 24 rfl rfl
theorem zw_506 : (.instantiable "HeldCoats$Image" 4 : Cond) ∈ zTB := z_mem zc_3 26 rfl rfl
theorem zw_508 : (.instanceMethod ⟨"HeldCoats$Image", "<init>", "()V"⟩ : Cond) ∈ zTB := z_mem zc_3 28 rfl rfl
theorem zw_509 : (.code ⟨"HeldCoats$Image", "<init>", "()V"⟩ prog_4_method_1_code 1 none : Cond) ∈ zTB := z_mem zc_3 29 rfl rfl
theorem zw_510 : (.methodLink "HeldCoats$Image" 1 ⟨"java/lang/Object", "<init>", "()V"⟩ : Cond) ∈ zTB := z_mem zc_3 30 rfl rfl
theorem zw_511 : (.classLink "HeldCoats$Image" 7 "HeldCoats$Law" : Cond) ∈ zTB := z_mem zc_3 31 rfl rfl
theorem zw_512 : (.methodLink "HeldCoats$Image" 9 ⟨"HeldCoats$Law", "<init>", "()V"⟩ : Cond) ∈ zTB := z_mem zc_3 32 rfl rfl
theorem zw_513 : (.classLink "HeldCoats$Image" 16 "HeldCoats$State" : Cond) ∈ zTB := z_mem zc_3 33 rfl rfl
theorem zw_514 : (.methodLink "HeldCoats$Image" 18 ⟨"HeldCoats$State", "<init>", "(LHeldCoats$Law;)V"⟩ : Cond) ∈ zTB := z_mem zc_3 34 rfl rfl
theorem zw_515 : (.classLink "HeldCoats$Image" 25 "HeldCoats$Sentence" : Cond) ∈ zTB := z_mem zc_3 35 rfl rfl
theorem zw_517 : (.fieldLink "HeldCoats$Image" 10 "HeldCoats$Image" "law" "LHeldCoats$Law;" : Cond) ∈ zTB := z_mem zc_3 37 rfl rfl
theorem zw_518 : (.fieldLink "HeldCoats$Image" 21 "HeldCoats$Image" "state" "LHeldCoats$State;" : Cond) ∈ zTB := z_mem zc_3 38 rfl rfl
theorem zw_519 : (.fieldLink "HeldCoats$Image" 28 "HeldCoats$Image" "sentence" "LHeldCoats$Sentence;" : Cond) ∈ zTB := z_mem zc_3 39 rfl rfl
theorem zw_520 : (.fieldLink "HeldCoats$Image" 41 "HeldCoats$Image" "taken" "Z" : Cond) ∈ zTB := z_mem zc_3 40 rfl rfl
theorem zw_521 : (.fieldLink "HeldCoats" 371 "HeldCoats$Image" "taken" "Z" : Cond) ∈ zTB := z_mem zc_3 41 rfl rfl
theorem zw_522 : (.laysFinal "HeldCoats$Image" "HeldCoats$Image" "law" "LHeldCoats$Law;" : Cond) ∈ zTB := z_mem zc_3 42 rfl rfl
theorem zw_524 : (.laysFinal "HeldCoats$Image" "HeldCoats$Image" "state" "LHeldCoats$State;" : Cond) ∈ zTB := z_mem zc_3 44 rfl rfl
theorem zw_526 : (.laysFinal "HeldCoats$Image" "HeldCoats$Image" "sentence" "LHeldCoats$Sentence;" : Cond) ∈ zTB := z_mem zc_3 46 rfl rfl
theorem zw_528 : (.lays "HeldCoats$Image" "HeldCoats$Image" "taken" "Z" : Cond) ∈ zTB := z_mem zc_3 48 rfl rfl
theorem zw_531 : (.fieldLink "HeldCoats" 10 "HeldCoats" "tape" "LHeldCoats$Tape;" : Cond) ∈ zTB := z_mem zc_3 51 rfl rfl
theorem zw_532 : (.fieldLink "HeldCoats" 19 "HeldCoats" "law" "LHeldCoats$Law;" : Cond) ∈ zTB := z_mem zc_3 52 rfl rfl
theorem zw_533 : (.fieldLink "HeldCoats" 28 "HeldCoats" "lawReader" "LHeldCoats$LawReader;" : Cond) ∈ zTB := z_mem zc_3 53 rfl rfl
theorem zw_534 : (.fieldLink "HeldCoats" 37 "HeldCoats" "state" "LHeldCoats$State;" : Cond) ∈ zTB := z_mem zc_3 54 rfl rfl
theorem zw_535 : (.fieldLink "HeldCoats" 44 "HeldCoats" "past" "LHeldCoats$Past;" : Cond) ∈ zTB := z_mem zc_3 55 rfl rfl
theorem zw_536 : (.fieldLink "HeldCoats" 51 "HeldCoats" "sentence" "LHeldCoats$Sentence;" : Cond) ∈ zTB := z_mem zc_3 56 rfl rfl
theorem zw_537 : (.fieldLink "HeldCoats" 58 "HeldCoats" "sentenceReader" "LHeldCoats$SentenceReader;" : Cond) ∈ zTB := z_mem zc_3 57 rfl rfl
theorem zw_538 : (.fieldLink "HeldCoats" 65 "HeldCoats" "script" "LHeldCoats$Book;" : Cond) ∈ zTB := z_mem zc_3 58 rfl rfl
theorem zw_539 : (.fieldLink "HeldCoats" 74 "HeldCoats" "counsel" "LHeldCoats$Counsel;" : Cond) ∈ zTB := z_mem zc_3 59 rfl rfl
theorem zw_540 : (.fieldLink "HeldCoats" 80 "HeldCoats" "images" "[LHeldCoats$Image;" : Cond) ∈ zTB := z_mem zc_3 60 rfl rfl
theorem zw_541 : (.fieldLink "HeldCoats" 119 "HeldCoats" "latestFault" "I" : Cond) ∈ zTB := z_mem zc_3 61 rfl rfl
theorem zw_542 : (.laysFinal "HeldCoats" "HeldCoats" "tape" "LHeldCoats$Tape;" : Cond) ∈ zTB := z_mem zc_3 62 rfl rfl
theorem zw_544 : (.laysFinal "HeldCoats" "HeldCoats" "law" "LHeldCoats$Law;" : Cond) ∈ zTB := z_mem zc_3 64 rfl rfl
theorem zw_546 : (.laysFinal "HeldCoats" "HeldCoats" "lawReader" "LHeldCoats$LawReader;" : Cond) ∈ zTB := z_mem zc_3 66 rfl rfl
theorem zw_548 : (.laysFinal "HeldCoats" "HeldCoats" "state" "LHeldCoats$State;" : Cond) ∈ zTB := z_mem zc_3 68 rfl rfl
theorem zw_550 : (.laysFinal "HeldCoats" "HeldCoats" "past" "LHeldCoats$Past;" : Cond) ∈ zTB := z_mem zc_3 70 rfl rfl
theorem zw_552 : (.laysFinal "HeldCoats" "HeldCoats" "sentence" "LHeldCoats$Sentence;" : Cond) ∈ zTB := z_mem zc_3 72 rfl rfl
theorem zw_554 : (.laysFinal "HeldCoats" "HeldCoats" "sentenceReader" "LHeldCoats$SentenceReader;" : Cond) ∈ zTB := z_mem zc_3 74 rfl rfl
theorem zw_556 : (.laysFinal "HeldCoats" "HeldCoats" "script" "LHeldCoats$Book;" : Cond) ∈ zTB := z_mem zc_3 76 rfl rfl
theorem zw_558 : (.laysFinal "HeldCoats" "HeldCoats" "counsel" "LHeldCoats$Counsel;" : Cond) ∈ zTB := z_mem zc_3 78 rfl rfl
theorem zw_560 : (.laysFinal "HeldCoats" "HeldCoats" "images" "[LHeldCoats$Image;" : Cond) ∈ zTB := z_mem zc_3 80 rfl rfl
theorem zw_562 : (.lays "HeldCoats" "HeldCoats" "latestFault" "I" : Cond) ∈ zTB := z_mem zc_3 82 rfl rfl
theorem zw_565 : (.methodLink "HeldCoatsLaw" 22 ⟨"HeldCoats", "feed", "(IIIII)I"⟩ : Cond) ∈ zTB := z_mem zc_3 85 rfl rfl
theorem zw_566 : (.instanceMethod ⟨"HeldCoats", "feed", "(IIIII)I"⟩ : Cond) ∈ zTB := z_mem zc_3 86 rfl rfl
theorem zw_567 : (.selects "HeldCoats" ⟨"HeldCoats", "feed", "(IIIII)I"⟩ ⟨"HeldCoats", "feed", "(IIIII)I"⟩ : Cond) ∈ zTB := z_mem zc_3 87 rfl rfl
theorem zw_568 : (.code ⟨"HeldCoats", "feed", "(IIIII)I"⟩ prog_1_method_2_code 6 (some .int) : Cond) ∈ zTB := z_mem zc_3 88 rfl rfl
theorem zw_569 : (.methodLink "HeldCoats" 89 ⟨"HeldCoats$Tape", "addNumber", "(I)V"⟩ : Cond) ∈ zTB := z_mem zc_3 89 rfl rfl
theorem zw_570 : (.instanceMethod ⟨"HeldCoats$Tape", "addNumber", "(I)V"⟩ : Cond) ∈ zTB := z_mem zc_3 90 rfl rfl
theorem zw_571 : (.selects "HeldCoats$Tape" ⟨"HeldCoats$Tape", "addNumber", "(I)V"⟩ ⟨"HeldCoats$Tape", "addNumber", "(I)V"⟩ : Cond) ∈ zTB := z_mem zc_3 91 rfl rfl
theorem zw_572 : (.code ⟨"HeldCoats$Tape", "addNumber", "(I)V"⟩ prog_12_method_2_code 3 none : Cond) ∈ zTB := z_mem zc_3 92 rfl rfl
theorem zw_573 : (.methodLink "HeldCoatsLaw" 27 ⟨"HeldCoats", "end", "(I)Z"⟩ : Cond) ∈ zTB := z_mem zc_3 93 rfl rfl
theorem zw_574 : (.instanceMethod ⟨"HeldCoats", "end", "(I)Z"⟩ : Cond) ∈ zTB := z_mem zc_3 94 rfl rfl
theorem zw_575 : (.selects "HeldCoats" ⟨"HeldCoats", "end", "(I)Z"⟩ ⟨"HeldCoats", "end", "(I)Z"⟩ : Cond) ∈ zTB := z_mem zc_3 95 rfl rfl
theorem zw_576 : (.code ⟨"HeldCoats", "end", "(I)Z"⟩ prog_1_method_3_code 2 (some .boolean) : Cond) ∈ zTB := z_mem zc_3 96 rfl rfl
theorem zw_577 : (.methodLink "HeldCoatsLaw" 32 ⟨"HeldCoats", "capital", "()I"⟩ : Cond) ∈ zTB := z_mem zc_3 97 rfl rfl
theorem zw_578 : (.instanceMethod ⟨"HeldCoats", "capital", "()I"⟩ : Cond) ∈ zTB := z_mem zc_3 98 rfl rfl
theorem zw_579 : (.selects "HeldCoats" ⟨"HeldCoats", "capital", "()I"⟩ ⟨"HeldCoats", "capital", "()I"⟩ : Cond) ∈ zTB := z_mem zc_3 99 rfl rfl
theorem zw_580 : (.code ⟨"HeldCoats", "capital", "()I"⟩ prog_1_method_4_code 2 (some .int) : Cond) ∈ zTB := z_mem zc_3 100 rfl rfl
theorem zw_581 : (.methodLink "HeldCoats" 93 ⟨"HeldCoats$LawReader", "readText", "()Z"⟩ : Cond) ∈ zTB := z_mem zc_3 101 rfl rfl
theorem zw_582 : (.instanceMethod ⟨"HeldCoats$LawReader", "readText", "()Z"⟩ : Cond) ∈ zTB := z_mem zc_3 102 rfl rfl
theorem zw_583 : (.selects "HeldCoats$LawReader" ⟨"HeldCoats$LawReader", "readText", "()Z"⟩ ⟨"HeldCoats$LawReader", "readText", "()Z"⟩ : Cond) ∈ zTB := z_mem zc_3 103 rfl rfl
theorem zw_584 : (.code ⟨"HeldCoats$LawReader", "readText", "()Z"⟩ prog_6_method_2_code 1 (some .boolean) : Cond) ∈ zTB := z_mem zc_3 104 rfl rfl
theorem zw_585 : (.methodLink "HeldCoats$LawReader" 22 ⟨"HeldCoats$Law", "clear", "()V"⟩ : Cond) ∈ zTB := z_mem zc_3 105 rfl rfl
theorem zw_586 : (.methodLink "HeldCoats$LawReader" 32 ⟨"HeldCoats$Tape", "open", "(I)V"⟩ : Cond) ∈ zTB := z_mem zc_3 106 rfl rfl
theorem zw_587 : (.instanceMethod ⟨"HeldCoats$Tape", "open", "(I)V"⟩ : Cond) ∈ zTB := z_mem zc_3 107 rfl rfl
theorem zw_588 : (.selects "HeldCoats$Tape" ⟨"HeldCoats$Tape", "open", "(I)V"⟩ ⟨"HeldCoats$Tape", "open", "(I)V"⟩ : Cond) ∈ zTB := z_mem zc_3 108 rfl rfl
theorem zw_589 : (.code ⟨"HeldCoats$Tape", "open", "(I)V"⟩ prog_12_method_3_code 2 none : Cond) ∈ zTB := z_mem zc_3 109 rfl rfl
theorem zw_590 : (.methodLink "HeldCoats$Tape" 49 ⟨"HeldCoats$Tape", "advance", "()V"⟩ : Cond) ∈ zTB := z_mem zc_3 110 rfl rfl
theorem zw_591 : (.instanceMethod ⟨"HeldCoats$Tape", "advance", "()V"⟩ : Cond) ∈ zTB := z_mem zc_3 111 rfl rfl
theorem zw_592 : (.selects "HeldCoats$Tape" ⟨"HeldCoats$Tape", "advance", "()V"⟩ ⟨"HeldCoats$Tape", "advance", "()V"⟩ : Cond) ∈ zTB := z_mem zc_3 112 rfl rfl
theorem zw_593 : (.code ⟨"HeldCoats$Tape", "advance", "()V"⟩ prog_12_method_4_code 1 none : Cond) ∈ zTB := z_mem zc_3 113 rfl rfl
theorem zw_594 : (.methodLink "HeldCoats$Tape" 52 ⟨"HeldCoats$Tape", "firstUnblank", "(I)I"⟩ : Cond) ∈ zTB := z_mem zc_3 114 rfl rfl
theorem zw_596 : (.instanceMethod ⟨"HeldCoats$Tape", "firstUnblank", "(I)I"⟩ : Cond) ∈ zTB := z_mem zc_3 116 rfl rfl
theorem zw_597 : (.code ⟨"HeldCoats$Tape", "firstUnblank", "(I)I"⟩ prog_12_method_5_code 3 (some .int) : Cond) ∈ zTB := z_mem zc_3 117 rfl rfl
theorem zw_598 : (.methodLink "HeldCoats$Tape" 59 ⟨"HeldCoats$Tape", "stopAtEnd", "()V"⟩ : Cond) ∈ zTB := z_mem zc_3 118 rfl rfl
theorem zw_600 : (.instanceMethod ⟨"HeldCoats$Tape", "stopAtEnd", "()V"⟩ : Cond) ∈ zTB := z_mem zc_3 120 rfl rfl
theorem zw_601 : (.code ⟨"HeldCoats$Tape", "stopAtEnd", "()V"⟩ prog_12_method_6_code 1 none : Cond) ∈ zTB := z_mem zc_3 121 rfl rfl
theorem zw_619 : (.instanceMethod ⟨"HeldCoats$Tape", "refuse", "(I)Z"⟩ : Cond) ∈ zTB := z_mem zc_3 139 rfl rfl
theorem zw_620 : (.selects "HeldCoats$Tape" ⟨"HeldCoats$Tape", "refuse", "(I)Z"⟩ ⟨"HeldCoats$Tape", "refuse", "(I)Z"⟩ : Cond) ∈ zTB := z_mem zc_3 140 rfl rfl
theorem zw_621 : (.code ⟨"HeldCoats$Tape", "refuse", "(I)Z"⟩ prog_12_method_10_code 2 (some .boolean) : Cond) ∈ zTB := z_mem zc_3 141 rfl rfl
theorem zw_673 : (.instanceMethod ⟨"HeldCoats$Tape", "isSign", "(I)Z"⟩ : Cond) ∈ zTB := z_mem zc_3 193 rfl rfl
theorem zw_674 : (.selects "HeldCoats$Tape" ⟨"HeldCoats$Tape", "isSign", "(I)Z"⟩ ⟨"HeldCoats$Tape", "isSign", "(I)Z"⟩ : Cond) ∈ zTB := z_mem zc_3 194 rfl rfl
theorem zw_675 : (.code ⟨"HeldCoats$Tape", "isSign", "(I)Z"⟩ prog_12_method_13_code 2 (some .boolean) : Cond) ∈ zTB := z_mem zc_3 195 rfl rfl
theorem zw_676 : (.methodLink "HeldCoats$LawReader" 49 ⟨"HeldCoats$Tape", "isOver", "()Z"⟩ : Cond) ∈ zTB := z_mem zc_3 196 rfl rfl
theorem zw_677 : (.instanceMethod ⟨"HeldCoats$Tape", "isOver", "()Z"⟩ : Cond) ∈ zTB := z_mem zc_3 197 rfl rfl
theorem zw_678 : (.selects "HeldCoats$Tape" ⟨"HeldCoats$Tape", "isOver", "()Z"⟩ ⟨"HeldCoats$Tape", "isOver", "()Z"⟩ : Cond) ∈ zTB := z_mem zc_3 198 rfl rfl
theorem zw_679 : (.code ⟨"HeldCoats$Tape", "isOver", "()Z"⟩ prog_12_method_11_code 1 (some .boolean) : Cond) ∈ zTB := z_mem zc_3 199 rfl rfl
theorem zw_680 : (.methodLink "HeldCoats" 97 ⟨"HeldCoats", "closeTape", "()V"⟩ : Cond) ∈ zTB := z_mem zc_3 200 rfl rfl
theorem zw_682 : (.instanceMethod ⟨"HeldCoats", "closeTape", "()V"⟩ : Cond) ∈ zTB := z_mem zc_3 202 rfl rfl
theorem zw_683 : (.code ⟨"HeldCoats", "closeTape", "()V"⟩ prog_1_method_43_code 1 none : Cond) ∈ zTB := z_mem zc_3 203 rfl rfl
theorem zw_684 : (.methodLink "HeldCoats" 106 ⟨"HeldCoats$Law", "copyFrom", "(LHeldCoats$Law;)V"⟩ : Cond) ∈ zTB := z_mem zc_3 204 rfl rfl
theorem zw_685 : (.instanceMethod ⟨"HeldCoats$Law", "copyFrom", "(LHeldCoats$Law;)V"⟩ : Cond) ∈ zTB := z_mem zc_3 205 rfl rfl
theorem zw_686 : (.selects "HeldCoats$Law" ⟨"HeldCoats$Law", "copyFrom", "(LHeldCoats$Law;)V"⟩ ⟨"HeldCoats$Law", "copyFrom", "(LHeldCoats$Law;)V"⟩ : Cond) ∈ zTB := z_mem zc_3 206 rfl rfl
theorem zw_687 : (.code ⟨"HeldCoats$Law", "copyFrom", "(LHeldCoats$Law;)V"⟩ prog_5_method_3_code 2 none : Cond) ∈ zTB := z_mem zc_3 207 rfl rfl
theorem zw_688 : (.methodLink "HeldCoats$Law" 69 ⟨"java/lang/System", "arraycopy", "(Ljava/lang/Object;ILjava/lang/Object;II)V"⟩ : Cond) ∈ zTB := z_mem zc_3 208 rfl rfl
theorem zw_689 : (.static ⟨"java/lang/System", "arraycopy", "(Ljava/lang/Object;ILjava/lang/Object;II)V"⟩ : Cond) ∈ zTB := z_mem zc_3 209 rfl rfl
theorem zw_690 : (.native ⟨"java/lang/System", "arraycopy", "(Ljava/lang/Object;ILjava/lang/Object;II)V"⟩ : Cond) ∈ zTB := z_mem zc_3 210 rfl rfl
theorem zw_691 : (.methodLink "HeldCoats$Law" 75 ⟨"HeldCoats$Names", "copyFrom", "(LHeldCoats$Names;)V"⟩ : Cond) ∈ zTB := z_mem zc_3 211 rfl rfl
theorem zw_692 : (.instanceMethod ⟨"HeldCoats$Names", "copyFrom", "(LHeldCoats$Names;)V"⟩ : Cond) ∈ zTB := z_mem zc_3 212 rfl rfl
theorem zw_693 : (.selects "HeldCoats$Names" ⟨"HeldCoats$Names", "copyFrom", "(LHeldCoats$Names;)V"⟩ ⟨"HeldCoats$Names", "copyFrom", "(LHeldCoats$Names;)V"⟩ : Cond) ∈ zTB := z_mem zc_3 213 rfl rfl
theorem zw_694 : (.code ⟨"HeldCoats$Names", "copyFrom", "(LHeldCoats$Names;)V"⟩ prog_7_method_3_code 2 none : Cond) ∈ zTB := z_mem zc_3 214 rfl rfl
theorem zw_695 : (.methodLink "HeldCoats$Names" 26 ⟨"java/lang/System", "arraycopy", "(Ljava/lang/Object;ILjava/lang/Object;II)V"⟩ : Cond) ∈ zTB := z_mem zc_3 215 rfl rfl
theorem zw_696 : (.methodLink "HeldCoats" 109 ⟨"HeldCoats$State", "begin", "()V"⟩ : Cond) ∈ zTB := z_mem zc_3 216 rfl rfl
theorem zw_697 : (.instanceMethod ⟨"HeldCoats$State", "begin", "()V"⟩ : Cond) ∈ zTB := z_mem zc_3 217 rfl rfl
theorem zw_698 : (.selects "HeldCoats$State" ⟨"HeldCoats$State", "begin", "()V"⟩ ⟨"HeldCoats$State", "begin", "()V"⟩ : Cond) ∈ zTB := z_mem zc_3 218 rfl rfl
theorem zw_699 : (.code ⟨"HeldCoats$State", "begin", "()V"⟩ prog_11_method_2_code 2 none : Cond) ∈ zTB := z_mem zc_3 219 rfl rfl
theorem zw_700 : (.methodLink "HeldCoats$State" 64 ⟨"java/util/Arrays", "fill", "([II)V"⟩ : Cond) ∈ zTB := z_mem zc_3 220 rfl rfl
theorem zw_701 : (.static ⟨"java/util/Arrays", "fill", "([II)V"⟩ : Cond) ∈ zTB := z_mem zc_3 221 rfl rfl
theorem zw_702 : (.code ⟨"java/util/Arrays", "fill", "([II)V"⟩ prog_29_method_103_code 4 none : Cond) ∈ zTB := z_mem zc_3 222 rfl rfl
theorem zw_703 : (.methodLink "HeldCoats" 112 ⟨"HeldCoats$Sentence", "clear", "()V"⟩ : Cond) ∈ zTB := z_mem zc_3 223 rfl rfl
theorem zw_704 : (.instanceMethod ⟨"HeldCoats$Sentence", "clear", "()V"⟩ : Cond) ∈ zTB := z_mem zc_3 224 rfl rfl
theorem zw_705 : (.selects "HeldCoats$Sentence" ⟨"HeldCoats$Sentence", "clear", "()V"⟩ ⟨"HeldCoats$Sentence", "clear", "()V"⟩ : Cond) ∈ zTB := z_mem zc_3 225 rfl rfl
theorem zw_706 : (.code ⟨"HeldCoats$Sentence", "clear", "()V"⟩ prog_9_method_2_code 1 none : Cond) ∈ zTB := z_mem zc_3 226 rfl rfl
theorem zw_707 : (.methodLink "HeldCoats" 115 ⟨"HeldCoats$Past", "clear", "()V"⟩ : Cond) ∈ zTB := z_mem zc_3 227 rfl rfl
theorem zw_708 : (.instanceMethod ⟨"HeldCoats$Past", "clear", "()V"⟩ : Cond) ∈ zTB := z_mem zc_3 228 rfl rfl
theorem zw_709 : (.selects "HeldCoats$Past" ⟨"HeldCoats$Past", "clear", "()V"⟩ ⟨"HeldCoats$Past", "clear", "()V"⟩ : Cond) ∈ zTB := z_mem zc_3 229 rfl rfl
theorem zw_710 : (.code ⟨"HeldCoats$Past", "clear", "()V"⟩ prog_8_method_2_code 1 none : Cond) ∈ zTB := z_mem zc_3 230 rfl rfl
theorem zw_711 : (.methodLink "HeldCoatsLaw" 37 ⟨"HeldCoats", "fault", "()I"⟩ : Cond) ∈ zTB := z_mem zc_3 231 rfl rfl
theorem zw_712 : (.instanceMethod ⟨"HeldCoats", "fault", "()I"⟩ : Cond) ∈ zTB := z_mem zc_3 232 rfl rfl
theorem zw_713 : (.selects "HeldCoats" ⟨"HeldCoats", "fault", "()I"⟩ ⟨"HeldCoats", "fault", "()I"⟩ : Cond) ∈ zTB := z_mem zc_3 233 rfl rfl
theorem zw_714 : (.code ⟨"HeldCoats", "fault", "()I"⟩ prog_1_method_5_code 1 (some .int) : Cond) ∈ zTB := z_mem zc_3 234 rfl rfl
theorem zw_715 : (.methodLink "HeldCoatsLaw" 41 ⟨"HeldCoats", "seat", "(II)I"⟩ : Cond) ∈ zTB := z_mem zc_3 235 rfl rfl
theorem zw_716 : (.instanceMethod ⟨"HeldCoats", "seat", "(II)I"⟩ : Cond) ∈ zTB := z_mem zc_3 236 rfl rfl
theorem zw_717 : (.selects "HeldCoats" ⟨"HeldCoats", "seat", "(II)I"⟩ ⟨"HeldCoats", "seat", "(II)I"⟩ : Cond) ∈ zTB := z_mem zc_3 237 rfl rfl
theorem zw_718 : (.code ⟨"HeldCoats", "seat", "(II)I"⟩ prog_1_method_6_code 3 (some .int) : Cond) ∈ zTB := z_mem zc_3 238 rfl rfl
theorem zw_719 : (.methodLink "HeldCoats" 122 ⟨"HeldCoats$Law", "hasSeat", "(I)Z"⟩ : Cond) ∈ zTB := z_mem zc_3 239 rfl rfl
theorem zw_720 : (.instanceMethod ⟨"HeldCoats$Law", "hasSeat", "(I)Z"⟩ : Cond) ∈ zTB := z_mem zc_4 0 rfl rfl
theorem zw_721 : (.selects "HeldCoats$Law" ⟨"HeldCoats$Law", "hasSeat", "(I)Z"⟩ ⟨"HeldCoats$Law", "hasSeat", "(I)Z"⟩ : Cond) ∈ zTB := z_mem zc_4 1 rfl rfl
theorem zw_722 : (.code ⟨"HeldCoats$Law", "hasSeat", "(I)Z"⟩ prog_5_method_4_code 2 (some .boolean) : Cond) ∈ zTB := z_mem zc_4 2 rfl rfl
theorem zw_732 : (.methodLink "HeldCoats$State" 86 ⟨"HeldCoats$Law", "isSummer", "(I)Z"⟩ : Cond) ∈ zTB := z_mem zc_4 12 rfl rfl
theorem zw_733 : (.instanceMethod ⟨"HeldCoats$Law", "isSummer", "(I)Z"⟩ : Cond) ∈ zTB := z_mem zc_4 13 rfl rfl
theorem zw_734 : (.selects "HeldCoats$Law" ⟨"HeldCoats$Law", "isSummer", "(I)Z"⟩ ⟨"HeldCoats$Law", "isSummer", "(I)Z"⟩ : Cond) ∈ zTB := z_mem zc_4 14 rfl rfl
theorem zw_735 : (.code ⟨"HeldCoats$Law", "isSummer", "(I)Z"⟩ prog_5_method_9_code 2 (some .boolean) : Cond) ∈ zTB := z_mem zc_4 15 rfl rfl
theorem zw_736 : (.methodLink "HeldCoats$Law" 79 ⟨"HeldCoats$Law", "coldOn", "(I)I"⟩ : Cond) ∈ zTB := z_mem zc_4 16 rfl rfl
theorem zw_737 : (.instanceMethod ⟨"HeldCoats$Law", "coldOn", "(I)I"⟩ : Cond) ∈ zTB := z_mem zc_4 17 rfl rfl
theorem zw_738 : (.selects "HeldCoats$Law" ⟨"HeldCoats$Law", "coldOn", "(I)I"⟩ ⟨"HeldCoats$Law", "coldOn", "(I)I"⟩ : Cond) ∈ zTB := z_mem zc_4 18 rfl rfl
theorem zw_739 : (.code ⟨"HeldCoats$Law", "coldOn", "(I)I"⟩ prog_5_method_8_code 5 (some .int) : Cond) ∈ zTB := z_mem zc_4 19 rfl rfl
theorem zw_744 : (.methodLink "HeldCoatsLaw" 57 ⟨"HeldCoats", "now", "(I)I"⟩ : Cond) ∈ zTB := z_mem zc_4 24 rfl rfl
theorem zw_745 : (.instanceMethod ⟨"HeldCoats", "now", "(I)I"⟩ : Cond) ∈ zTB := z_mem zc_4 25 rfl rfl
theorem zw_746 : (.selects "HeldCoats" ⟨"HeldCoats", "now", "(I)I"⟩ ⟨"HeldCoats", "now", "(I)I"⟩ : Cond) ∈ zTB := z_mem zc_4 26 rfl rfl
theorem zw_747 : (.code ⟨"HeldCoats", "now", "(I)I"⟩ prog_1_method_9_code 2 (some .int) : Cond) ∈ zTB := z_mem zc_4 27 rfl rfl
theorem zw_748 : (.methodLink "HeldCoats" 191 ⟨"HeldCoats$Law", "coldOn", "(I)I"⟩ : Cond) ∈ zTB := z_mem zc_4 28 rfl rfl
theorem zw_749 : (.methodLink "HeldCoats" 194 ⟨"HeldCoats$Law", "isSummer", "(I)Z"⟩ : Cond) ∈ zTB := z_mem zc_4 29 rfl rfl
theorem zw_750 : (.methodLink "HeldCoats" 197 ⟨"HeldCoats$State", "ruler", "()I"⟩ : Cond) ∈ zTB := z_mem zc_4 30 rfl rfl
theorem zw_751 : (.instanceMethod ⟨"HeldCoats$State", "ruler", "()I"⟩ : Cond) ∈ zTB := z_mem zc_4 31 rfl rfl
theorem zw_752 : (.selects "HeldCoats$State" ⟨"HeldCoats$State", "ruler", "()I"⟩ ⟨"HeldCoats$State", "ruler", "()I"⟩ : Cond) ∈ zTB := z_mem zc_4 32 rfl rfl
theorem zw_753 : (.code ⟨"HeldCoats$State", "ruler", "()I"⟩ prog_11_method_20_code 1 (some .int) : Cond) ∈ zTB := z_mem zc_4 33 rfl rfl
theorem zw_754 : (.methodLink "HeldCoats$State" 120 ⟨"HeldCoats$State", "rulerWithoutSummer", "()I"⟩ : Cond) ∈ zTB := z_mem zc_4 34 rfl rfl
theorem zw_755 : (.instanceMethod ⟨"HeldCoats$State", "rulerWithoutSummer", "()I"⟩ : Cond) ∈ zTB := z_mem zc_4 35 rfl rfl
theorem zw_756 : (.selects "HeldCoats$State" ⟨"HeldCoats$State", "rulerWithoutSummer", "()I"⟩ ⟨"HeldCoats$State", "rulerWithoutSummer", "()I"⟩ : Cond) ∈ zTB := z_mem zc_4 36 rfl rfl
theorem zw_757 : (.code ⟨"HeldCoats$State", "rulerWithoutSummer", "()I"⟩ prog_11_method_19_code 4 (some .int) : Cond) ∈ zTB := z_mem zc_4 37 rfl rfl
theorem zw_762 : (.methodLink "HeldCoats" 210 ⟨"HeldCoats$State", "eaten", "()I"⟩ : Cond) ∈ zTB := z_mem zc_4 42 rfl rfl
theorem zw_763 : (.instanceMethod ⟨"HeldCoats$State", "eaten", "()I"⟩ : Cond) ∈ zTB := z_mem zc_4 43 rfl rfl
theorem zw_764 : (.selects "HeldCoats$State" ⟨"HeldCoats$State", "eaten", "()I"⟩ ⟨"HeldCoats$State", "eaten", "()I"⟩ : Cond) ∈ zTB := z_mem zc_4 44 rfl rfl
theorem zw_765 : (.code ⟨"HeldCoats$State", "eaten", "()I"⟩ prog_11_method_12_code 1 (some .int) : Cond) ∈ zTB := z_mem zc_4 45 rfl rfl
theorem zw_766 : (.methodLink "HeldCoats$State" 90 ⟨"HeldCoats$State", "coatsAt", "(I)I"⟩ : Cond) ∈ zTB := z_mem zc_4 46 rfl rfl
theorem zw_767 : (.instanceMethod ⟨"HeldCoats$State", "coatsAt", "(I)I"⟩ : Cond) ∈ zTB := z_mem zc_4 47 rfl rfl
theorem zw_768 : (.selects "HeldCoats$State" ⟨"HeldCoats$State", "coatsAt", "(I)I"⟩ ⟨"HeldCoats$State", "coatsAt", "(I)I"⟩ : Cond) ∈ zTB := z_mem zc_4 48 rfl rfl
theorem zw_769 : (.code ⟨"HeldCoats$State", "coatsAt", "(I)I"⟩ prog_11_method_10_code 4 (some .int) : Cond) ∈ zTB := z_mem zc_4 49 rfl rfl
theorem zw_770 : (.methodLink "HeldCoatsLaw" 62 ⟨"HeldCoats", "lay", "(II)I"⟩ : Cond) ∈ zTB := z_mem zc_4 50 rfl rfl
theorem zw_771 : (.instanceMethod ⟨"HeldCoats", "lay", "(II)I"⟩ : Cond) ∈ zTB := z_mem zc_4 51 rfl rfl
theorem zw_772 : (.selects "HeldCoats" ⟨"HeldCoats", "lay", "(II)I"⟩ ⟨"HeldCoats", "lay", "(II)I"⟩ : Cond) ∈ zTB := z_mem zc_4 52 rfl rfl
theorem zw_773 : (.code ⟨"HeldCoats", "lay", "(II)I"⟩ prog_1_method_10_code 3 (some .int) : Cond) ∈ zTB := z_mem zc_4 53 rfl rfl
theorem zw_774 : (.methodLink "HeldCoats" 170 ⟨"HeldCoats$Law", "hasCoat", "(I)Z"⟩ : Cond) ∈ zTB := z_mem zc_4 54 rfl rfl
theorem zw_775 : (.instanceMethod ⟨"HeldCoats$Law", "hasCoat", "(I)Z"⟩ : Cond) ∈ zTB := z_mem zc_4 55 rfl rfl
theorem zw_776 : (.selects "HeldCoats$Law" ⟨"HeldCoats$Law", "hasCoat", "(I)Z"⟩ ⟨"HeldCoats$Law", "hasCoat", "(I)Z"⟩ : Cond) ∈ zTB := z_mem zc_4 56 rfl rfl
theorem zw_777 : (.code ⟨"HeldCoats$Law", "hasCoat", "(I)Z"⟩ prog_5_method_6_code 2 (some .boolean) : Cond) ∈ zTB := z_mem zc_4 57 rfl rfl
theorem zw_778 : (.methodLink "HeldCoats" 213 ⟨"HeldCoats$Past", "mark", "(LHeldCoats$State;)V"⟩ : Cond) ∈ zTB := z_mem zc_4 58 rfl rfl
theorem zw_779 : (.instanceMethod ⟨"HeldCoats$Past", "mark", "(LHeldCoats$State;)V"⟩ : Cond) ∈ zTB := z_mem zc_4 59 rfl rfl
theorem zw_780 : (.selects "HeldCoats$Past" ⟨"HeldCoats$Past", "mark", "(LHeldCoats$State;)V"⟩ ⟨"HeldCoats$Past", "mark", "(LHeldCoats$State;)V"⟩ : Cond) ∈ zTB := z_mem zc_4 60 rfl rfl
theorem zw_781 : (.code ⟨"HeldCoats$Past", "mark", "(LHeldCoats$State;)V"⟩ prog_8_method_3_code 2 none : Cond) ∈ zTB := z_mem zc_4 61 rfl rfl
theorem zw_782 : (.methodLink "HeldCoats$Past" 27 ⟨"HeldCoats$State", "copyFrom", "(LHeldCoats$State;)V"⟩ : Cond) ∈ zTB := z_mem zc_4 62 rfl rfl
theorem zw_783 : (.instanceMethod ⟨"HeldCoats$State", "copyFrom", "(LHeldCoats$State;)V"⟩ : Cond) ∈ zTB := z_mem zc_4 63 rfl rfl
theorem zw_784 : (.selects "HeldCoats$State" ⟨"HeldCoats$State", "copyFrom", "(LHeldCoats$State;)V"⟩ ⟨"HeldCoats$State", "copyFrom", "(LHeldCoats$State;)V"⟩ : Cond) ∈ zTB := z_mem zc_4 64 rfl rfl
theorem zw_785 : (.code ⟨"HeldCoats$State", "copyFrom", "(LHeldCoats$State;)V"⟩ prog_11_method_3_code 2 none : Cond) ∈ zTB := z_mem zc_4 65 rfl rfl
theorem zw_786 : (.methodLink "HeldCoats$State" 70 ⟨"java/lang/System", "arraycopy", "(Ljava/lang/Object;ILjava/lang/Object;II)V"⟩ : Cond) ∈ zTB := z_mem zc_4 66 rfl rfl
theorem zw_799 : (.methodLink "HeldCoats" 332 ⟨"HeldCoats$Past", "hold", "()V"⟩ : Cond) ∈ zTB := z_mem zc_4 79 rfl rfl
theorem zw_800 : (.instanceMethod ⟨"HeldCoats$Past", "hold", "()V"⟩ : Cond) ∈ zTB := z_mem zc_4 80 rfl rfl
theorem zw_801 : (.selects "HeldCoats$Past" ⟨"HeldCoats$Past", "hold", "()V"⟩ ⟨"HeldCoats$Past", "hold", "()V"⟩ : Cond) ∈ zTB := z_mem zc_4 81 rfl rfl
theorem zw_802 : (.code ⟨"HeldCoats$Past", "hold", "()V"⟩ prog_8_method_4_code 1 none : Cond) ∈ zTB := z_mem zc_4 82 rfl rfl
theorem zw_803 : (.methodLink "HeldCoats$Past" 31 ⟨"java/lang/Math", "min", "(II)I"⟩ : Cond) ∈ zTB := z_mem zc_4 83 rfl rfl
theorem zw_804 : (.static ⟨"java/lang/Math", "min", "(II)I"⟩ : Cond) ∈ zTB := z_mem zc_4 84 rfl rfl
theorem zw_805 : (.code Lib.Math.min.name Lib.Math.min.code 2 (some .int) : Cond) ∈ zTB := z_mem zc_4 85 rfl rfl
theorem zw_806 : (.methodLink "HeldCoatsLaw" 66 ⟨"HeldCoats", "wear", "(II)I"⟩ : Cond) ∈ zTB := z_mem zc_4 86 rfl rfl
theorem zw_807 : (.instanceMethod ⟨"HeldCoats", "wear", "(II)I"⟩ : Cond) ∈ zTB := z_mem zc_4 87 rfl rfl
theorem zw_808 : (.selects "HeldCoats" ⟨"HeldCoats", "wear", "(II)I"⟩ ⟨"HeldCoats", "wear", "(II)I"⟩ : Cond) ∈ zTB := z_mem zc_4 88 rfl rfl
theorem zw_809 : (.code ⟨"HeldCoats", "wear", "(II)I"⟩ prog_1_method_11_code 3 (some .int) : Cond) ∈ zTB := z_mem zc_4 89 rfl rfl
theorem zw_810 : (.methodLink "HeldCoats" 140 ⟨"HeldCoats$Law", "hasMan", "(I)Z"⟩ : Cond) ∈ zTB := z_mem zc_4 90 rfl rfl
theorem zw_811 : (.instanceMethod ⟨"HeldCoats$Law", "hasMan", "(I)Z"⟩ : Cond) ∈ zTB := z_mem zc_4 91 rfl rfl
theorem zw_812 : (.selects "HeldCoats$Law" ⟨"HeldCoats$Law", "hasMan", "(I)Z"⟩ ⟨"HeldCoats$Law", "hasMan", "(I)Z"⟩ : Cond) ∈ zTB := z_mem zc_4 92 rfl rfl
theorem zw_813 : (.code ⟨"HeldCoats$Law", "hasMan", "(I)Z"⟩ prog_5_method_5_code 2 (some .boolean) : Cond) ∈ zTB := z_mem zc_4 93 rfl rfl
theorem zw_826 : (.methodLink "HeldCoatsLaw" 70 ⟨"HeldCoats", "lend", "(II)I"⟩ : Cond) ∈ zTB := z_mem zc_4 106 rfl rfl
theorem zw_827 : (.instanceMethod ⟨"HeldCoats", "lend", "(II)I"⟩ : Cond) ∈ zTB := z_mem zc_4 107 rfl rfl
theorem zw_828 : (.selects "HeldCoats" ⟨"HeldCoats", "lend", "(II)I"⟩ ⟨"HeldCoats", "lend", "(II)I"⟩ : Cond) ∈ zTB := z_mem zc_4 108 rfl rfl
theorem zw_829 : (.code ⟨"HeldCoats", "lend", "(II)I"⟩ prog_1_method_12_code 3 (some .int) : Cond) ∈ zTB := z_mem zc_4 109 rfl rfl
theorem zw_834 : (.methodLink "HeldCoatsLaw" 74 ⟨"HeldCoats", "keep", "(I)I"⟩ : Cond) ∈ zTB := z_mem zc_4 114 rfl rfl
theorem zw_835 : (.instanceMethod ⟨"HeldCoats", "keep", "(I)I"⟩ : Cond) ∈ zTB := z_mem zc_4 115 rfl rfl
theorem zw_836 : (.selects "HeldCoats" ⟨"HeldCoats", "keep", "(I)I"⟩ ⟨"HeldCoats", "keep", "(I)I"⟩ : Cond) ∈ zTB := z_mem zc_4 116 rfl rfl
theorem zw_837 : (.code ⟨"HeldCoats", "keep", "(I)I"⟩ prog_1_method_13_code 2 (some .int) : Cond) ∈ zTB := z_mem zc_4 117 rfl rfl
theorem zw_846 : (.methodLink "HeldCoatsLaw" 78 ⟨"HeldCoats", "days", "(I)I"⟩ : Cond) ∈ zTB := z_mem zc_4 126 rfl rfl
theorem zw_847 : (.instanceMethod ⟨"HeldCoats", "days", "(I)I"⟩ : Cond) ∈ zTB := z_mem zc_4 127 rfl rfl
theorem zw_848 : (.selects "HeldCoats" ⟨"HeldCoats", "days", "(I)I"⟩ ⟨"HeldCoats", "days", "(I)I"⟩ : Cond) ∈ zTB := z_mem zc_4 128 rfl rfl
theorem zw_849 : (.code ⟨"HeldCoats", "days", "(I)I"⟩ prog_1_method_14_code 2 (some .int) : Cond) ∈ zTB := z_mem zc_4 129 rfl rfl
theorem zw_850 : (.methodLink "HeldCoats" 233 ⟨"HeldCoats", "isDays", "(I)Z"⟩ : Cond) ∈ zTB := z_mem zc_4 130 rfl rfl
theorem zw_851 : (.static ⟨"HeldCoats", "isDays", "(I)Z"⟩ : Cond) ∈ zTB := z_mem zc_4 131 rfl rfl
theorem zw_852 : (.code ⟨"HeldCoats", "isDays", "(I)Z"⟩ prog_1_method_46_code 1 (some .boolean) : Cond) ∈ zTB := z_mem zc_4 132 rfl rfl
theorem zw_853 : (.methodLink "HeldCoats" 236 ⟨"HeldCoats$State", "passDays", "(I)I"⟩ : Cond) ∈ zTB := z_mem zc_4 133 rfl rfl
theorem zw_854 : (.instanceMethod ⟨"HeldCoats$State", "passDays", "(I)I"⟩ : Cond) ∈ zTB := z_mem zc_4 134 rfl rfl
theorem zw_855 : (.selects "HeldCoats$State" ⟨"HeldCoats$State", "passDays", "(I)I"⟩ ⟨"HeldCoats$State", "passDays", "(I)I"⟩ : Cond) ∈ zTB := z_mem zc_4 135 rfl rfl
theorem zw_856 : (.code ⟨"HeldCoats$State", "passDays", "(I)I"⟩ prog_11_method_29_code 4 (some .int) : Cond) ∈ zTB := z_mem zc_4 136 rfl rfl
theorem zw_857 : (.methodLink "HeldCoats$State" 140 ⟨"HeldCoats$State", "daysLeftOf", "(I)I"⟩ : Cond) ∈ zTB := z_mem zc_4 137 rfl rfl
theorem zw_858 : (.instanceMethod ⟨"HeldCoats$State", "daysLeftOf", "(I)I"⟩ : Cond) ∈ zTB := z_mem zc_4 138 rfl rfl
theorem zw_859 : (.selects "HeldCoats$State" ⟨"HeldCoats$State", "daysLeftOf", "(I)I"⟩ ⟨"HeldCoats$State", "daysLeftOf", "(I)I"⟩ : Cond) ∈ zTB := z_mem zc_4 139 rfl rfl
theorem zw_860 : (.code ⟨"HeldCoats$State", "daysLeftOf", "(I)I"⟩ prog_11_method_28_code 2 (some .int) : Cond) ∈ zTB := z_mem zc_4 140 rfl rfl
theorem zw_861 : (.methodLink "HeldCoats$State" 137 ⟨"java/lang/Math", "min", "(II)I"⟩ : Cond) ∈ zTB := z_mem zc_4 141 rfl rfl
theorem zw_862 : (.methodLink "HeldCoats$State" 143 ⟨"HeldCoats$State", "passDay", "()I"⟩ : Cond) ∈ zTB := z_mem zc_4 142 rfl rfl
theorem zw_863 : (.instanceMethod ⟨"HeldCoats$State", "passDay", "()I"⟩ : Cond) ∈ zTB := z_mem zc_4 143 rfl rfl
theorem zw_864 : (.selects "HeldCoats$State" ⟨"HeldCoats$State", "passDay", "()I"⟩ ⟨"HeldCoats$State", "passDay", "()I"⟩ : Cond) ∈ zTB := z_mem zc_4 144 rfl rfl
theorem zw_865 : (.code ⟨"HeldCoats$State", "passDay", "()I"⟩ prog_11_method_30_code 3 (some .int) : Cond) ∈ zTB := z_mem zc_4 145 rfl rfl
theorem zw_866 : (.methodLink "HeldCoats$State" 146 ⟨"HeldCoats$State", "ruler", "()I"⟩ : Cond) ∈ zTB := z_mem zc_4 146 rfl rfl
theorem zw_867 : (.methodLink "HeldCoats$State" 149 ⟨"HeldCoats$State", "freeze", "()V"⟩ : Cond) ∈ zTB := z_mem zc_4 147 rfl rfl
theorem zw_869 : (.instanceMethod ⟨"HeldCoats$State", "freeze", "()V"⟩ : Cond) ∈ zTB := z_mem zc_4 149 rfl rfl
theorem zw_870 : (.code ⟨"HeldCoats$State", "freeze", "()V"⟩ prog_11_method_31_code 3 none : Cond) ∈ zTB := z_mem zc_4 150 rfl rfl
theorem zw_871 : (.methodLink "HeldCoats$State" 102 ⟨"HeldCoats$Law", "coldOn", "(I)I"⟩ : Cond) ∈ zTB := z_mem zc_4 151 rfl rfl
theorem zw_879 : (.methodLink "HeldCoats" 239 ⟨"HeldCoats", "undoableIfAny", "(I)I"⟩ : Cond) ∈ zTB := z_mem zc_4 159 rfl rfl
theorem zw_881 : (.instanceMethod ⟨"HeldCoats", "undoableIfAny", "(I)I"⟩ : Cond) ∈ zTB := z_mem zc_4 161 rfl rfl
theorem zw_882 : (.code ⟨"HeldCoats", "undoableIfAny", "(I)I"⟩ prog_1_method_45_code 2 (some .int) : Cond) ∈ zTB := z_mem zc_4 162 rfl rfl
theorem zw_883 : (.methodLink "HeldCoatsLaw" 82 ⟨"HeldCoats", "undo", "()I"⟩ : Cond) ∈ zTB := z_mem zc_4 163 rfl rfl
theorem zw_884 : (.instanceMethod ⟨"HeldCoats", "undo", "()I"⟩ : Cond) ∈ zTB := z_mem zc_4 164 rfl rfl
theorem zw_885 : (.selects "HeldCoats" ⟨"HeldCoats", "undo", "()I"⟩ ⟨"HeldCoats", "undo", "()I"⟩ : Cond) ∈ zTB := z_mem zc_4 165 rfl rfl
theorem zw_886 : (.code ⟨"HeldCoats", "undo", "()I"⟩ prog_1_method_15_code 1 (some .int) : Cond) ∈ zTB := z_mem zc_4 166 rfl rfl
theorem zw_887 : (.methodLink "HeldCoats" 242 ⟨"HeldCoats$Past", "takeBack", "(LHeldCoats$State;)Z"⟩ : Cond) ∈ zTB := z_mem zc_4 167 rfl rfl
theorem zw_888 : (.instanceMethod ⟨"HeldCoats$Past", "takeBack", "(LHeldCoats$State;)Z"⟩ : Cond) ∈ zTB := z_mem zc_4 168 rfl rfl
theorem zw_889 : (.selects "HeldCoats$Past" ⟨"HeldCoats$Past", "takeBack", "(LHeldCoats$State;)Z"⟩ ⟨"HeldCoats$Past", "takeBack", "(LHeldCoats$State;)Z"⟩ : Cond) ∈ zTB := z_mem zc_4 169 rfl rfl
theorem zw_890 : (.code ⟨"HeldCoats$Past", "takeBack", "(LHeldCoats$State;)Z"⟩ prog_8_method_5_code 2 (some .boolean) : Cond) ∈ zTB := z_mem zc_4 170 rfl rfl
theorem zw_891 : (.methodLink "HeldCoatsLaw" 86 ⟨"HeldCoats", "best", "(II)I"⟩ : Cond) ∈ zTB := z_mem zc_4 171 rfl rfl
theorem zw_892 : (.instanceMethod ⟨"HeldCoats", "best", "(II)I"⟩ : Cond) ∈ zTB := z_mem zc_4 172 rfl rfl
theorem zw_893 : (.selects "HeldCoats" ⟨"HeldCoats", "best", "(II)I"⟩ ⟨"HeldCoats", "best", "(II)I"⟩ : Cond) ∈ zTB := z_mem zc_4 173 rfl rfl
theorem zw_894 : (.code ⟨"HeldCoats", "best", "(II)I"⟩ prog_1_method_16_code 3 (some .int) : Cond) ∈ zTB := z_mem zc_4 174 rfl rfl
theorem zw_928 : (.methodLink "HeldCoatsLaw" 90 ⟨"HeldCoats", "laid", "()I"⟩ : Cond) ∈ zTB := z_mem zc_4 208 rfl rfl
theorem zw_929 : (.instanceMethod ⟨"HeldCoats", "laid", "()I"⟩ : Cond) ∈ zTB := z_mem zc_4 209 rfl rfl
theorem zw_930 : (.selects "HeldCoats" ⟨"HeldCoats", "laid", "()I"⟩ ⟨"HeldCoats", "laid", "()I"⟩ : Cond) ∈ zTB := z_mem zc_4 210 rfl rfl
theorem zw_931 : (.code ⟨"HeldCoats", "laid", "()I"⟩ prog_1_method_17_code 1 (some .int) : Cond) ∈ zTB := z_mem zc_4 211 rfl rfl
theorem zw_932 : (.methodLink "HeldCoatsLaw" 94 ⟨"HeldCoats", "share", "(IIII)I"⟩ : Cond) ∈ zTB := z_mem zc_4 212 rfl rfl
theorem zw_933 : (.instanceMethod ⟨"HeldCoats", "share", "(IIII)I"⟩ : Cond) ∈ zTB := z_mem zc_4 213 rfl rfl
theorem zw_934 : (.selects "HeldCoats" ⟨"HeldCoats", "share", "(IIII)I"⟩ ⟨"HeldCoats", "share", "(IIII)I"⟩ : Cond) ∈ zTB := z_mem zc_4 214 rfl rfl
theorem zw_935 : (.code ⟨"HeldCoats", "share", "(IIII)I"⟩ prog_1_method_18_code 5 (some .int) : Cond) ∈ zTB := z_mem zc_4 215 rfl rfl
theorem zw_941 : (.methodLink "HeldCoatsLaw" 99 ⟨"HeldCoats", "turns", "()I"⟩ : Cond) ∈ zTB := z_mem zc_4 221 rfl rfl
theorem zw_942 : (.instanceMethod ⟨"HeldCoats", "turns", "()I"⟩ : Cond) ∈ zTB := z_mem zc_4 222 rfl rfl
theorem zw_943 : (.selects "HeldCoats" ⟨"HeldCoats", "turns", "()I"⟩ ⟨"HeldCoats", "turns", "()I"⟩ : Cond) ∈ zTB := z_mem zc_4 223 rfl rfl
theorem zw_944 : (.code ⟨"HeldCoats", "turns", "()I"⟩ prog_1_method_19_code 1 (some .int) : Cond) ∈ zTB := z_mem zc_4 224 rfl rfl
theorem zw_945 : (.methodLink "HeldCoatsLaw" 103 ⟨"HeldCoats", "ahead", "(I)I"⟩ : Cond) ∈ zTB := z_mem zc_4 225 rfl rfl
theorem zw_946 : (.instanceMethod ⟨"HeldCoats", "ahead", "(I)I"⟩ : Cond) ∈ zTB := z_mem zc_4 226 rfl rfl
theorem zw_947 : (.selects "HeldCoats" ⟨"HeldCoats", "ahead", "(I)I"⟩ ⟨"HeldCoats", "ahead", "(I)I"⟩ : Cond) ∈ zTB := z_mem zc_4 227 rfl rfl
theorem zw_948 : (.code ⟨"HeldCoats", "ahead", "(I)I"⟩ prog_1_method_20_code 2 (some .int) : Cond) ∈ zTB := z_mem zc_4 228 rfl rfl
theorem zw_950 : (.methodLink "HeldCoatsLaw" 107 ⟨"HeldCoats", "queue", "(I)I"⟩ : Cond) ∈ zTB := z_mem zc_4 230 rfl rfl
theorem zw_951 : (.instanceMethod ⟨"HeldCoats", "queue", "(I)I"⟩ : Cond) ∈ zTB := z_mem zc_4 231 rfl rfl
theorem zw_952 : (.selects "HeldCoats" ⟨"HeldCoats", "queue", "(I)I"⟩ ⟨"HeldCoats", "queue", "(I)I"⟩ : Cond) ∈ zTB := z_mem zc_4 232 rfl rfl
theorem zw_953 : (.code ⟨"HeldCoats", "queue", "(I)I"⟩ prog_1_method_21_code 2 (some .int) : Cond) ∈ zTB := z_mem zc_4 233 rfl rfl
theorem zw_954 : (.methodLink "HeldCoatsLaw" 111 ⟨"HeldCoats", "bribes", "(I)I"⟩ : Cond) ∈ zTB := z_mem zc_4 234 rfl rfl
theorem zw_955 : (.instanceMethod ⟨"HeldCoats", "bribes", "(I)I"⟩ : Cond) ∈ zTB := z_mem zc_4 235 rfl rfl
theorem zw_956 : (.selects "HeldCoats" ⟨"HeldCoats", "bribes", "(I)I"⟩ ⟨"HeldCoats", "bribes", "(I)I"⟩ : Cond) ∈ zTB := z_mem zc_4 236 rfl rfl
theorem zw_957 : (.code ⟨"HeldCoats", "bribes", "(I)I"⟩ prog_1_method_22_code 2 (some .int) : Cond) ∈ zTB := z_mem zc_4 237 rfl rfl
theorem zw_958 : (.methodLink "HeldCoats" 266 ⟨"HeldCoats$State", "inCloakroom", "()I"⟩ : Cond) ∈ zTB := z_mem zc_4 238 rfl rfl
theorem zw_959 : (.instanceMethod ⟨"HeldCoats$State", "inCloakroom", "()I"⟩ : Cond) ∈ zTB := z_mem zc_4 239 rfl rfl
theorem zw_960 : (.selects "HeldCoats$State" ⟨"HeldCoats$State", "inCloakroom", "()I"⟩ ⟨"HeldCoats$State", "inCloakroom", "()I"⟩ : Cond) ∈ zTB := z_mem zc_5 0 rfl rfl
theorem zw_961 : (.code ⟨"HeldCoats$State", "inCloakroom", "()I"⟩ prog_11_method_13_code 1 (some .int) : Cond) ∈ zTB := z_mem zc_5 1 rfl rfl
theorem zw_962 : (.methodLink "HeldCoats" 269 ⟨"HeldCoats$Counsel", "fewestBribes", "(I)I"⟩ : Cond) ∈ zTB := z_mem zc_5 2 rfl rfl
theorem zw_963 : (.instanceMethod ⟨"HeldCoats$Counsel", "fewestBribes", "(I)I"⟩ : Cond) ∈ zTB := z_mem zc_5 3 rfl rfl
theorem zw_964 : (.selects "HeldCoats$Counsel" ⟨"HeldCoats$Counsel", "fewestBribes", "(I)I"⟩ ⟨"HeldCoats$Counsel", "fewestBribes", "(I)I"⟩ : Cond) ∈ zTB := z_mem zc_5 4 rfl rfl
theorem zw_965 : (.code ⟨"HeldCoats$Counsel", "fewestBribes", "(I)I"⟩ prog_3_method_7_code 5 (some .int) : Cond) ∈ zTB := z_mem zc_5 5 rfl rfl
theorem zw_966 : (.methodLink "HeldCoatsLaw" 115 ⟨"HeldCoats", "frost", "(II)I"⟩ : Cond) ∈ zTB := z_mem zc_5 6 rfl rfl
theorem zw_967 : (.instanceMethod ⟨"HeldCoats", "frost", "(II)I"⟩ : Cond) ∈ zTB := z_mem zc_5 7 rfl rfl
theorem zw_968 : (.selects "HeldCoats" ⟨"HeldCoats", "frost", "(II)I"⟩ ⟨"HeldCoats", "frost", "(II)I"⟩ : Cond) ∈ zTB := z_mem zc_5 8 rfl rfl
theorem zw_969 : (.code ⟨"HeldCoats", "frost", "(II)I"⟩ prog_1_method_23_code 3 (some .int) : Cond) ∈ zTB := z_mem zc_5 9 rfl rfl
theorem zw_974 : (.methodLink "HeldCoatsLaw" 119 ⟨"HeldCoats", "frostAt", "(II)I"⟩ : Cond) ∈ zTB := z_mem zc_5 14 rfl rfl
theorem zw_975 : (.instanceMethod ⟨"HeldCoats", "frostAt", "(II)I"⟩ : Cond) ∈ zTB := z_mem zc_5 15 rfl rfl
theorem zw_976 : (.selects "HeldCoats" ⟨"HeldCoats", "frostAt", "(II)I"⟩ ⟨"HeldCoats", "frostAt", "(II)I"⟩ : Cond) ∈ zTB := z_mem zc_5 16 rfl rfl
theorem zw_977 : (.code ⟨"HeldCoats", "frostAt", "(II)I"⟩ prog_1_method_24_code 3 (some .int) : Cond) ∈ zTB := z_mem zc_5 17 rfl rfl
theorem zw_978 : (.methodLink "HeldCoatsLaw" 123 ⟨"HeldCoats", "word", "(I)I"⟩ : Cond) ∈ zTB := z_mem zc_5 18 rfl rfl
theorem zw_979 : (.instanceMethod ⟨"HeldCoats", "word", "(I)I"⟩ : Cond) ∈ zTB := z_mem zc_5 19 rfl rfl
theorem zw_980 : (.selects "HeldCoats" ⟨"HeldCoats", "word", "(I)I"⟩ ⟨"HeldCoats", "word", "(I)I"⟩ : Cond) ∈ zTB := z_mem zc_5 20 rfl rfl
theorem zw_981 : (.code ⟨"HeldCoats", "word", "(I)I"⟩ prog_1_method_25_code 2 (some .int) : Cond) ∈ zTB := z_mem zc_5 21 rfl rfl
theorem zw_982 : (.methodLink "HeldCoats" 282 ⟨"HeldCoats$Counsel", "daysRuledOtherwise", "(I)I"⟩ : Cond) ∈ zTB := z_mem zc_5 22 rfl rfl
theorem zw_983 : (.instanceMethod ⟨"HeldCoats$Counsel", "daysRuledOtherwise", "(I)I"⟩ : Cond) ∈ zTB := z_mem zc_5 23 rfl rfl
theorem zw_984 : (.selects "HeldCoats$Counsel" ⟨"HeldCoats$Counsel", "daysRuledOtherwise", "(I)I"⟩ ⟨"HeldCoats$Counsel", "daysRuledOtherwise", "(I)I"⟩ : Cond) ∈ zTB := z_mem zc_5 24 rfl rfl
theorem zw_985 : (.code ⟨"HeldCoats$Counsel", "daysRuledOtherwise", "(I)I"⟩ prog_3_method_9_code 7 (some .int) : Cond) ∈ zTB := z_mem zc_5 25 rfl rfl
theorem zw_986 : (.methodLink "HeldCoats$Counsel" 126 ⟨"HeldCoats$Counsel", "trialOfNow", "()LHeldCoats$State;"⟩ : Cond) ∈ zTB := z_mem zc_5 26 rfl rfl
theorem zw_987 : (.instanceMethod ⟨"HeldCoats$Counsel", "trialOfNow", "()LHeldCoats$State;"⟩ : Cond) ∈ zTB := z_mem zc_5 27 rfl rfl
theorem zw_988 : (.selects "HeldCoats$Counsel" ⟨"HeldCoats$Counsel", "trialOfNow", "()LHeldCoats$State;"⟩ ⟨"HeldCoats$Counsel", "trialOfNow", "()LHeldCoats$State;"⟩ : Cond) ∈ zTB := z_mem zc_5 28 rfl rfl
theorem zw_989 : (.code ⟨"HeldCoats$Counsel", "trialOfNow", "()LHeldCoats$State;"⟩ prog_3_method_2_code 1 (some (.object "HeldCoats$State")) : Cond) ∈ zTB := z_mem zc_5 29 rfl rfl
theorem zw_990 : (.methodLink "HeldCoats$Counsel" 53 ⟨"HeldCoats$State", "copyFrom", "(LHeldCoats$State;)V"⟩ : Cond) ∈ zTB := z_mem zc_5 30 rfl rfl
theorem zw_991 : (.methodLink "HeldCoats$Counsel" 130 ⟨"HeldCoats$State", "daysLeftOf", "(I)I"⟩ : Cond) ∈ zTB := z_mem zc_5 31 rfl rfl
theorem zw_992 : (.methodLink "HeldCoats$Counsel" 133 ⟨"HeldCoats$State", "rulerWithoutSummer", "()I"⟩ : Cond) ∈ zTB := z_mem zc_5 32 rfl rfl
theorem zw_993 : (.methodLink "HeldCoats$Counsel" 136 ⟨"HeldCoats$State", "passDay", "()I"⟩ : Cond) ∈ zTB := z_mem zc_5 33 rfl rfl
theorem zw_994 : (.methodLink "HeldCoatsLaw" 127 ⟨"HeldCoats", "bare", "()I"⟩ : Cond) ∈ zTB := z_mem zc_5 34 rfl rfl
theorem zw_995 : (.instanceMethod ⟨"HeldCoats", "bare", "()I"⟩ : Cond) ∈ zTB := z_mem zc_5 35 rfl rfl
theorem zw_996 : (.selects "HeldCoats" ⟨"HeldCoats", "bare", "()I"⟩ ⟨"HeldCoats", "bare", "()I"⟩ : Cond) ∈ zTB := z_mem zc_5 36 rfl rfl
theorem zw_997 : (.code ⟨"HeldCoats", "bare", "()I"⟩ prog_1_method_26_code 1 (some .int) : Cond) ∈ zTB := z_mem zc_5 37 rfl rfl
theorem zw_998 : (.methodLink "HeldCoats" 285 ⟨"HeldCoats$Counsel", "firstDayRuledBy", "(I)I"⟩ : Cond) ∈ zTB := z_mem zc_5 38 rfl rfl
theorem zw_999 : (.instanceMethod ⟨"HeldCoats$Counsel", "firstDayRuledBy", "(I)I"⟩ : Cond) ∈ zTB := z_mem zc_5 39 rfl rfl
theorem zw_1000 : (.selects "HeldCoats$Counsel" ⟨"HeldCoats$Counsel", "firstDayRuledBy", "(I)I"⟩ ⟨"HeldCoats$Counsel", "firstDayRuledBy", "(I)I"⟩ : Cond) ∈ zTB := z_mem zc_5 40 rfl rfl
theorem zw_1001 : (.code ⟨"HeldCoats$Counsel", "firstDayRuledBy", "(I)I"⟩ prog_3_method_10_code 4 (some .int) : Cond) ∈ zTB := z_mem zc_5 41 rfl rfl
theorem zw_1002 : (.methodLink "HeldCoatsLaw" 131 ⟨"HeldCoats", "rules", "(I)I"⟩ : Cond) ∈ zTB := z_mem zc_5 42 rfl rfl
theorem zw_1003 : (.instanceMethod ⟨"HeldCoats", "rules", "(I)I"⟩ : Cond) ∈ zTB := z_mem zc_5 43 rfl rfl
theorem zw_1004 : (.selects "HeldCoats" ⟨"HeldCoats", "rules", "(I)I"⟩ ⟨"HeldCoats", "rules", "(I)I"⟩ : Cond) ∈ zTB := z_mem zc_5 44 rfl rfl
theorem zw_1005 : (.code ⟨"HeldCoats", "rules", "(I)I"⟩ prog_1_method_27_code 2 (some .int) : Cond) ∈ zTB := z_mem zc_5 45 rfl rfl
theorem zw_1006 : (.methodLink "HeldCoatsLaw" 135 ⟨"HeldCoats", "harm", "(II)I"⟩ : Cond) ∈ zTB := z_mem zc_5 46 rfl rfl
theorem zw_1007 : (.instanceMethod ⟨"HeldCoats", "harm", "(II)I"⟩ : Cond) ∈ zTB := z_mem zc_5 47 rfl rfl
theorem zw_1008 : (.selects "HeldCoats" ⟨"HeldCoats", "harm", "(II)I"⟩ ⟨"HeldCoats", "harm", "(II)I"⟩ : Cond) ∈ zTB := z_mem zc_5 48 rfl rfl
theorem zw_1009 : (.code ⟨"HeldCoats", "harm", "(II)I"⟩ prog_1_method_28_code 3 (some .int) : Cond) ∈ zTB := z_mem zc_5 49 rfl rfl
theorem zw_1014 : (.methodLink "HeldCoatsLaw" 139 ⟨"HeldCoats", "hooks", "()I"⟩ : Cond) ∈ zTB := z_mem zc_5 54 rfl rfl
theorem zw_1015 : (.instanceMethod ⟨"HeldCoats", "hooks", "()I"⟩ : Cond) ∈ zTB := z_mem zc_5 55 rfl rfl
theorem zw_1016 : (.selects "HeldCoats" ⟨"HeldCoats", "hooks", "()I"⟩ ⟨"HeldCoats", "hooks", "()I"⟩ : Cond) ∈ zTB := z_mem zc_5 56 rfl rfl
theorem zw_1017 : (.code ⟨"HeldCoats", "hooks", "()I"⟩ prog_1_method_29_code 2 (some .int) : Cond) ∈ zTB := z_mem zc_5 57 rfl rfl
theorem zw_1018 : (.methodLink "HeldCoats" 291 ⟨"HeldCoats$Counsel", "waysToHaveLain", "(LHeldCoats$Tape;)I"⟩ : Cond) ∈ zTB := z_mem zc_5 58 rfl rfl
theorem zw_1019 : (.instanceMethod ⟨"HeldCoats$Counsel", "waysToHaveLain", "(LHeldCoats$Tape;)I"⟩ : Cond) ∈ zTB := z_mem zc_5 59 rfl rfl
theorem zw_1020 : (.selects "HeldCoats$Counsel" ⟨"HeldCoats$Counsel", "waysToHaveLain", "(LHeldCoats$Tape;)I"⟩ ⟨"HeldCoats$Counsel", "waysToHaveLain", "(LHeldCoats$Tape;)I"⟩ : Cond) ∈ zTB := z_mem zc_5 60 rfl rfl
theorem zw_1021 : (.code ⟨"HeldCoats$Counsel", "waysToHaveLain", "(LHeldCoats$Tape;)I"⟩ prog_3_method_12_code 5 (some .int) : Cond) ∈ zTB := z_mem zc_5 61 rfl rfl
theorem zw_1035 : (.methodLink "HeldCoatsLaw" 143 ⟨"HeldCoats", "surely", "()I"⟩ : Cond) ∈ zTB := z_mem zc_5 75 rfl rfl
theorem zw_1036 : (.instanceMethod ⟨"HeldCoats", "surely", "()I"⟩ : Cond) ∈ zTB := z_mem zc_5 76 rfl rfl
theorem zw_1037 : (.selects "HeldCoats" ⟨"HeldCoats", "surely", "()I"⟩ ⟨"HeldCoats", "surely", "()I"⟩ : Cond) ∈ zTB := z_mem zc_5 77 rfl rfl
theorem zw_1038 : (.code ⟨"HeldCoats", "surely", "()I"⟩ prog_1_method_30_code 1 (some .int) : Cond) ∈ zTB := z_mem zc_5 78 rfl rfl
theorem zw_1039 : (.methodLink "HeldCoatsLaw" 147 ⟨"HeldCoats", "never", "()I"⟩ : Cond) ∈ zTB := z_mem zc_5 79 rfl rfl
theorem zw_1040 : (.instanceMethod ⟨"HeldCoats", "never", "()I"⟩ : Cond) ∈ zTB := z_mem zc_5 80 rfl rfl
theorem zw_1041 : (.selects "HeldCoats" ⟨"HeldCoats", "never", "()I"⟩ ⟨"HeldCoats", "never", "()I"⟩ : Cond) ∈ zTB := z_mem zc_5 81 rfl rfl
theorem zw_1042 : (.code ⟨"HeldCoats", "never", "()I"⟩ prog_1_method_31_code 1 (some .int) : Cond) ∈ zTB := z_mem zc_5 82 rfl rfl
theorem zw_1043 : (.methodLink "HeldCoatsLaw" 151 ⟨"HeldCoats", "rounds", "()I"⟩ : Cond) ∈ zTB := z_mem zc_5 83 rfl rfl
theorem zw_1044 : (.instanceMethod ⟨"HeldCoats", "rounds", "()I"⟩ : Cond) ∈ zTB := z_mem zc_5 84 rfl rfl
theorem zw_1045 : (.selects "HeldCoats" ⟨"HeldCoats", "rounds", "()I"⟩ ⟨"HeldCoats", "rounds", "()I"⟩ : Cond) ∈ zTB := z_mem zc_5 85 rfl rfl
theorem zw_1046 : (.code ⟨"HeldCoats", "rounds", "()I"⟩ prog_1_method_32_code 1 (some .int) : Cond) ∈ zTB := z_mem zc_5 86 rfl rfl
theorem zw_1047 : (.methodLink "HeldCoats" 301 ⟨"HeldCoats$Counsel", "roundsTillRest", "()I"⟩ : Cond) ∈ zTB := z_mem zc_5 87 rfl rfl
theorem zw_1048 : (.instanceMethod ⟨"HeldCoats$Counsel", "roundsTillRest", "()I"⟩ : Cond) ∈ zTB := z_mem zc_5 88 rfl rfl
theorem zw_1049 : (.selects "HeldCoats$Counsel" ⟨"HeldCoats$Counsel", "roundsTillRest", "()I"⟩ ⟨"HeldCoats$Counsel", "roundsTillRest", "()I"⟩ : Cond) ∈ zTB := z_mem zc_5 89 rfl rfl
theorem zw_1050 : (.code ⟨"HeldCoats$Counsel", "roundsTillRest", "()I"⟩ prog_3_method_15_code 6 (some .int) : Cond) ∈ zTB := z_mem zc_5 90 rfl rfl
theorem zw_1051 : (.methodLink "HeldCoats$Counsel" 176 ⟨"HeldCoats$Counsel", "menWanting", "(I)I"⟩ : Cond) ∈ zTB := z_mem zc_5 91 rfl rfl
theorem zw_1053 : (.instanceMethod ⟨"HeldCoats$Counsel", "menWanting", "(I)I"⟩ : Cond) ∈ zTB := z_mem zc_5 93 rfl rfl
theorem zw_1054 : (.code ⟨"HeldCoats$Counsel", "menWanting", "(I)I"⟩ prog_3_method_16_code 4 (some .int) : Cond) ∈ zTB := z_mem zc_5 94 rfl rfl
theorem zw_1061 : (.methodLink "HeldCoatsLaw" 155 ⟨"HeldCoats", "price", "()I"⟩ : Cond) ∈ zTB := z_mem zc_5 101 rfl rfl
theorem zw_1062 : (.instanceMethod ⟨"HeldCoats", "price", "()I"⟩ : Cond) ∈ zTB := z_mem zc_5 102 rfl rfl
theorem zw_1063 : (.selects "HeldCoats" ⟨"HeldCoats", "price", "()I"⟩ ⟨"HeldCoats", "price", "()I"⟩ : Cond) ∈ zTB := z_mem zc_5 103 rfl rfl
theorem zw_1064 : (.code ⟨"HeldCoats", "price", "()I"⟩ prog_1_method_33_code 1 (some .int) : Cond) ∈ zTB := z_mem zc_5 104 rfl rfl
theorem zw_1065 : (.methodLink "HeldCoatsLaw" 159 ⟨"HeldCoats", "drawn", "(II)I"⟩ : Cond) ∈ zTB := z_mem zc_5 105 rfl rfl
theorem zw_1066 : (.instanceMethod ⟨"HeldCoats", "drawn", "(II)I"⟩ : Cond) ∈ zTB := z_mem zc_5 106 rfl rfl
theorem zw_1067 : (.selects "HeldCoats" ⟨"HeldCoats", "drawn", "(II)I"⟩ ⟨"HeldCoats", "drawn", "(II)I"⟩ : Cond) ∈ zTB := z_mem zc_5 107 rfl rfl
theorem zw_1068 : (.code ⟨"HeldCoats", "drawn", "(II)I"⟩ prog_1_method_34_code 3 (some .int) : Cond) ∈ zTB := z_mem zc_5 108 rfl rfl
theorem zw_1089 : (.methodLink "HeldCoatsLaw" 163 ⟨"HeldCoats", "odds", "(III)I"⟩ : Cond) ∈ zTB := z_mem zc_5 129 rfl rfl
theorem zw_1090 : (.instanceMethod ⟨"HeldCoats", "odds", "(III)I"⟩ : Cond) ∈ zTB := z_mem zc_5 130 rfl rfl
theorem zw_1091 : (.selects "HeldCoats" ⟨"HeldCoats", "odds", "(III)I"⟩ ⟨"HeldCoats", "odds", "(III)I"⟩ : Cond) ∈ zTB := z_mem zc_5 131 rfl rfl
theorem zw_1092 : (.code ⟨"HeldCoats", "odds", "(III)I"⟩ prog_1_method_35_code 4 (some .int) : Cond) ∈ zTB := z_mem zc_5 132 rfl rfl
theorem zw_1101 : (.methodLink "HeldCoatsLaw" 168 ⟨"HeldCoats", "book", "(I)I"⟩ : Cond) ∈ zTB := z_mem zc_5 141 rfl rfl
theorem zw_1102 : (.instanceMethod ⟨"HeldCoats", "book", "(I)I"⟩ : Cond) ∈ zTB := z_mem zc_5 142 rfl rfl
theorem zw_1103 : (.selects "HeldCoats" ⟨"HeldCoats", "book", "(I)I"⟩ ⟨"HeldCoats", "book", "(I)I"⟩ : Cond) ∈ zTB := z_mem zc_5 143 rfl rfl
theorem zw_1104 : (.code ⟨"HeldCoats", "book", "(I)I"⟩ prog_1_method_36_code 3 (some .int) : Cond) ∈ zTB := z_mem zc_5 144 rfl rfl
theorem zw_1105 : (.methodLink "HeldCoats" 321 ⟨"HeldCoats$Book", "readText", "(LHeldCoats$Tape;LHeldCoats$Names;)Z"⟩ : Cond) ∈ zTB := z_mem zc_5 145 rfl rfl
theorem zw_1106 : (.instanceMethod ⟨"HeldCoats$Book", "readText", "(LHeldCoats$Tape;LHeldCoats$Names;)Z"⟩ : Cond) ∈ zTB := z_mem zc_5 146 rfl rfl
theorem zw_1107 : (.selects "HeldCoats$Book" ⟨"HeldCoats$Book", "readText", "(LHeldCoats$Tape;LHeldCoats$Names;)Z"⟩ ⟨"HeldCoats$Book", "readText", "(LHeldCoats$Tape;LHeldCoats$Names;)Z"⟩ : Cond) ∈ zTB := z_mem zc_5 147 rfl rfl
theorem zw_1108 : (.code ⟨"HeldCoats$Book", "readText", "(LHeldCoats$Tape;LHeldCoats$Names;)Z"⟩ prog_2_method_2_code 4 (some .boolean) : Cond) ∈ zTB := z_mem zc_5 148 rfl rfl
theorem zw_1109 : (.methodLink "HeldCoats$Book" 28 ⟨"HeldCoats$Tape", "open", "(I)V"⟩ : Cond) ∈ zTB := z_mem zc_5 149 rfl rfl
theorem zw_1136 : (.methodLink "HeldCoats$Book" 45 ⟨"HeldCoats$Tape", "isOver", "()Z"⟩ : Cond) ∈ zTB := z_mem zc_5 176 rfl rfl
theorem zw_1137 : (.methodLink "HeldCoats" 324 ⟨"HeldCoats$Counsel", "trialOfNow", "()LHeldCoats$State;"⟩ : Cond) ∈ zTB := z_mem zc_5 177 rfl rfl
theorem zw_1138 : (.methodLink "HeldCoats" 328 ⟨"HeldCoats$Book", "judge", "(LHeldCoats$State;)I"⟩ : Cond) ∈ zTB := z_mem zc_5 178 rfl rfl
theorem zw_1139 : (.instanceMethod ⟨"HeldCoats$Book", "judge", "(LHeldCoats$State;)I"⟩ : Cond) ∈ zTB := z_mem zc_5 179 rfl rfl
theorem zw_1140 : (.selects "HeldCoats$Book" ⟨"HeldCoats$Book", "judge", "(LHeldCoats$State;)I"⟩ ⟨"HeldCoats$Book", "judge", "(LHeldCoats$State;)I"⟩ : Cond) ∈ zTB := z_mem zc_5 180 rfl rfl
theorem zw_1141 : (.code ⟨"HeldCoats$Book", "judge", "(LHeldCoats$State;)I"⟩ prog_2_method_7_code 5 (some .int) : Cond) ∈ zTB := z_mem zc_5 181 rfl rfl
theorem zw_1155 : (.methodLink "HeldCoatsLaw" 172 ⟨"HeldCoats", "told", "(I)I"⟩ : Cond) ∈ zTB := z_mem zc_5 195 rfl rfl
theorem zw_1156 : (.instanceMethod ⟨"HeldCoats", "told", "(I)I"⟩ : Cond) ∈ zTB := z_mem zc_5 196 rfl rfl
theorem zw_1157 : (.selects "HeldCoats" ⟨"HeldCoats", "told", "(I)I"⟩ ⟨"HeldCoats", "told", "(I)I"⟩ : Cond) ∈ zTB := z_mem zc_5 197 rfl rfl
theorem zw_1158 : (.code ⟨"HeldCoats", "told", "(I)I"⟩ prog_1_method_37_code 2 (some .int) : Cond) ∈ zTB := z_mem zc_5 198 rfl rfl
theorem zw_1159 : (.methodLink "HeldCoatsLaw" 176 ⟨"HeldCoats", "sentence", "()I"⟩ : Cond) ∈ zTB := z_mem zc_5 199 rfl rfl
theorem zw_1160 : (.instanceMethod ⟨"HeldCoats", "sentence", "()I"⟩ : Cond) ∈ zTB := z_mem zc_5 200 rfl rfl
theorem zw_1161 : (.selects "HeldCoats" ⟨"HeldCoats", "sentence", "()I"⟩ ⟨"HeldCoats", "sentence", "()I"⟩ : Cond) ∈ zTB := z_mem zc_5 201 rfl rfl
theorem zw_1162 : (.code ⟨"HeldCoats", "sentence", "()I"⟩ prog_1_method_38_code 2 (some .int) : Cond) ∈ zTB := z_mem zc_5 202 rfl rfl
theorem zw_1163 : (.methodLink "HeldCoats" 338 ⟨"HeldCoats$SentenceReader", "open", "(LHeldCoats$Names;)V"⟩ : Cond) ∈ zTB := z_mem zc_5 203 rfl rfl
theorem zw_1164 : (.instanceMethod ⟨"HeldCoats$SentenceReader", "open", "(LHeldCoats$Names;)V"⟩ : Cond) ∈ zTB := z_mem zc_5 204 rfl rfl
theorem zw_1165 : (.selects "HeldCoats$SentenceReader" ⟨"HeldCoats$SentenceReader", "open", "(LHeldCoats$Names;)V"⟩ ⟨"HeldCoats$SentenceReader", "open", "(LHeldCoats$Names;)V"⟩ : Cond) ∈ zTB := z_mem zc_5 205 rfl rfl
theorem zw_1166 : (.code ⟨"HeldCoats$SentenceReader", "open", "(LHeldCoats$Names;)V"⟩ prog_10_method_2_code 2 none : Cond) ∈ zTB := z_mem zc_5 206 rfl rfl
theorem zw_1167 : (.methodLink "HeldCoats$SentenceReader" 29 ⟨"HeldCoats$Sentence", "clear", "()V"⟩ : Cond) ∈ zTB := z_mem zc_5 207 rfl rfl
theorem zw_1168 : (.methodLink "HeldCoats$SentenceReader" 32 ⟨"HeldCoats$Tape", "open", "(I)V"⟩ : Cond) ∈ zTB := z_mem zc_5 208 rfl rfl
theorem zw_1171 : (.instanceMethod ⟨"HeldCoats$SentenceReader", "readCond", "(I)Z"⟩ : Cond) ∈ zTB := z_mem zc_5 211 rfl rfl
theorem zw_1172 : (.code ⟨"HeldCoats$SentenceReader", "readCond", "(I)Z"⟩ prog_10_method_4_code 3 (some .boolean) : Cond) ∈ zTB := z_mem zc_5 212 rfl rfl
theorem zw_1173 : (.methodLink "HeldCoats$SentenceReader" 42 ⟨"HeldCoats$SentenceReader", "readAll", "(I)Z"⟩ : Cond) ∈ zTB := z_mem zc_5 213 rfl rfl
theorem zw_1175 : (.instanceMethod ⟨"HeldCoats$SentenceReader", "readAll", "(I)Z"⟩ : Cond) ∈ zTB := z_mem zc_5 215 rfl rfl
theorem zw_1176 : (.code ⟨"HeldCoats$SentenceReader", "readAll", "(I)Z"⟩ prog_10_method_5_code 3 (some .boolean) : Cond) ∈ zTB := z_mem zc_5 216 rfl rfl
theorem zw_1177 : (.methodLink "HeldCoats$SentenceReader" 56 ⟨"HeldCoats$SentenceReader", "readOne", "(I)Z"⟩ : Cond) ∈ zTB := z_mem zc_5 217 rfl rfl
theorem zw_1179 : (.instanceMethod ⟨"HeldCoats$SentenceReader", "readOne", "(I)Z"⟩ : Cond) ∈ zTB := z_mem zc_5 219 rfl rfl
theorem zw_1180 : (.code ⟨"HeldCoats$SentenceReader", "readOne", "(I)Z"⟩ prog_10_method_6_code 4 (some .boolean) : Cond) ∈ zTB := z_mem zc_5 220 rfl rfl
theorem zw_1181 : (.methodLink "HeldCoats$SentenceReader" 59 ⟨"HeldCoats$Tape", "isSign", "(I)Z"⟩ : Cond) ∈ zTB := z_mem zc_5 221 rfl rfl
theorem zw_1182 : (.methodLink "HeldCoats$SentenceReader" 69 ⟨"HeldCoats$Tape", "refuse", "(I)Z"⟩ : Cond) ∈ zTB := z_mem zc_5 222 rfl rfl
theorem zw_1203 : (.instanceMethod ⟨"HeldCoats$Sentence", "copyFrom", "(LHeldCoats$Sentence;)V"⟩ : Cond) ∈ zTB := z_mem zc_6 3 rfl rfl
theorem zw_1204 : (.selects "HeldCoats$Sentence" ⟨"HeldCoats$Sentence", "copyFrom", "(LHeldCoats$Sentence;)V"⟩ ⟨"HeldCoats$Sentence", "copyFrom", "(LHeldCoats$Sentence;)V"⟩ : Cond) ∈ zTB := z_mem zc_6 4 rfl rfl
theorem zw_1205 : (.code ⟨"HeldCoats$Sentence", "copyFrom", "(LHeldCoats$Sentence;)V"⟩ prog_9_method_3_code 2 none : Cond) ∈ zTB := z_mem zc_6 5 rfl rfl
theorem zw_1206 : (.methodLink "HeldCoats$Sentence" 31 ⟨"java/lang/System", "arraycopy", "(Ljava/lang/Object;ILjava/lang/Object;II)V"⟩ : Cond) ∈ zTB := z_mem zc_6 6 rfl rfl
theorem zw_1207 : (.methodLink "HeldCoatsLaw" 180 ⟨"HeldCoats", "said", "(I)I"⟩ : Cond) ∈ zTB := z_mem zc_6 7 rfl rfl
theorem zw_1208 : (.instanceMethod ⟨"HeldCoats", "said", "(I)I"⟩ : Cond) ∈ zTB := z_mem zc_6 8 rfl rfl
theorem zw_1209 : (.selects "HeldCoats" ⟨"HeldCoats", "said", "(I)I"⟩ ⟨"HeldCoats", "said", "(I)I"⟩ : Cond) ∈ zTB := z_mem zc_6 9 rfl rfl
theorem zw_1210 : (.code ⟨"HeldCoats", "said", "(I)I"⟩ prog_1_method_39_code 3 (some .int) : Cond) ∈ zTB := z_mem zc_6 10 rfl rfl
theorem zw_1238 : (.methodLink "HeldCoatsLaw" 184 ⟨"HeldCoats", "image", "(I)Z"⟩ : Cond) ∈ zTB := z_mem zc_6 38 rfl rfl
theorem zw_1239 : (.instanceMethod ⟨"HeldCoats", "image", "(I)Z"⟩ : Cond) ∈ zTB := z_mem zc_6 39 rfl rfl
theorem zw_1240 : (.selects "HeldCoats" ⟨"HeldCoats", "image", "(I)Z"⟩ ⟨"HeldCoats", "image", "(I)Z"⟩ : Cond) ∈ zTB := z_mem zc_6 40 rfl rfl
theorem zw_1241 : (.code ⟨"HeldCoats", "image", "(I)Z"⟩ prog_1_method_40_code 2 (some .boolean) : Cond) ∈ zTB := z_mem zc_6 41 rfl rfl
theorem zw_1242 : (.methodLink "HeldCoats" 367 ⟨"HeldCoats$Image", "take", "(LHeldCoats$Law;LHeldCoats$State;LHeldCoats$Sentence;)V"⟩ : Cond) ∈ zTB := z_mem zc_6 42 rfl rfl
theorem zw_1243 : (.instanceMethod ⟨"HeldCoats$Image", "take", "(LHeldCoats$Law;LHeldCoats$State;LHeldCoats$Sentence;)V"⟩ : Cond) ∈ zTB := z_mem zc_6 43 rfl rfl
theorem zw_1244 : (.selects "HeldCoats$Image" ⟨"HeldCoats$Image", "take", "(LHeldCoats$Law;LHeldCoats$State;LHeldCoats$Sentence;)V"⟩ ⟨"HeldCoats$Image", "take", "(LHeldCoats$Law;LHeldCoats$State;LHeldCoats$Sentence;)V"⟩ : Cond) ∈ zTB := z_mem zc_6 44 rfl rfl
theorem zw_1245 : (.code ⟨"HeldCoats$Image", "take", "(LHeldCoats$Law;LHeldCoats$State;LHeldCoats$Sentence;)V"⟩ prog_4_method_2_code 4 none : Cond) ∈ zTB := z_mem zc_6 45 rfl rfl
theorem zw_1246 : (.methodLink "HeldCoats$Image" 32 ⟨"HeldCoats$Law", "copyFrom", "(LHeldCoats$Law;)V"⟩ : Cond) ∈ zTB := z_mem zc_6 46 rfl rfl
theorem zw_1247 : (.methodLink "HeldCoats$Image" 35 ⟨"HeldCoats$State", "copyFrom", "(LHeldCoats$State;)V"⟩ : Cond) ∈ zTB := z_mem zc_6 47 rfl rfl
theorem zw_1248 : (.methodLink "HeldCoats$Image" 38 ⟨"HeldCoats$Sentence", "copyFrom", "(LHeldCoats$Sentence;)V"⟩ : Cond) ∈ zTB := z_mem zc_6 48 rfl rfl
theorem zw_1249 : (.methodLink "HeldCoatsLaw" 188 ⟨"HeldCoats", "restore", "(I)Z"⟩ : Cond) ∈ zTB := z_mem zc_6 49 rfl rfl
theorem zw_1250 : (.instanceMethod ⟨"HeldCoats", "restore", "(I)Z"⟩ : Cond) ∈ zTB := z_mem zc_6 50 rfl rfl
theorem zw_1251 : (.selects "HeldCoats" ⟨"HeldCoats", "restore", "(I)Z"⟩ ⟨"HeldCoats", "restore", "(I)Z"⟩ : Cond) ∈ zTB := z_mem zc_6 51 rfl rfl
theorem zw_1252 : (.code ⟨"HeldCoats", "restore", "(I)Z"⟩ prog_1_method_41_code 2 (some .boolean) : Cond) ∈ zTB := z_mem zc_6 52 rfl rfl
theorem zw_1257 : (.methodLink "HeldCoatsLaw" 192 ⟨"HeldCoats", "count", "(I)I"⟩ : Cond) ∈ zTB := z_mem zc_6 57 rfl rfl
theorem zw_1258 : (.instanceMethod ⟨"HeldCoats", "count", "(I)I"⟩ : Cond) ∈ zTB := z_mem zc_6 58 rfl rfl
theorem zw_1259 : (.selects "HeldCoats" ⟨"HeldCoats", "count", "(I)I"⟩ ⟨"HeldCoats", "count", "(I)I"⟩ : Cond) ∈ zTB := z_mem zc_6 59 rfl rfl
theorem zw_1260 : (.code ⟨"HeldCoats", "count", "(I)I"⟩ prog_1_method_42_code 2 (some .int) : Cond) ∈ zTB := z_mem zc_6 60 rfl rfl
theorem zw_1353 : (.methodLink "HeldCoatsLaw" 26 ⟨"HeldCoatsModel", "feed", "(IIIII)I"⟩ : Cond) ∈ zTB := z_mem zc_6 153 rfl rfl
theorem zw_1354 : (.instanceMethod ⟨"HeldCoatsModel", "feed", "(IIIII)I"⟩ : Cond) ∈ zTB := z_mem zc_6 154 rfl rfl
theorem zw_1355 : (.selects "HeldCoatsModel" ⟨"HeldCoatsModel", "feed", "(IIIII)I"⟩ ⟨"HeldCoatsModel", "feed", "(IIIII)I"⟩ : Cond) ∈ zTB := z_mem zc_6 155 rfl rfl
theorem zw_1356 : (.code ⟨"HeldCoatsModel", "feed", "(IIIII)I"⟩ prog_14_method_3_code 6 (some .int) : Cond) ∈ zTB := z_mem zc_6 156 rfl rfl
theorem zw_1357 : (.methodLink "HeldCoatsModel" 10 ⟨"HeldCoatsModel", "four", "(I)V"⟩ : Cond) ∈ zTB := z_mem zc_6 157 rfl rfl
theorem zw_1359 : (.instanceMethod ⟨"HeldCoatsModel", "four", "(I)V"⟩ : Cond) ∈ zTB := z_mem zc_6 159 rfl rfl
theorem zw_1360 : (.instantiable "HeldCoatsModel" 49 : Cond) ∈ zTB := z_mem zc_6 160 rfl rfl
theorem zw_1361 : (.code ⟨"HeldCoatsModel", "four", "(I)V"⟩ prog_14_method_4_code 3 none : Cond) ∈ zTB := z_mem zc_6 161 rfl rfl
theorem zw_1362 : (.methodLink "HeldCoatsLaw" 31 ⟨"HeldCoatsModel", "end", "(I)Z"⟩ : Cond) ∈ zTB := z_mem zc_6 162 rfl rfl
theorem zw_1363 : (.instanceMethod ⟨"HeldCoatsModel", "end", "(I)Z"⟩ : Cond) ∈ zTB := z_mem zc_6 163 rfl rfl
theorem zw_1364 : (.selects "HeldCoatsModel" ⟨"HeldCoatsModel", "end", "(I)Z"⟩ ⟨"HeldCoatsModel", "end", "(I)Z"⟩ : Cond) ∈ zTB := z_mem zc_6 164 rfl rfl
theorem zw_1365 : (.code ⟨"HeldCoatsModel", "end", "(I)Z"⟩ prog_14_method_5_code 2 (some .boolean) : Cond) ∈ zTB := z_mem zc_6 165 rfl rfl
theorem zw_1366 : (.classLink "HeldCoatsLaw" 19 "HeldCoatsModel" : Cond) ∈ zTB := z_mem zc_6 166 rfl rfl
theorem zw_1367 : (.methodLink "HeldCoatsLaw" 21 ⟨"HeldCoatsModel", "<init>", "()V"⟩ : Cond) ∈ zTB := z_mem zc_6 167 rfl rfl
theorem zw_1368 : (.instanceMethod ⟨"HeldCoatsModel", "<init>", "()V"⟩ : Cond) ∈ zTB := z_mem zc_6 168 rfl rfl
theorem zw_1369 : (.code ⟨"HeldCoatsModel", "<init>", "()V"⟩ prog_14_method_12_code 2 none : Cond) ∈ zTB := z_mem zc_6 169 rfl rfl
theorem zw_1370 : (.methodLink "HeldCoatsModel" 27 ⟨"java/lang/Object", "<init>", "()V"⟩ : Cond) ∈ zTB := z_mem zc_6 170 rfl rfl
theorem zw_1371 : (.constantLong "HeldCoatsModel" 78 (1936023924) : Cond) ∈ zTB := z_mem zc_6 171 rfl rfl
theorem zw_1372 : (.constantLong "HeldCoatsModel" 80 (7168366) : Cond) ∈ zTB := z_mem zc_6 172 rfl rfl
theorem zw_1373 : (.constantLong "HeldCoatsModel" 82 (1668243828) : Cond) ∈ zTB := z_mem zc_6 173 rfl rfl
theorem zw_1374 : (.constantLong "HeldCoatsModel" 84 (1668246628) : Cond) ∈ zTB := z_mem zc_6 174 rfl rfl
theorem zw_1375 : (.constantLong "HeldCoatsModel" 86 (126948184253810) : Cond) ∈ zTB := z_mem zc_6 175 rfl rfl
theorem zw_1376 : (.constantLong "HeldCoatsModel" 88 (448545973363) : Cond) ∈ zTB := z_mem zc_6 176 rfl rfl
theorem zw_1377 : (.constantLong "HeldCoatsModel" 90 (470021335155) : Cond) ∈ zTB := z_mem zc_6 177 rfl rfl
theorem zw_1378 : (.constantLong "HeldCoatsModel" 92 (465625246068) : Cond) ∈ zTB := z_mem zc_6 178 rfl rfl
theorem zw_1379 : (.constantLong "HeldCoatsModel" 94 (1818846579) : Cond) ∈ zTB := z_mem zc_6 179 rfl rfl
theorem zw_1380 : (.constantLong "HeldCoatsModel" 96 (1818586740) : Cond) ∈ zTB := z_mem zc_6 180 rfl rfl
theorem zw_1381 : (.constantLong "HeldCoatsModel" 98 (1801810036) : Cond) ∈ zTB := z_mem zc_6 181 rfl rfl
theorem zw_1382 : (.constantLong "HeldCoatsModel" 100 (512801993331) : Cond) ∈ zTB := z_mem zc_6 182 rfl rfl
theorem zw_1383 : (.constantLong "HeldCoatsModel" 102 (6578553) : Cond) ∈ zTB := z_mem zc_6 183 rfl rfl
theorem zw_1384 : (.constantLong "HeldCoatsModel" 104 (28530) : Cond) ∈ zTB := z_mem zc_6 184 rfl rfl
theorem zw_1385 : (.constantLong "HeldCoatsModel" 106 (6385252) : Cond) ∈ zTB := z_mem zc_6 185 rfl rfl
theorem zw_1386 : (.constantLong "HeldCoatsModel" 108 (7237492) : Cond) ∈ zTB := z_mem zc_6 186 rfl rfl
theorem zw_1387 : (.constantLong "HeldCoatsModel" 110 (1650553445) : Cond) ∈ zTB := z_mem zc_6 187 rfl rfl
theorem zw_1388 : (.constantLong "HeldCoatsModel" 112 (1751477348) : Cond) ∈ zTB := z_mem zc_6 188 rfl rfl
theorem zw_1389 : (.constantLong "HeldCoatsModel" 114 (28518) : Cond) ∈ zTB := z_mem zc_6 189 rfl rfl
theorem zw_1390 : (.constantLong "HeldCoatsModel" 116 (504363246962) : Cond) ∈ zTB := z_mem zc_6 190 rfl rfl
theorem zw_1391 : (.constantLong "HeldCoatsModel" 118 (512970880104) : Cond) ∈ zTB := z_mem zc_6 191 rfl rfl
theorem zw_1392 : (.constantLong "HeldCoatsModel" 120 (1684109683) : Cond) ∈ zTB := z_mem zc_6 192 rfl rfl
theorem zw_1393 : (.constantLong "HeldCoatsModel" 122 (427021005928) : Cond) ∈ zTB := z_mem zc_6 193 rfl rfl
theorem zw_1394 : (.constantLong "HeldCoatsModel" 124 (121450625394034) : Cond) ∈ zTB := z_mem zc_6 194 rfl rfl
theorem zw_1395 : (.methodLink "HeldCoatsModel" 126 ⟨"HeldCoatsModel", "clears", "()V"⟩ : Cond) ∈ zTB := z_mem zc_6 195 rfl rfl
theorem zw_1397 : (.instanceMethod ⟨"HeldCoatsModel", "clears", "()V"⟩ : Cond) ∈ zTB := z_mem zc_6 197 rfl rfl
theorem zw_1398 : (.code ⟨"HeldCoatsModel", "clears", "()V"⟩ prog_14_method_13_code 2 none : Cond) ∈ zTB := z_mem zc_6 198 rfl rfl
theorem zw_1399 : (.fieldLink "HeldCoatsModel" 1 "HeldCoatsModel" "thrown" "I" : Cond) ∈ zTB := z_mem zc_6 199 rfl rfl
theorem zw_1400 : (.fieldLink "HeldCoatsModel" 14 "HeldCoatsModel" "tape" "[B" : Cond) ∈ zTB := z_mem zc_6 200 rfl rfl
theorem zw_1401 : (.fieldLink "HeldCoatsModel" 7 "HeldCoatsModel" "length" "I" : Cond) ∈ zTB := z_mem zc_6 201 rfl rfl
theorem zw_1402 : (.fieldLink "HeldCoatsModel" 18 "HeldCoatsModel" "size" "I" : Cond) ∈ zTB := z_mem zc_6 202 rfl rfl
theorem zw_1403 : (.fieldLink "HeldCoatsModel" 21 "HeldCoatsModel" "p" "I" : Cond) ∈ zTB := z_mem zc_6 203 rfl rfl
theorem zw_1404 : (.fieldLink "HeldCoatsModel" 24 "HeldCoatsModel" "limit" "I" : Cond) ∈ zTB := z_mem zc_6 204 rfl rfl
theorem zw_1405 : (.fieldLink "HeldCoatsModel" 33 "HeldCoatsModel" "s" "[I" : Cond) ∈ zTB := z_mem zc_6 205 rfl rfl
theorem zw_1406 : (.fieldLink "HeldCoatsModel" 37 "HeldCoatsModel" "h" "[I" : Cond) ∈ zTB := z_mem zc_6 206 rfl rfl
theorem zw_1407 : (.fieldLink "HeldCoatsModel" 40 "HeldCoatsModel" "read" "[I" : Cond) ∈ zTB := z_mem zc_6 207 rfl rfl
theorem zw_1408 : (.fieldLink "HeldCoatsModel" 43 "HeldCoatsModel" "names" "[J" : Cond) ∈ zTB := z_mem zc_6 208 rfl rfl
theorem zw_1409 : (.fieldLink "HeldCoatsModel" 47 "HeldCoatsModel" "reserved" "[J" : Cond) ∈ zTB := z_mem zc_6 209 rfl rfl
theorem zw_1410 : (.fieldLink "HeldCoatsModel" 139 "HeldCoatsModel" "token" "I" : Cond) ∈ zTB := z_mem zc_6 210 rfl rfl
theorem zw_1411 : (.fieldLink "HeldCoatsModel" 133 "HeldCoatsModel" "at" "I" : Cond) ∈ zTB := z_mem zc_6 211 rfl rfl
theorem zw_1412 : (.fieldLink "HeldCoatsModel" 136 "HeldCoatsModel" "span" "I" : Cond) ∈ zTB := z_mem zc_6 212 rfl rfl
theorem zw_1414 : (.fieldLink "HeldCoatsModel" 156 "HeldCoatsModel" "fault" "I" : Cond) ∈ zTB := z_mem zc_6 214 rfl rfl
theorem zw_1415 : (.fieldLink "HeldCoatsModel" 159 "HeldCoatsModel" "faultAt" "I" : Cond) ∈ zTB := z_mem zc_6 215 rfl rfl
theorem zw_1418 : (.fieldLink "HeldCoatsModel" 222 "HeldCoatsModel" "lines" "I" : Cond) ∈ zTB := z_mem zc_6 218 rfl rfl
theorem zw_1419 : (.fieldLink "HeldCoatsModel" 193 "HeldCoatsModel" "onces" "I" : Cond) ∈ zTB := z_mem zc_6 219 rfl rfl
theorem zw_1420 : (.fieldLink "HeldCoatsModel" 50 "HeldCoatsModel" "undone" "[I" : Cond) ∈ zTB := z_mem zc_6 220 rfl rfl
theorem zw_1421 : (.fieldLink "HeldCoatsModel" 53 "HeldCoatsModel" "before" "[I" : Cond) ∈ zTB := z_mem zc_6 221 rfl rfl
theorem zw_1422 : (.fieldLink "HeldCoatsModel" 231 "HeldCoatsModel" "undoMany" "I" : Cond) ∈ zTB := z_mem zc_6 222 rfl rfl
theorem zw_1424 : (.fieldLink "HeldCoatsModel" 332 "HeldCoatsModel" "hasLaid" "Z" : Cond) ∈ zTB := z_mem zc_6 224 rfl rfl
theorem zw_1426 : (.fieldLink "HeldCoatsModel" 339 "HeldCoatsModel" "hasTurns" "Z" : Cond) ∈ zTB := z_mem zc_6 226 rfl rfl
theorem zw_1430 : (.fieldLink "HeldCoatsModel" 369 "HeldCoatsModel" "hasHooks" "Z" : Cond) ∈ zTB := z_mem zc_6 230 rfl rfl
theorem zw_1431 : (.fieldLink "HeldCoatsModel" 56 "HeldCoatsModel" "sat" "[I" : Cond) ∈ zTB := z_mem zc_6 231 rfl rfl
theorem zw_1432 : (.fieldLink "HeldCoatsModel" 378 "HeldCoatsModel" "priceNow" "I" : Cond) ∈ zTB := z_mem zc_6 232 rfl rfl
theorem zw_1433 : (.fieldLink "HeldCoatsModel" 381 "HeldCoatsModel" "hasPrice" "Z" : Cond) ∈ zTB := z_mem zc_6 233 rfl rfl
theorem zw_1435 : (.fieldLink "HeldCoatsModel" 397 "HeldCoatsModel" "toldMany" "I" : Cond) ∈ zTB := z_mem zc_6 235 rfl rfl
theorem zw_1436 : (.fieldLink "HeldCoatsModel" 59 "HeldCoatsModel" "toldAt" "[I" : Cond) ∈ zTB := z_mem zc_6 236 rfl rfl
theorem zw_1437 : (.fieldLink "HeldCoatsModel" 406 "HeldCoatsModel" "hasTold" "Z" : Cond) ∈ zTB := z_mem zc_6 237 rfl rfl
theorem zw_1438 : (.fieldLink "HeldCoatsModel" 62 "HeldCoatsModel" "stack" "[I" : Cond) ∈ zTB := z_mem zc_6 238 rfl rfl
theorem zw_1439 : (.fieldLink "HeldCoatsModel" 409 "HeldCoatsModel" "codes" "I" : Cond) ∈ zTB := z_mem zc_6 239 rfl rfl
theorem zw_1440 : (.fieldLink "HeldCoatsModel" 425 "HeldCoatsModel" "ones" "I" : Cond) ∈ zTB := z_mem zc_7 0 rfl rfl
theorem zw_1441 : (.fieldLink "HeldCoatsModel" 412 "HeldCoatsModel" "top" "I" : Cond) ∈ zTB := z_mem zc_7 1 rfl rfl
theorem zw_1442 : (.fieldLink "HeldCoatsModel" 419 "HeldCoatsModel" "deep" "I" : Cond) ∈ zTB := z_mem zc_7 2 rfl rfl
theorem zw_1443 : (.fieldLink "HeldCoatsModel" 428 "HeldCoatsModel" "isWhole" "Z" : Cond) ∈ zTB := z_mem zc_7 3 rfl rfl
theorem zw_1444 : (.fieldLink "HeldCoatsModel" 65 "HeldCoatsModel" "truths" "[Z" : Cond) ∈ zTB := z_mem zc_7 4 rfl rfl
theorem zw_1445 : (.fieldLink "HeldCoatsModel" 69 "HeldCoatsModel" "kept" "[I" : Cond) ∈ zTB := z_mem zc_7 5 rfl rfl
theorem zw_1446 : (.fieldLink "HeldCoatsModel" 72 "HeldCoatsModel" "namesKept" "[J" : Cond) ∈ zTB := z_mem zc_7 6 rfl rfl
theorem zw_1447 : (.fieldLink "HeldCoatsModel" 75 "HeldCoatsModel" "areKept" "[Z" : Cond) ∈ zTB := z_mem zc_7 7 rfl rfl
theorem zw_1448 : (.lays "HeldCoatsModel" "HeldCoatsModel" "thrown" "I" : Cond) ∈ zTB := z_mem zc_7 8 rfl rfl
theorem zw_1450 : (.laysFinal "HeldCoatsModel" "HeldCoatsModel" "tape" "[B" : Cond) ∈ zTB := z_mem zc_7 10 rfl rfl
theorem zw_1452 : (.lays "HeldCoatsModel" "HeldCoatsModel" "length" "I" : Cond) ∈ zTB := z_mem zc_7 12 rfl rfl
theorem zw_1454 : (.lays "HeldCoatsModel" "HeldCoatsModel" "size" "I" : Cond) ∈ zTB := z_mem zc_7 14 rfl rfl
theorem zw_1456 : (.lays "HeldCoatsModel" "HeldCoatsModel" "p" "I" : Cond) ∈ zTB := z_mem zc_7 16 rfl rfl
theorem zw_1458 : (.lays "HeldCoatsModel" "HeldCoatsModel" "limit" "I" : Cond) ∈ zTB := z_mem zc_7 18 rfl rfl
theorem zw_1460 : (.laysFinal "HeldCoatsModel" "HeldCoatsModel" "s" "[I" : Cond) ∈ zTB := z_mem zc_7 20 rfl rfl
theorem zw_1462 : (.laysFinal "HeldCoatsModel" "HeldCoatsModel" "h" "[I" : Cond) ∈ zTB := z_mem zc_7 22 rfl rfl
theorem zw_1464 : (.laysFinal "HeldCoatsModel" "HeldCoatsModel" "read" "[I" : Cond) ∈ zTB := z_mem zc_7 24 rfl rfl
theorem zw_1466 : (.laysFinal "HeldCoatsModel" "HeldCoatsModel" "names" "[J" : Cond) ∈ zTB := z_mem zc_7 26 rfl rfl
theorem zw_1468 : (.laysFinal "HeldCoatsModel" "HeldCoatsModel" "reserved" "[J" : Cond) ∈ zTB := z_mem zc_7 28 rfl rfl
theorem zw_1470 : (.lays "HeldCoatsModel" "HeldCoatsModel" "token" "I" : Cond) ∈ zTB := z_mem zc_7 30 rfl rfl
theorem zw_1472 : (.lays "HeldCoatsModel" "HeldCoatsModel" "at" "I" : Cond) ∈ zTB := z_mem zc_7 32 rfl rfl
theorem zw_1474 : (.lays "HeldCoatsModel" "HeldCoatsModel" "span" "I" : Cond) ∈ zTB := z_mem zc_7 34 rfl rfl
theorem zw_1476 : (.lays "HeldCoatsModel" "HeldCoatsModel" "number" "I" : Cond) ∈ zTB := z_mem zc_7 36 rfl rfl
theorem zw_1478 : (.lays "HeldCoatsModel" "HeldCoatsModel" "fault" "I" : Cond) ∈ zTB := z_mem zc_7 38 rfl rfl
theorem zw_1480 : (.lays "HeldCoatsModel" "HeldCoatsModel" "faultAt" "I" : Cond) ∈ zTB := z_mem zc_7 40 rfl rfl
theorem zw_1482 : (.lays "HeldCoatsModel" "HeldCoatsModel" "word" "J" : Cond) ∈ zTB := z_mem zc_7 42 rfl rfl
theorem zw_1484 : (.lays "HeldCoatsModel" "HeldCoatsModel" "got" "I" : Cond) ∈ zTB := z_mem zc_7 44 rfl rfl
theorem zw_1486 : (.lays "HeldCoatsModel" "HeldCoatsModel" "lines" "I" : Cond) ∈ zTB := z_mem zc_7 46 rfl rfl
theorem zw_1488 : (.lays "HeldCoatsModel" "HeldCoatsModel" "onces" "I" : Cond) ∈ zTB := z_mem zc_7 48 rfl rfl
theorem zw_1490 : (.laysFinal "HeldCoatsModel" "HeldCoatsModel" "undone" "[I" : Cond) ∈ zTB := z_mem zc_7 50 rfl rfl
theorem zw_1492 : (.laysFinal "HeldCoatsModel" "HeldCoatsModel" "before" "[I" : Cond) ∈ zTB := z_mem zc_7 52 rfl rfl
theorem zw_1494 : (.lays "HeldCoatsModel" "HeldCoatsModel" "undoMany" "I" : Cond) ∈ zTB := z_mem zc_7 54 rfl rfl
theorem zw_1496 : (.lays "HeldCoatsModel" "HeldCoatsModel" "laidSet" "I" : Cond) ∈ zTB := z_mem zc_7 56 rfl rfl
theorem zw_1498 : (.lays "HeldCoatsModel" "HeldCoatsModel" "hasLaid" "Z" : Cond) ∈ zTB := z_mem zc_7 58 rfl rfl
theorem zw_1500 : (.lays "HeldCoatsModel" "HeldCoatsModel" "turnSet" "I" : Cond) ∈ zTB := z_mem zc_7 60 rfl rfl
theorem zw_1502 : (.lays "HeldCoatsModel" "HeldCoatsModel" "hasTurns" "Z" : Cond) ∈ zTB := z_mem zc_7 62 rfl rfl
theorem zw_1504 : (.lays "HeldCoatsModel" "HeldCoatsModel" "frostDay" "I" : Cond) ∈ zTB := z_mem zc_7 64 rfl rfl
theorem zw_1506 : (.lays "HeldCoatsModel" "HeldCoatsModel" "surelySet" "I" : Cond) ∈ zTB := z_mem zc_7 66 rfl rfl
theorem zw_1508 : (.lays "HeldCoatsModel" "HeldCoatsModel" "neverSet" "I" : Cond) ∈ zTB := z_mem zc_7 68 rfl rfl
theorem zw_1510 : (.lays "HeldCoatsModel" "HeldCoatsModel" "hasHooks" "Z" : Cond) ∈ zTB := z_mem zc_7 70 rfl rfl
theorem zw_1512 : (.laysFinal "HeldCoatsModel" "HeldCoatsModel" "sat" "[I" : Cond) ∈ zTB := z_mem zc_7 72 rfl rfl
theorem zw_1514 : (.lays "HeldCoatsModel" "HeldCoatsModel" "priceNow" "I" : Cond) ∈ zTB := z_mem zc_7 74 rfl rfl
theorem zw_1516 : (.lays "HeldCoatsModel" "HeldCoatsModel" "hasPrice" "Z" : Cond) ∈ zTB := z_mem zc_7 76 rfl rfl
theorem zw_1518 : (.lays "HeldCoatsModel" "HeldCoatsModel" "seed" "I" : Cond) ∈ zTB := z_mem zc_7 78 rfl rfl
theorem zw_1520 : (.lays "HeldCoatsModel" "HeldCoatsModel" "toldMany" "I" : Cond) ∈ zTB := z_mem zc_7 80 rfl rfl
theorem zw_1522 : (.laysFinal "HeldCoatsModel" "HeldCoatsModel" "toldAt" "[I" : Cond) ∈ zTB := z_mem zc_7 82 rfl rfl
theorem zw_1524 : (.lays "HeldCoatsModel" "HeldCoatsModel" "hasTold" "Z" : Cond) ∈ zTB := z_mem zc_7 84 rfl rfl
theorem zw_1526 : (.laysFinal "HeldCoatsModel" "HeldCoatsModel" "stack" "[I" : Cond) ∈ zTB := z_mem zc_7 86 rfl rfl
theorem zw_1528 : (.lays "HeldCoatsModel" "HeldCoatsModel" "codes" "I" : Cond) ∈ zTB := z_mem zc_7 88 rfl rfl
theorem zw_1530 : (.lays "HeldCoatsModel" "HeldCoatsModel" "ones" "I" : Cond) ∈ zTB := z_mem zc_7 90 rfl rfl
theorem zw_1532 : (.lays "HeldCoatsModel" "HeldCoatsModel" "top" "I" : Cond) ∈ zTB := z_mem zc_7 92 rfl rfl
theorem zw_1534 : (.lays "HeldCoatsModel" "HeldCoatsModel" "deep" "I" : Cond) ∈ zTB := z_mem zc_7 94 rfl rfl
theorem zw_1536 : (.lays "HeldCoatsModel" "HeldCoatsModel" "isWhole" "Z" : Cond) ∈ zTB := z_mem zc_7 96 rfl rfl
theorem zw_1538 : (.laysFinal "HeldCoatsModel" "HeldCoatsModel" "truths" "[Z" : Cond) ∈ zTB := z_mem zc_7 98 rfl rfl
theorem zw_1540 : (.laysFinal "HeldCoatsModel" "HeldCoatsModel" "kept" "[I" : Cond) ∈ zTB := z_mem zc_7 100 rfl rfl
theorem zw_1542 : (.laysFinal "HeldCoatsModel" "HeldCoatsModel" "namesKept" "[J" : Cond) ∈ zTB := z_mem zc_7 102 rfl rfl
theorem zw_1544 : (.laysFinal "HeldCoatsModel" "HeldCoatsModel" "areKept" "[Z" : Cond) ∈ zTB := z_mem zc_7 104 rfl rfl
theorem zw_1547 : (.arrayClass .boolean : Cond) ∈ zTB := z_mem zc_7 107 rfl rfl
theorem zw_1548 : (.methodLink "HeldCoatsLaw" 36 ⟨"HeldCoatsModel", "capital", "()I"⟩ : Cond) ∈ zTB := z_mem zc_7 108 rfl rfl
theorem zw_1549 : (.instanceMethod ⟨"HeldCoatsModel", "capital", "()I"⟩ : Cond) ∈ zTB := z_mem zc_7 109 rfl rfl
theorem zw_1550 : (.selects "HeldCoatsModel" ⟨"HeldCoatsModel", "capital", "()I"⟩ ⟨"HeldCoatsModel", "capital", "()I"⟩ : Cond) ∈ zTB := z_mem zc_7 110 rfl rfl
theorem zw_1551 : (.code ⟨"HeldCoatsModel", "capital", "()I"⟩ prog_14_method_32_code 2 (some .int) : Cond) ∈ zTB := z_mem zc_7 111 rfl rfl
theorem zw_1552 : (.methodLink "HeldCoatsModel" 219 ⟨"HeldCoatsModel", "taken", "(I)V"⟩ : Cond) ∈ zTB := z_mem zc_7 112 rfl rfl
theorem zw_1554 : (.instanceMethod ⟨"HeldCoatsModel", "taken", "(I)V"⟩ : Cond) ∈ zTB := z_mem zc_7 114 rfl rfl
theorem zw_1555 : (.code ⟨"HeldCoatsModel", "taken", "(I)V"⟩ prog_14_method_6_code 2 none : Cond) ∈ zTB := z_mem zc_7 115 rfl rfl
theorem zw_1556 : (.methodLink "HeldCoatsModel" 168 ⟨"HeldCoatsModel", "next", "()V"⟩ : Cond) ∈ zTB := z_mem zc_7 116 rfl rfl
theorem zw_1558 : (.instanceMethod ⟨"HeldCoatsModel", "next", "()V"⟩ : Cond) ∈ zTB := z_mem zc_7 118 rfl rfl
theorem zw_1559 : (.code ⟨"HeldCoatsModel", "next", "()V"⟩ prog_14_method_17_code 4 none : Cond) ∈ zTB := z_mem zc_7 119 rfl rfl
theorem zw_1560 : (.methodLink "HeldCoatsModel" 129 ⟨"HeldCoatsModel", "peek", "()I"⟩ : Cond) ∈ zTB := z_mem zc_7 120 rfl rfl
theorem zw_1562 : (.instanceMethod ⟨"HeldCoatsModel", "peek", "()I"⟩ : Cond) ∈ zTB := z_mem zc_7 122 rfl rfl
theorem zw_1563 : (.code ⟨"HeldCoatsModel", "peek", "()I"⟩ prog_14_method_14_code 1 (some .int) : Cond) ∈ zTB := z_mem zc_7 123 rfl rfl
theorem zw_1574 : (.methodLink "HeldCoatsModel" 202 ⟨"HeldCoatsModel", "isWord", "(J)Z"⟩ : Cond) ∈ zTB := z_mem zc_7 134 rfl rfl
theorem zw_1576 : (.instanceMethod ⟨"HeldCoatsModel", "isWord", "(J)Z"⟩ : Cond) ∈ zTB := z_mem zc_7 136 rfl rfl
theorem zw_1577 : (.code ⟨"HeldCoatsModel", "isWord", "(J)Z"⟩ prog_14_method_19_code 3 (some .boolean) : Cond) ∈ zTB := z_mem zc_7 137 rfl rfl
theorem zw_1578 : (.methodLink "HeldCoatsModel" 165 ⟨"HeldCoatsModel", "bad", "(I)Z"⟩ : Cond) ∈ zTB := z_mem zc_7 138 rfl rfl
theorem zw_1580 : (.instanceMethod ⟨"HeldCoatsModel", "bad", "(I)Z"⟩ : Cond) ∈ zTB := z_mem zc_7 140 rfl rfl
theorem zw_1581 : (.code ⟨"HeldCoatsModel", "bad", "(I)Z"⟩ prog_14_method_18_code 2 (some .boolean) : Cond) ∈ zTB := z_mem zc_7 141 rfl rfl
theorem zw_1602 : (.methodLink "HeldCoatsModel" 171 ⟨"HeldCoatsModel", "isIn", "(III)Z"⟩ : Cond) ∈ zTB := z_mem zc_7 162 rfl rfl
theorem zw_1603 : (.static ⟨"HeldCoatsModel", "isIn", "(III)Z"⟩ : Cond) ∈ zTB := z_mem zc_7 163 rfl rfl
theorem zw_1604 : (.code ⟨"HeldCoatsModel", "isIn", "(III)Z"⟩ prog_14_method_7_code 3 (some .boolean) : Cond) ∈ zTB := z_mem zc_7 164 rfl rfl
theorem zw_1628 : (.methodLink "HeldCoatsModel" 162 ⟨"HeldCoatsModel", "isSign", "(I)Z"⟩ : Cond) ∈ zTB := z_mem zc_7 188 rfl rfl
theorem zw_1630 : (.instanceMethod ⟨"HeldCoatsModel", "isSign", "(I)Z"⟩ : Cond) ∈ zTB := z_mem zc_7 190 rfl rfl
theorem zw_1631 : (.code ⟨"HeldCoatsModel", "isSign", "(I)Z"⟩ prog_14_method_20_code 2 (some .boolean) : Cond) ∈ zTB := z_mem zc_7 191 rfl rfl
theorem zw_1632 : (.methodLink "HeldCoatsLaw" 40 ⟨"HeldCoatsModel", "fault", "()I"⟩ : Cond) ∈ zTB := z_mem zc_7 192 rfl rfl
theorem zw_1633 : (.instanceMethod ⟨"HeldCoatsModel", "fault", "()I"⟩ : Cond) ∈ zTB := z_mem zc_7 193 rfl rfl
theorem zw_1634 : (.selects "HeldCoatsModel" ⟨"HeldCoatsModel", "fault", "()I"⟩ ⟨"HeldCoatsModel", "fault", "()I"⟩ : Cond) ∈ zTB := z_mem zc_7 194 rfl rfl
theorem zw_1635 : (.code ⟨"HeldCoatsModel", "fault", "()I"⟩ prog_14_method_33_code 1 (some .int) : Cond) ∈ zTB := z_mem zc_7 195 rfl rfl
theorem zw_1636 : (.methodLink "HeldCoatsLaw" 44 ⟨"HeldCoatsModel", "seat", "(II)I"⟩ : Cond) ∈ zTB := z_mem zc_7 196 rfl rfl
theorem zw_1637 : (.instanceMethod ⟨"HeldCoatsModel", "seat", "(II)I"⟩ : Cond) ∈ zTB := z_mem zc_7 197 rfl rfl
theorem zw_1638 : (.selects "HeldCoatsModel" ⟨"HeldCoatsModel", "seat", "(II)I"⟩ ⟨"HeldCoatsModel", "seat", "(II)I"⟩ : Cond) ∈ zTB := z_mem zc_7 198 rfl rfl
theorem zw_1639 : (.code ⟨"HeldCoatsModel", "seat", "(II)I"⟩ prog_14_method_49_code 4 (some .int) : Cond) ∈ zTB := z_mem zc_7 199 rfl rfl
theorem zw_1640 : (.methodLink "HeldCoatsModel" 264 ⟨"HeldCoatsModel", "isSeat", "(I)Z"⟩ : Cond) ∈ zTB := z_mem zc_7 200 rfl rfl
theorem zw_1642 : (.instanceMethod ⟨"HeldCoatsModel", "isSeat", "(I)Z"⟩ : Cond) ∈ zTB := z_mem zc_7 202 rfl rfl
theorem zw_1643 : (.code ⟨"HeldCoatsModel", "isSeat", "(I)Z"⟩ prog_14_method_34_code 2 (some .boolean) : Cond) ∈ zTB := z_mem zc_7 203 rfl rfl
theorem zw_1652 : (.methodLink "HeldCoatsModel" 241 ⟨"HeldCoatsModel", "isSummer", "()Z"⟩ : Cond) ∈ zTB := z_mem zc_7 212 rfl rfl
theorem zw_1654 : (.instanceMethod ⟨"HeldCoatsModel", "isSummer", "()Z"⟩ : Cond) ∈ zTB := z_mem zc_7 214 rfl rfl
theorem zw_1655 : (.code ⟨"HeldCoatsModel", "isSummer", "()Z"⟩ prog_14_method_39_code 1 (some .boolean) : Cond) ∈ zTB := z_mem zc_7 215 rfl rfl
theorem zw_1656 : (.methodLink "HeldCoatsModel" 234 ⟨"HeldCoatsModel", "coldOn", "(I)I"⟩ : Cond) ∈ zTB := z_mem zc_7 216 rfl rfl
theorem zw_1658 : (.instanceMethod ⟨"HeldCoatsModel", "coldOn", "(I)I"⟩ : Cond) ∈ zTB := z_mem zc_7 218 rfl rfl
theorem zw_1659 : (.code ⟨"HeldCoatsModel", "coldOn", "(I)I"⟩ prog_14_method_38_code 5 (some .int) : Cond) ∈ zTB := z_mem zc_7 219 rfl rfl
theorem zw_1668 : (.methodLink "HeldCoatsModel" 270 ⟨"HeldCoatsModel", "isMan", "(I)Z"⟩ : Cond) ∈ zTB := z_mem zc_7 228 rfl rfl
theorem zw_1670 : (.instanceMethod ⟨"HeldCoatsModel", "isMan", "(I)Z"⟩ : Cond) ∈ zTB := z_mem zc_7 230 rfl rfl
theorem zw_1671 : (.code ⟨"HeldCoatsModel", "isMan", "(I)Z"⟩ prog_14_method_35_code 2 (some .boolean) : Cond) ∈ zTB := z_mem zc_7 231 rfl rfl
theorem zw_1680 : (.methodLink "HeldCoatsModel" 253 ⟨"HeldCoatsModel", "coatsAt", "(I)I"⟩ : Cond) ∈ zTB := z_mem zc_8 0 rfl rfl
theorem zw_1682 : (.instanceMethod ⟨"HeldCoatsModel", "coatsAt", "(I)I"⟩ : Cond) ∈ zTB := z_mem zc_8 2 rfl rfl
theorem zw_1683 : (.code ⟨"HeldCoatsModel", "coatsAt", "(I)I"⟩ prog_14_method_43_code 4 (some .int) : Cond) ∈ zTB := z_mem zc_8 3 rfl rfl
theorem zw_1699 : (.methodLink "HeldCoatsModel" 280 ⟨"HeldCoatsModel", "isCoat", "(I)Z"⟩ : Cond) ∈ zTB := z_mem zc_8 19 rfl rfl
theorem zw_1701 : (.instanceMethod ⟨"HeldCoatsModel", "isCoat", "(I)Z"⟩ : Cond) ∈ zTB := z_mem zc_8 21 rfl rfl
theorem zw_1702 : (.code ⟨"HeldCoatsModel", "isCoat", "(I)Z"⟩ prog_14_method_36_code 2 (some .boolean) : Cond) ∈ zTB := z_mem zc_8 22 rfl rfl
theorem zw_1703 : (.methodLink "HeldCoatsLaw" 61 ⟨"HeldCoatsModel", "now", "(I)I"⟩ : Cond) ∈ zTB := z_mem zc_8 23 rfl rfl
theorem zw_1704 : (.instanceMethod ⟨"HeldCoatsModel", "now", "(I)I"⟩ : Cond) ∈ zTB := z_mem zc_8 24 rfl rfl
theorem zw_1705 : (.selects "HeldCoatsModel" ⟨"HeldCoatsModel", "now", "(I)I"⟩ ⟨"HeldCoatsModel", "now", "(I)I"⟩ : Cond) ∈ zTB := z_mem zc_8 25 rfl rfl
theorem zw_1706 : (.code ⟨"HeldCoatsModel", "now", "(I)I"⟩ prog_14_method_52_code 2 (some .int) : Cond) ∈ zTB := z_mem zc_8 26 rfl rfl
theorem zw_1707 : (.methodLink "HeldCoatsModel" 283 ⟨"HeldCoatsModel", "ruler", "()I"⟩ : Cond) ∈ zTB := z_mem zc_8 27 rfl rfl
theorem zw_1709 : (.instanceMethod ⟨"HeldCoatsModel", "ruler", "()I"⟩ : Cond) ∈ zTB := z_mem zc_8 29 rfl rfl
theorem zw_1710 : (.code ⟨"HeldCoatsModel", "ruler", "()I"⟩ prog_14_method_48_code 1 (some .int) : Cond) ∈ zTB := z_mem zc_8 30 rfl rfl
theorem zw_1711 : (.methodLink "HeldCoatsModel" 260 ⟨"HeldCoatsModel", "rulerBy", "(Z)I"⟩ : Cond) ∈ zTB := z_mem zc_8 31 rfl rfl
theorem zw_1713 : (.instanceMethod ⟨"HeldCoatsModel", "rulerBy", "(Z)I"⟩ : Cond) ∈ zTB := z_mem zc_8 33 rfl rfl
theorem zw_1714 : (.code ⟨"HeldCoatsModel", "rulerBy", "(Z)I"⟩ prog_14_method_47_code 7 (some .int) : Cond) ∈ zTB := z_mem zc_8 34 rfl rfl
theorem zw_1715 : (.methodLink "HeldCoatsLaw" 65 ⟨"HeldCoatsModel", "lay", "(II)I"⟩ : Cond) ∈ zTB := z_mem zc_8 35 rfl rfl
theorem zw_1716 : (.instanceMethod ⟨"HeldCoatsModel", "lay", "(II)I"⟩ : Cond) ∈ zTB := z_mem zc_8 36 rfl rfl
theorem zw_1717 : (.selects "HeldCoatsModel" ⟨"HeldCoatsModel", "lay", "(II)I"⟩ ⟨"HeldCoatsModel", "lay", "(II)I"⟩ : Cond) ∈ zTB := z_mem zc_8 37 rfl rfl
theorem zw_1718 : (.code ⟨"HeldCoatsModel", "lay", "(II)I"⟩ prog_14_method_63_code 4 (some .int) : Cond) ∈ zTB := z_mem zc_8 38 rfl rfl
theorem zw_1727 : (.methodLink "HeldCoatsModel" 304 ⟨"HeldCoatsModel", "keepsAll", "()V"⟩ : Cond) ∈ zTB := z_mem zc_8 47 rfl rfl
theorem zw_1729 : (.instanceMethod ⟨"HeldCoatsModel", "keepsAll", "()V"⟩ : Cond) ∈ zTB := z_mem zc_8 49 rfl rfl
theorem zw_1730 : (.code ⟨"HeldCoatsModel", "keepsAll", "()V"⟩ prog_14_method_68_code 2 none : Cond) ∈ zTB := z_mem zc_8 50 rfl rfl
theorem zw_1735 : (.methodLink "HeldCoatsLaw" 69 ⟨"HeldCoatsModel", "wear", "(II)I"⟩ : Cond) ∈ zTB := z_mem zc_8 55 rfl rfl
theorem zw_1736 : (.instanceMethod ⟨"HeldCoatsModel", "wear", "(II)I"⟩ : Cond) ∈ zTB := z_mem zc_8 56 rfl rfl
theorem zw_1737 : (.selects "HeldCoatsModel" ⟨"HeldCoatsModel", "wear", "(II)I"⟩ ⟨"HeldCoatsModel", "wear", "(II)I"⟩ : Cond) ∈ zTB := z_mem zc_8 57 rfl rfl
theorem zw_1738 : (.code ⟨"HeldCoatsModel", "wear", "(II)I"⟩ prog_14_method_64_code 4 (some .int) : Cond) ∈ zTB := z_mem zc_8 58 rfl rfl
theorem zw_1751 : (.methodLink "HeldCoatsLaw" 73 ⟨"HeldCoatsModel", "lend", "(II)I"⟩ : Cond) ∈ zTB := z_mem zc_8 71 rfl rfl
theorem zw_1752 : (.instanceMethod ⟨"HeldCoatsModel", "lend", "(II)I"⟩ : Cond) ∈ zTB := z_mem zc_8 72 rfl rfl
theorem zw_1753 : (.selects "HeldCoatsModel" ⟨"HeldCoatsModel", "lend", "(II)I"⟩ ⟨"HeldCoatsModel", "lend", "(II)I"⟩ : Cond) ∈ zTB := z_mem zc_8 73 rfl rfl
theorem zw_1754 : (.code ⟨"HeldCoatsModel", "lend", "(II)I"⟩ prog_14_method_65_code 4 (some .int) : Cond) ∈ zTB := z_mem zc_8 74 rfl rfl
theorem zw_1759 : (.methodLink "HeldCoatsLaw" 77 ⟨"HeldCoatsModel", "keep", "(I)I"⟩ : Cond) ∈ zTB := z_mem zc_8 79 rfl rfl
theorem zw_1760 : (.instanceMethod ⟨"HeldCoatsModel", "keep", "(I)I"⟩ : Cond) ∈ zTB := z_mem zc_8 80 rfl rfl
theorem zw_1761 : (.selects "HeldCoatsModel" ⟨"HeldCoatsModel", "keep", "(I)I"⟩ ⟨"HeldCoatsModel", "keep", "(I)I"⟩ : Cond) ∈ zTB := z_mem zc_8 81 rfl rfl
theorem zw_1762 : (.code ⟨"HeldCoatsModel", "keep", "(I)I"⟩ prog_14_method_66_code 2 (some .int) : Cond) ∈ zTB := z_mem zc_8 82 rfl rfl
theorem zw_1767 : (.methodLink "HeldCoatsLaw" 81 ⟨"HeldCoatsModel", "days", "(I)I"⟩ : Cond) ∈ zTB := z_mem zc_8 87 rfl rfl
theorem zw_1768 : (.instanceMethod ⟨"HeldCoatsModel", "days", "(I)I"⟩ : Cond) ∈ zTB := z_mem zc_8 88 rfl rfl
theorem zw_1769 : (.selects "HeldCoatsModel" ⟨"HeldCoatsModel", "days", "(I)I"⟩ ⟨"HeldCoatsModel", "days", "(I)I"⟩ : Cond) ∈ zTB := z_mem zc_8 89 rfl rfl
theorem zw_1770 : (.code ⟨"HeldCoatsModel", "days", "(I)I"⟩ prog_14_method_67_code 2 (some .int) : Cond) ∈ zTB := z_mem zc_8 90 rfl rfl
theorem zw_1771 : (.methodLink "HeldCoatsModel" 320 ⟨"HeldCoatsModel", "goesOn", "(I)I"⟩ : Cond) ∈ zTB := z_mem zc_8 91 rfl rfl
theorem zw_1773 : (.instanceMethod ⟨"HeldCoatsModel", "goesOn", "(I)I"⟩ : Cond) ∈ zTB := z_mem zc_8 93 rfl rfl
theorem zw_1774 : (.code ⟨"HeldCoatsModel", "goesOn", "(I)I"⟩ prog_14_method_62_code 3 (some .int) : Cond) ∈ zTB := z_mem zc_8 94 rfl rfl
theorem zw_1775 : (.methodLink "HeldCoatsModel" 298 ⟨"HeldCoatsModel", "day", "()V"⟩ : Cond) ∈ zTB := z_mem zc_8 95 rfl rfl
theorem zw_1777 : (.instanceMethod ⟨"HeldCoatsModel", "day", "()V"⟩ : Cond) ∈ zTB := z_mem zc_8 97 rfl rfl
theorem zw_1778 : (.code ⟨"HeldCoatsModel", "day", "()V"⟩ prog_14_method_61_code 3 none : Cond) ∈ zTB := z_mem zc_8 98 rfl rfl
theorem zw_1783 : (.methodLink "HeldCoatsLaw" 85 ⟨"HeldCoatsModel", "undo", "()I"⟩ : Cond) ∈ zTB := z_mem zc_8 103 rfl rfl
theorem zw_1784 : (.instanceMethod ⟨"HeldCoatsModel", "undo", "()I"⟩ : Cond) ∈ zTB := z_mem zc_8 104 rfl rfl
theorem zw_1785 : (.selects "HeldCoatsModel" ⟨"HeldCoatsModel", "undo", "()I"⟩ ⟨"HeldCoatsModel", "undo", "()I"⟩ : Cond) ∈ zTB := z_mem zc_8 105 rfl rfl
theorem zw_1786 : (.code ⟨"HeldCoatsModel", "undo", "()I"⟩ prog_14_method_69_code 2 (some .int) : Cond) ∈ zTB := z_mem zc_8 106 rfl rfl
theorem zw_1787 : (.methodLink "HeldCoatsLaw" 89 ⟨"HeldCoatsModel", "best", "(II)I"⟩ : Cond) ∈ zTB := z_mem zc_8 107 rfl rfl
theorem zw_1788 : (.instanceMethod ⟨"HeldCoatsModel", "best", "(II)I"⟩ : Cond) ∈ zTB := z_mem zc_8 108 rfl rfl
theorem zw_1789 : (.selects "HeldCoatsModel" ⟨"HeldCoatsModel", "best", "(II)I"⟩ ⟨"HeldCoatsModel", "best", "(II)I"⟩ : Cond) ∈ zTB := z_mem zc_8 109 rfl rfl
theorem zw_1790 : (.code ⟨"HeldCoatsModel", "best", "(II)I"⟩ prog_14_method_73_code 8 (some .int) : Cond) ∈ zTB := z_mem zc_8 110 rfl rfl
theorem zw_1791 : (.methodLink "HeldCoatsModel" 323 ⟨"HeldCoatsModel", "bits", "(I)I"⟩ : Cond) ∈ zTB := z_mem zc_8 111 rfl rfl
theorem zw_1792 : (.static ⟨"HeldCoatsModel", "bits", "(I)I"⟩ : Cond) ∈ zTB := z_mem zc_8 112 rfl rfl
theorem zw_1793 : (.code ⟨"HeldCoatsModel", "bits", "(I)I"⟩ prog_14_method_10_code 3 (some .int) : Cond) ∈ zTB := z_mem zc_8 113 rfl rfl
theorem zw_1798 : (.methodLink "HeldCoatsLaw" 93 ⟨"HeldCoatsModel", "laid", "()I"⟩ : Cond) ∈ zTB := z_mem zc_8 118 rfl rfl
theorem zw_1799 : (.instanceMethod ⟨"HeldCoatsModel", "laid", "()I"⟩ : Cond) ∈ zTB := z_mem zc_8 119 rfl rfl
theorem zw_1800 : (.selects "HeldCoatsModel" ⟨"HeldCoatsModel", "laid", "()I"⟩ ⟨"HeldCoatsModel", "laid", "()I"⟩ : Cond) ∈ zTB := z_mem zc_8 120 rfl rfl
theorem zw_1801 : (.code ⟨"HeldCoatsModel", "laid", "()I"⟩ prog_14_method_74_code 1 (some .int) : Cond) ∈ zTB := z_mem zc_8 121 rfl rfl
theorem zw_1802 : (.methodLink "HeldCoatsLaw" 98 ⟨"HeldCoatsModel", "share", "(IIII)I"⟩ : Cond) ∈ zTB := z_mem zc_8 122 rfl rfl
theorem zw_1803 : (.instanceMethod ⟨"HeldCoatsModel", "share", "(IIII)I"⟩ : Cond) ∈ zTB := z_mem zc_8 123 rfl rfl
theorem zw_1804 : (.selects "HeldCoatsModel" ⟨"HeldCoatsModel", "share", "(IIII)I"⟩ ⟨"HeldCoatsModel", "share", "(IIII)I"⟩ : Cond) ∈ zTB := z_mem zc_8 124 rfl rfl
theorem zw_1805 : (.code ⟨"HeldCoatsModel", "share", "(IIII)I"⟩ prog_14_method_76_code 13 (some .int) : Cond) ∈ zTB := z_mem zc_8 125 rfl rfl
theorem zw_1810 : (.methodLink "HeldCoatsLaw" 102 ⟨"HeldCoatsModel", "turns", "()I"⟩ : Cond) ∈ zTB := z_mem zc_8 130 rfl rfl
theorem zw_1811 : (.instanceMethod ⟨"HeldCoatsModel", "turns", "()I"⟩ : Cond) ∈ zTB := z_mem zc_8 131 rfl rfl
theorem zw_1812 : (.selects "HeldCoatsModel" ⟨"HeldCoatsModel", "turns", "()I"⟩ ⟨"HeldCoatsModel", "turns", "()I"⟩ : Cond) ∈ zTB := z_mem zc_8 132 rfl rfl
theorem zw_1813 : (.code ⟨"HeldCoatsModel", "turns", "()I"⟩ prog_14_method_77_code 1 (some .int) : Cond) ∈ zTB := z_mem zc_8 133 rfl rfl
theorem zw_1814 : (.methodLink "HeldCoatsLaw" 106 ⟨"HeldCoatsModel", "ahead", "(I)I"⟩ : Cond) ∈ zTB := z_mem zc_8 134 rfl rfl
theorem zw_1815 : (.instanceMethod ⟨"HeldCoatsModel", "ahead", "(I)I"⟩ : Cond) ∈ zTB := z_mem zc_8 135 rfl rfl
theorem zw_1816 : (.selects "HeldCoatsModel" ⟨"HeldCoatsModel", "ahead", "(I)I"⟩ ⟨"HeldCoatsModel", "ahead", "(I)I"⟩ : Cond) ∈ zTB := z_mem zc_8 136 rfl rfl
theorem zw_1817 : (.code ⟨"HeldCoatsModel", "ahead", "(I)I"⟩ prog_14_method_79_code 2 (some .int) : Cond) ∈ zTB := z_mem zc_8 137 rfl rfl
theorem zw_1822 : (.methodLink "HeldCoatsLaw" 110 ⟨"HeldCoatsModel", "queue", "(I)I"⟩ : Cond) ∈ zTB := z_mem zc_8 142 rfl rfl
theorem zw_1823 : (.instanceMethod ⟨"HeldCoatsModel", "queue", "(I)I"⟩ : Cond) ∈ zTB := z_mem zc_8 143 rfl rfl
theorem zw_1824 : (.selects "HeldCoatsModel" ⟨"HeldCoatsModel", "queue", "(I)I"⟩ ⟨"HeldCoatsModel", "queue", "(I)I"⟩ : Cond) ∈ zTB := z_mem zc_8 144 rfl rfl
theorem zw_1825 : (.code ⟨"HeldCoatsModel", "queue", "(I)I"⟩ prog_14_method_80_code 2 (some .int) : Cond) ∈ zTB := z_mem zc_8 145 rfl rfl
theorem zw_1826 : (.methodLink "HeldCoatsLaw" 114 ⟨"HeldCoatsModel", "bribes", "(I)I"⟩ : Cond) ∈ zTB := z_mem zc_8 146 rfl rfl
theorem zw_1827 : (.instanceMethod ⟨"HeldCoatsModel", "bribes", "(I)I"⟩ : Cond) ∈ zTB := z_mem zc_8 147 rfl rfl
theorem zw_1828 : (.selects "HeldCoatsModel" ⟨"HeldCoatsModel", "bribes", "(I)I"⟩ ⟨"HeldCoatsModel", "bribes", "(I)I"⟩ : Cond) ∈ zTB := z_mem zc_8 148 rfl rfl
theorem zw_1829 : (.code ⟨"HeldCoatsModel", "bribes", "(I)I"⟩ prog_14_method_81_code 3 (some .int) : Cond) ∈ zTB := z_mem zc_8 149 rfl rfl
theorem zw_1830 : (.methodLink "HeldCoatsLaw" 118 ⟨"HeldCoatsModel", "frost", "(II)I"⟩ : Cond) ∈ zTB := z_mem zc_8 150 rfl rfl
theorem zw_1831 : (.instanceMethod ⟨"HeldCoatsModel", "frost", "(II)I"⟩ : Cond) ∈ zTB := z_mem zc_8 151 rfl rfl
theorem zw_1832 : (.selects "HeldCoatsModel" ⟨"HeldCoatsModel", "frost", "(II)I"⟩ ⟨"HeldCoatsModel", "frost", "(II)I"⟩ : Cond) ∈ zTB := z_mem zc_8 152 rfl rfl
theorem zw_1833 : (.code ⟨"HeldCoatsModel", "frost", "(II)I"⟩ prog_14_method_84_code 3 (some .int) : Cond) ∈ zTB := z_mem zc_8 153 rfl rfl
theorem zw_1834 : (.methodLink "HeldCoatsModel" 351 ⟨"HeldCoatsModel", "areTwo", "(II)Z"⟩ : Cond) ∈ zTB := z_mem zc_8 154 rfl rfl
theorem zw_1836 : (.instanceMethod ⟨"HeldCoatsModel", "areTwo", "(II)Z"⟩ : Cond) ∈ zTB := z_mem zc_8 156 rfl rfl
theorem zw_1837 : (.code ⟨"HeldCoatsModel", "areTwo", "(II)Z"⟩ prog_14_method_83_code 3 (some .boolean) : Cond) ∈ zTB := z_mem zc_8 157 rfl rfl
theorem zw_1842 : (.methodLink "HeldCoatsLaw" 122 ⟨"HeldCoatsModel", "frostAt", "(II)I"⟩ : Cond) ∈ zTB := z_mem zc_8 162 rfl rfl
theorem zw_1843 : (.instanceMethod ⟨"HeldCoatsModel", "frostAt", "(II)I"⟩ : Cond) ∈ zTB := z_mem zc_8 163 rfl rfl
theorem zw_1844 : (.selects "HeldCoatsModel" ⟨"HeldCoatsModel", "frostAt", "(II)I"⟩ ⟨"HeldCoatsModel", "frostAt", "(II)I"⟩ : Cond) ∈ zTB := z_mem zc_8 164 rfl rfl
theorem zw_1845 : (.code ⟨"HeldCoatsModel", "frostAt", "(II)I"⟩ prog_14_method_85_code 3 (some .int) : Cond) ∈ zTB := z_mem zc_8 165 rfl rfl
theorem zw_1846 : (.methodLink "HeldCoatsLaw" 126 ⟨"HeldCoatsModel", "word", "(I)I"⟩ : Cond) ∈ zTB := z_mem zc_8 166 rfl rfl
theorem zw_1847 : (.instanceMethod ⟨"HeldCoatsModel", "word", "(I)I"⟩ : Cond) ∈ zTB := z_mem zc_8 167 rfl rfl
theorem zw_1848 : (.selects "HeldCoatsModel" ⟨"HeldCoatsModel", "word", "(I)I"⟩ ⟨"HeldCoatsModel", "word", "(I)I"⟩ : Cond) ∈ zTB := z_mem zc_8 168 rfl rfl
theorem zw_1849 : (.code ⟨"HeldCoatsModel", "word", "(I)I"⟩ prog_14_method_86_code 4 (some .int) : Cond) ∈ zTB := z_mem zc_8 169 rfl rfl
theorem zw_1850 : (.methodLink "HeldCoatsModel" 357 ⟨"HeldCoatsModel", "tries", "()V"⟩ : Cond) ∈ zTB := z_mem zc_8 170 rfl rfl
theorem zw_1852 : (.instanceMethod ⟨"HeldCoatsModel", "tries", "()V"⟩ : Cond) ∈ zTB := z_mem zc_8 172 rfl rfl
theorem zw_1853 : (.code ⟨"HeldCoatsModel", "tries", "()V"⟩ prog_14_method_70_code 2 none : Cond) ∈ zTB := z_mem zc_8 173 rfl rfl
theorem zw_1854 : (.methodLink "HeldCoatsModel" 360 ⟨"HeldCoatsModel", "back", "()V"⟩ : Cond) ∈ zTB := z_mem zc_8 174 rfl rfl
theorem zw_1856 : (.instanceMethod ⟨"HeldCoatsModel", "back", "()V"⟩ : Cond) ∈ zTB := z_mem zc_8 176 rfl rfl
theorem zw_1857 : (.code ⟨"HeldCoatsModel", "back", "()V"⟩ prog_14_method_71_code 2 none : Cond) ∈ zTB := z_mem zc_8 177 rfl rfl
theorem zw_1858 : (.methodLink "HeldCoatsLaw" 130 ⟨"HeldCoatsModel", "bare", "()I"⟩ : Cond) ∈ zTB := z_mem zc_8 178 rfl rfl
theorem zw_1859 : (.instanceMethod ⟨"HeldCoatsModel", "bare", "()I"⟩ : Cond) ∈ zTB := z_mem zc_8 179 rfl rfl
theorem zw_1860 : (.selects "HeldCoatsModel" ⟨"HeldCoatsModel", "bare", "()I"⟩ ⟨"HeldCoatsModel", "bare", "()I"⟩ : Cond) ∈ zTB := z_mem zc_8 180 rfl rfl
theorem zw_1861 : (.code ⟨"HeldCoatsModel", "bare", "()I"⟩ prog_14_method_88_code 1 (some .int) : Cond) ∈ zTB := z_mem zc_8 181 rfl rfl
theorem zw_1862 : (.methodLink "HeldCoatsModel" 363 ⟨"HeldCoatsModel", "firstOf", "(I)I"⟩ : Cond) ∈ zTB := z_mem zc_8 182 rfl rfl
theorem zw_1864 : (.instanceMethod ⟨"HeldCoatsModel", "firstOf", "(I)I"⟩ : Cond) ∈ zTB := z_mem zc_8 184 rfl rfl
theorem zw_1865 : (.code ⟨"HeldCoatsModel", "firstOf", "(I)I"⟩ prog_14_method_87_code 3 (some .int) : Cond) ∈ zTB := z_mem zc_8 185 rfl rfl
theorem zw_1866 : (.methodLink "HeldCoatsLaw" 134 ⟨"HeldCoatsModel", "rules", "(I)I"⟩ : Cond) ∈ zTB := z_mem zc_8 186 rfl rfl
theorem zw_1867 : (.instanceMethod ⟨"HeldCoatsModel", "rules", "(I)I"⟩ : Cond) ∈ zTB := z_mem zc_8 187 rfl rfl
theorem zw_1868 : (.selects "HeldCoatsModel" ⟨"HeldCoatsModel", "rules", "(I)I"⟩ ⟨"HeldCoatsModel", "rules", "(I)I"⟩ : Cond) ∈ zTB := z_mem zc_8 188 rfl rfl
theorem zw_1869 : (.code ⟨"HeldCoatsModel", "rules", "(I)I"⟩ prog_14_method_89_code 2 (some .int) : Cond) ∈ zTB := z_mem zc_8 189 rfl rfl
theorem zw_1870 : (.methodLink "HeldCoatsLaw" 138 ⟨"HeldCoatsModel", "harm", "(II)I"⟩ : Cond) ∈ zTB := z_mem zc_8 190 rfl rfl
theorem zw_1871 : (.instanceMethod ⟨"HeldCoatsModel", "harm", "(II)I"⟩ : Cond) ∈ zTB := z_mem zc_8 191 rfl rfl
theorem zw_1872 : (.selects "HeldCoatsModel" ⟨"HeldCoatsModel", "harm", "(II)I"⟩ ⟨"HeldCoatsModel", "harm", "(II)I"⟩ : Cond) ∈ zTB := z_mem zc_8 192 rfl rfl
theorem zw_1873 : (.code ⟨"HeldCoatsModel", "harm", "(II)I"⟩ prog_14_method_90_code 5 (some .int) : Cond) ∈ zTB := z_mem zc_8 193 rfl rfl
theorem zw_1874 : (.methodLink "HeldCoatsLaw" 142 ⟨"HeldCoatsModel", "hooks", "()I"⟩ : Cond) ∈ zTB := z_mem zc_8 194 rfl rfl
theorem zw_1875 : (.instanceMethod ⟨"HeldCoatsModel", "hooks", "()I"⟩ : Cond) ∈ zTB := z_mem zc_8 195 rfl rfl
theorem zw_1876 : (.selects "HeldCoatsModel" ⟨"HeldCoatsModel", "hooks", "()I"⟩ ⟨"HeldCoatsModel", "hooks", "()I"⟩ : Cond) ∈ zTB := z_mem zc_8 196 rfl rfl
theorem zw_1877 : (.code ⟨"HeldCoatsModel", "hooks", "()I"⟩ prog_14_method_91_code 7 (some .int) : Cond) ∈ zTB := z_mem zc_8 197 rfl rfl
theorem zw_1882 : (.methodLink "HeldCoatsLaw" 146 ⟨"HeldCoatsModel", "surely", "()I"⟩ : Cond) ∈ zTB := z_mem zc_8 202 rfl rfl
theorem zw_1883 : (.instanceMethod ⟨"HeldCoatsModel", "surely", "()I"⟩ : Cond) ∈ zTB := z_mem zc_8 203 rfl rfl
theorem zw_1884 : (.selects "HeldCoatsModel" ⟨"HeldCoatsModel", "surely", "()I"⟩ ⟨"HeldCoatsModel", "surely", "()I"⟩ : Cond) ∈ zTB := z_mem zc_8 204 rfl rfl
theorem zw_1885 : (.code ⟨"HeldCoatsModel", "surely", "()I"⟩ prog_14_method_92_code 1 (some .int) : Cond) ∈ zTB := z_mem zc_8 205 rfl rfl
theorem zw_1886 : (.methodLink "HeldCoatsLaw" 150 ⟨"HeldCoatsModel", "never", "()I"⟩ : Cond) ∈ zTB := z_mem zc_8 206 rfl rfl
theorem zw_1887 : (.instanceMethod ⟨"HeldCoatsModel", "never", "()I"⟩ : Cond) ∈ zTB := z_mem zc_8 207 rfl rfl
theorem zw_1888 : (.selects "HeldCoatsModel" ⟨"HeldCoatsModel", "never", "()I"⟩ ⟨"HeldCoatsModel", "never", "()I"⟩ : Cond) ∈ zTB := z_mem zc_8 208 rfl rfl
theorem zw_1889 : (.code ⟨"HeldCoatsModel", "never", "()I"⟩ prog_14_method_93_code 1 (some .int) : Cond) ∈ zTB := z_mem zc_8 209 rfl rfl
theorem zw_1890 : (.methodLink "HeldCoatsLaw" 154 ⟨"HeldCoatsModel", "rounds", "()I"⟩ : Cond) ∈ zTB := z_mem zc_8 210 rfl rfl
theorem zw_1891 : (.instanceMethod ⟨"HeldCoatsModel", "rounds", "()I"⟩ : Cond) ∈ zTB := z_mem zc_8 211 rfl rfl
theorem zw_1892 : (.selects "HeldCoatsModel" ⟨"HeldCoatsModel", "rounds", "()I"⟩ ⟨"HeldCoatsModel", "rounds", "()I"⟩ : Cond) ∈ zTB := z_mem zc_8 212 rfl rfl
theorem zw_1893 : (.code ⟨"HeldCoatsModel", "rounds", "()I"⟩ prog_14_method_94_code 6 (some .int) : Cond) ∈ zTB := z_mem zc_8 213 rfl rfl
theorem zw_1894 : (.methodLink "HeldCoatsLaw" 158 ⟨"HeldCoatsModel", "price", "()I"⟩ : Cond) ∈ zTB := z_mem zc_8 214 rfl rfl
theorem zw_1895 : (.instanceMethod ⟨"HeldCoatsModel", "price", "()I"⟩ : Cond) ∈ zTB := z_mem zc_8 215 rfl rfl
theorem zw_1896 : (.selects "HeldCoatsModel" ⟨"HeldCoatsModel", "price", "()I"⟩ ⟨"HeldCoatsModel", "price", "()I"⟩ : Cond) ∈ zTB := z_mem zc_8 216 rfl rfl
theorem zw_1897 : (.code ⟨"HeldCoatsModel", "price", "()I"⟩ prog_14_method_95_code 1 (some .int) : Cond) ∈ zTB := z_mem zc_8 217 rfl rfl
theorem zw_1898 : (.methodLink "HeldCoatsLaw" 162 ⟨"HeldCoatsModel", "drawn", "(II)I"⟩ : Cond) ∈ zTB := z_mem zc_8 218 rfl rfl
theorem zw_1899 : (.instanceMethod ⟨"HeldCoatsModel", "drawn", "(II)I"⟩ : Cond) ∈ zTB := z_mem zc_8 219 rfl rfl
theorem zw_1900 : (.selects "HeldCoatsModel" ⟨"HeldCoatsModel", "drawn", "(II)I"⟩ ⟨"HeldCoatsModel", "drawn", "(II)I"⟩ : Cond) ∈ zTB := z_mem zc_8 220 rfl rfl
theorem zw_1901 : (.code ⟨"HeldCoatsModel", "drawn", "(II)I"⟩ prog_14_method_99_code 3 (some .int) : Cond) ∈ zTB := z_mem zc_8 221 rfl rfl
theorem zw_1915 : (.methodLink "HeldCoatsLaw" 167 ⟨"HeldCoatsModel", "odds", "(III)I"⟩ : Cond) ∈ zTB := z_mem zc_8 235 rfl rfl
theorem zw_1916 : (.instanceMethod ⟨"HeldCoatsModel", "odds", "(III)I"⟩ : Cond) ∈ zTB := z_mem zc_8 236 rfl rfl
theorem zw_1917 : (.selects "HeldCoatsModel" ⟨"HeldCoatsModel", "odds", "(III)I"⟩ ⟨"HeldCoatsModel", "odds", "(III)I"⟩ : Cond) ∈ zTB := z_mem zc_8 237 rfl rfl
theorem zw_1918 : (.code ⟨"HeldCoatsModel", "odds", "(III)I"⟩ prog_14_method_100_code 7 (some .int) : Cond) ∈ zTB := z_mem zc_8 238 rfl rfl
theorem zw_1919 : (.methodLink "HeldCoatsLaw" 171 ⟨"HeldCoatsModel", "book", "(I)I"⟩ : Cond) ∈ zTB := z_mem zc_8 239 rfl rfl
theorem zw_1920 : (.instanceMethod ⟨"HeldCoatsModel", "book", "(I)I"⟩ : Cond) ∈ zTB := z_mem zc_9 0 rfl rfl
theorem zw_1921 : (.selects "HeldCoatsModel" ⟨"HeldCoatsModel", "book", "(I)I"⟩ ⟨"HeldCoatsModel", "book", "(I)I"⟩ : Cond) ∈ zTB := z_mem zc_9 1 rfl rfl
theorem zw_1922 : (.code ⟨"HeldCoatsModel", "book", "(I)I"⟩ prog_14_method_103_code 5 (some .int) : Cond) ∈ zTB := z_mem zc_9 2 rfl rfl
theorem zw_1931 : (.methodLink "HeldCoatsLaw" 175 ⟨"HeldCoatsModel", "told", "(I)I"⟩ : Cond) ∈ zTB := z_mem zc_9 11 rfl rfl
theorem zw_1932 : (.instanceMethod ⟨"HeldCoatsModel", "told", "(I)I"⟩ : Cond) ∈ zTB := z_mem zc_9 12 rfl rfl
theorem zw_1933 : (.selects "HeldCoatsModel" ⟨"HeldCoatsModel", "told", "(I)I"⟩ ⟨"HeldCoatsModel", "told", "(I)I"⟩ : Cond) ∈ zTB := z_mem zc_9 13 rfl rfl
theorem zw_1934 : (.code ⟨"HeldCoatsModel", "told", "(I)I"⟩ prog_14_method_104_code 2 (some .int) : Cond) ∈ zTB := z_mem zc_9 14 rfl rfl
theorem zw_1935 : (.methodLink "HeldCoatsLaw" 179 ⟨"HeldCoatsModel", "sentence", "()I"⟩ : Cond) ∈ zTB := z_mem zc_9 15 rfl rfl
theorem zw_1936 : (.instanceMethod ⟨"HeldCoatsModel", "sentence", "()I"⟩ : Cond) ∈ zTB := z_mem zc_9 16 rfl rfl
theorem zw_1937 : (.selects "HeldCoatsModel" ⟨"HeldCoatsModel", "sentence", "()I"⟩ ⟨"HeldCoatsModel", "sentence", "()I"⟩ : Cond) ∈ zTB := z_mem zc_9 17 rfl rfl
theorem zw_1938 : (.code ⟨"HeldCoatsModel", "sentence", "()I"⟩ prog_14_method_111_code 3 (some .int) : Cond) ∈ zTB := z_mem zc_9 18 rfl rfl
theorem zw_1955 : (.methodLink "HeldCoatsModel" 440 ⟨"HeldCoatsModel", "operand", "()Z"⟩ : Cond) ∈ zTB := z_mem zc_9 35 rfl rfl
theorem zw_1957 : (.instanceMethod ⟨"HeldCoatsModel", "operand", "()Z"⟩ : Cond) ∈ zTB := z_mem zc_9 37 rfl rfl
theorem zw_1958 : (.code ⟨"HeldCoatsModel", "operand", "()Z"⟩ prog_14_method_109_code 5 (some .boolean) : Cond) ∈ zTB := z_mem zc_9 38 rfl rfl
theorem zw_1959 : (.methodLink "HeldCoatsModel" 422 ⟨"HeldCoatsModel", "leafOf", "()I"⟩ : Cond) ∈ zTB := z_mem zc_9 39 rfl rfl
theorem zw_1961 : (.instanceMethod ⟨"HeldCoatsModel", "leafOf", "()I"⟩ : Cond) ∈ zTB := z_mem zc_9 41 rfl rfl
theorem zw_1962 : (.code ⟨"HeldCoatsModel", "leafOf", "()I"⟩ prog_14_method_108_code 1 (some .int) : Cond) ∈ zTB := z_mem zc_9 42 rfl rfl
theorem zw_1963 : (.methodLink "HeldCoatsLaw" 183 ⟨"HeldCoatsModel", "said", "(I)I"⟩ : Cond) ∈ zTB := z_mem zc_9 43 rfl rfl
theorem zw_1964 : (.instanceMethod ⟨"HeldCoatsModel", "said", "(I)I"⟩ : Cond) ∈ zTB := z_mem zc_9 44 rfl rfl
theorem zw_1965 : (.selects "HeldCoatsModel" ⟨"HeldCoatsModel", "said", "(I)I"⟩ ⟨"HeldCoatsModel", "said", "(I)I"⟩ : Cond) ∈ zTB := z_mem zc_9 45 rfl rfl
theorem zw_1966 : (.code ⟨"HeldCoatsModel", "said", "(I)I"⟩ prog_14_method_114_code 4 (some .int) : Cond) ∈ zTB := z_mem zc_9 46 rfl rfl
theorem zw_1975 : (.methodLink "HeldCoatsLaw" 187 ⟨"HeldCoatsModel", "image", "(I)Z"⟩ : Cond) ∈ zTB := z_mem zc_9 55 rfl rfl
theorem zw_1976 : (.instanceMethod ⟨"HeldCoatsModel", "image", "(I)Z"⟩ : Cond) ∈ zTB := z_mem zc_9 56 rfl rfl
theorem zw_1977 : (.selects "HeldCoatsModel" ⟨"HeldCoatsModel", "image", "(I)Z"⟩ ⟨"HeldCoatsModel", "image", "(I)Z"⟩ : Cond) ∈ zTB := z_mem zc_9 57 rfl rfl
theorem zw_1978 : (.code ⟨"HeldCoatsModel", "image", "(I)Z"⟩ prog_14_method_115_code 3 (some .boolean) : Cond) ∈ zTB := z_mem zc_9 58 rfl rfl
theorem zw_1979 : (.methodLink "HeldCoatsLaw" 191 ⟨"HeldCoatsModel", "restore", "(I)Z"⟩ : Cond) ∈ zTB := z_mem zc_9 59 rfl rfl
theorem zw_1980 : (.instanceMethod ⟨"HeldCoatsModel", "restore", "(I)Z"⟩ : Cond) ∈ zTB := z_mem zc_9 60 rfl rfl
theorem zw_1981 : (.selects "HeldCoatsModel" ⟨"HeldCoatsModel", "restore", "(I)Z"⟩ ⟨"HeldCoatsModel", "restore", "(I)Z"⟩ : Cond) ∈ zTB := z_mem zc_9 61 rfl rfl
theorem zw_1982 : (.code ⟨"HeldCoatsModel", "restore", "(I)Z"⟩ prog_14_method_116_code 3 (some .boolean) : Cond) ∈ zTB := z_mem zc_9 62 rfl rfl
theorem zw_1983 : (.methodLink "HeldCoatsLaw" 195 ⟨"HeldCoatsModel", "count", "(I)I"⟩ : Cond) ∈ zTB := z_mem zc_9 63 rfl rfl
theorem zw_1984 : (.instanceMethod ⟨"HeldCoatsModel", "count", "(I)I"⟩ : Cond) ∈ zTB := z_mem zc_9 64 rfl rfl
theorem zw_1985 : (.selects "HeldCoatsModel" ⟨"HeldCoatsModel", "count", "(I)I"⟩ ⟨"HeldCoatsModel", "count", "(I)I"⟩ : Cond) ∈ zTB := z_mem zc_9 65 rfl rfl
theorem zw_1986 : (.code ⟨"HeldCoatsModel", "count", "(I)I"⟩ prog_14_method_117_code 2 (some .int) : Cond) ∈ zTB := z_mem zc_9 66 rfl rfl
theorem zs_0 : (.selects "HeldCoats$Tape" ⟨"HeldCoats$Tape", "firstUnblank", "(I)I"⟩ ⟨"HeldCoats$Tape", "firstUnblank", "(I)I"⟩ : Cond) ∈ zTB := z_memS (y := ⟨"HeldCoats$Tape", "firstUnblank", "(I)I"⟩) (n := 11) 0 rfl rfl
theorem zs_1 : (.selects "HeldCoats$Tape" ⟨"HeldCoats$Tape", "stopAtEnd", "()V"⟩ ⟨"HeldCoats$Tape", "stopAtEnd", "()V"⟩ : Cond) ∈ zTB := z_memS (y := ⟨"HeldCoats$Tape", "stopAtEnd", "()V"⟩) (n := 11) 1 rfl rfl
theorem zs_11 : (.selects "HeldCoats" ⟨"HeldCoats", "closeTape", "()V"⟩ ⟨"HeldCoats", "closeTape", "()V"⟩ : Cond) ∈ zTB := z_memS (y := ⟨"HeldCoats", "closeTape", "()V"⟩) (n := 11) 11 rfl rfl
theorem zs_15 : (.selects "HeldCoats$State" ⟨"HeldCoats$State", "freeze", "()V"⟩ ⟨"HeldCoats$State", "freeze", "()V"⟩ : Cond) ∈ zTB := z_memS (y := ⟨"HeldCoats$State", "freeze", "()V"⟩) (n := 13) 15 rfl rfl
theorem zs_17 : (.selects "HeldCoats" ⟨"HeldCoats", "undoableIfAny", "(I)I"⟩ ⟨"HeldCoats", "undoableIfAny", "(I)I"⟩ : Cond) ∈ zTB := z_memS (y := ⟨"HeldCoats", "undoableIfAny", "(I)I"⟩) (n := 11) 17 rfl rfl
theorem zs_22 : (.selects "HeldCoats$Counsel" ⟨"HeldCoats$Counsel", "menWanting", "(I)I"⟩ ⟨"HeldCoats$Counsel", "menWanting", "(I)I"⟩ : Cond) ∈ zTB := z_memS (y := ⟨"HeldCoats$Counsel", "menWanting", "(I)I"⟩) (n := 14) 22 rfl rfl
theorem zs_32 : (.selects "HeldCoats$SentenceReader" ⟨"HeldCoats$SentenceReader", "readCond", "(I)Z"⟩ ⟨"HeldCoats$SentenceReader", "readCond", "(I)Z"⟩ : Cond) ∈ zTB := z_memS (y := ⟨"HeldCoats$SentenceReader", "readCond", "(I)Z"⟩) (n := 3) 32 rfl rfl
theorem zs_33 : (.selects "HeldCoats$SentenceReader" ⟨"HeldCoats$SentenceReader", "readAll", "(I)Z"⟩ ⟨"HeldCoats$SentenceReader", "readAll", "(I)Z"⟩ : Cond) ∈ zTB := z_memS (y := ⟨"HeldCoats$SentenceReader", "readAll", "(I)Z"⟩) (n := 3) 33 rfl rfl
theorem zs_34 : (.selects "HeldCoats$SentenceReader" ⟨"HeldCoats$SentenceReader", "readOne", "(I)Z"⟩ ⟨"HeldCoats$SentenceReader", "readOne", "(I)Z"⟩ : Cond) ∈ zTB := z_memS (y := ⟨"HeldCoats$SentenceReader", "readOne", "(I)Z"⟩) (n := 3) 34 rfl rfl
theorem zs_40 : (.selects "HeldCoatsModel" ⟨"HeldCoatsModel", "four", "(I)V"⟩ ⟨"HeldCoatsModel", "four", "(I)V"⟩ : Cond) ∈ zTB := z_memS (y := ⟨"HeldCoatsModel", "four", "(I)V"⟩) (n := 49) 40 rfl rfl
theorem zs_41 : (.selects "HeldCoatsModel" ⟨"HeldCoatsModel", "clears", "()V"⟩ ⟨"HeldCoatsModel", "clears", "()V"⟩ : Cond) ∈ zTB := z_memS (y := ⟨"HeldCoatsModel", "clears", "()V"⟩) (n := 49) 41 rfl rfl
theorem zs_42 : (.selects "HeldCoatsModel" ⟨"HeldCoatsModel", "taken", "(I)V"⟩ ⟨"HeldCoatsModel", "taken", "(I)V"⟩ : Cond) ∈ zTB := z_memS (y := ⟨"HeldCoatsModel", "taken", "(I)V"⟩) (n := 49) 42 rfl rfl
theorem zs_43 : (.selects "HeldCoatsModel" ⟨"HeldCoatsModel", "next", "()V"⟩ ⟨"HeldCoatsModel", "next", "()V"⟩ : Cond) ∈ zTB := z_memS (y := ⟨"HeldCoatsModel", "next", "()V"⟩) (n := 49) 43 rfl rfl
theorem zs_44 : (.selects "HeldCoatsModel" ⟨"HeldCoatsModel", "peek", "()I"⟩ ⟨"HeldCoatsModel", "peek", "()I"⟩ : Cond) ∈ zTB := z_memS (y := ⟨"HeldCoatsModel", "peek", "()I"⟩) (n := 49) 44 rfl rfl
theorem zs_46 : (.selects "HeldCoatsModel" ⟨"HeldCoatsModel", "isWord", "(J)Z"⟩ ⟨"HeldCoatsModel", "isWord", "(J)Z"⟩ : Cond) ∈ zTB := z_memS (y := ⟨"HeldCoatsModel", "isWord", "(J)Z"⟩) (n := 49) 46 rfl rfl
theorem zs_47 : (.selects "HeldCoatsModel" ⟨"HeldCoatsModel", "bad", "(I)Z"⟩ ⟨"HeldCoatsModel", "bad", "(I)Z"⟩ : Cond) ∈ zTB := z_memS (y := ⟨"HeldCoatsModel", "bad", "(I)Z"⟩) (n := 49) 47 rfl rfl
theorem zs_58 : (.selects "HeldCoatsModel" ⟨"HeldCoatsModel", "isSign", "(I)Z"⟩ ⟨"HeldCoatsModel", "isSign", "(I)Z"⟩ : Cond) ∈ zTB := z_memS (y := ⟨"HeldCoatsModel", "isSign", "(I)Z"⟩) (n := 49) 58 rfl rfl
theorem zs_59 : (.selects "HeldCoatsModel" ⟨"HeldCoatsModel", "isSeat", "(I)Z"⟩ ⟨"HeldCoatsModel", "isSeat", "(I)Z"⟩ : Cond) ∈ zTB := z_memS (y := ⟨"HeldCoatsModel", "isSeat", "(I)Z"⟩) (n := 49) 59 rfl rfl
theorem zs_62 : (.selects "HeldCoatsModel" ⟨"HeldCoatsModel", "isSummer", "()Z"⟩ ⟨"HeldCoatsModel", "isSummer", "()Z"⟩ : Cond) ∈ zTB := z_memS (y := ⟨"HeldCoatsModel", "isSummer", "()Z"⟩) (n := 49) 62 rfl rfl
theorem zs_63 : (.selects "HeldCoatsModel" ⟨"HeldCoatsModel", "coldOn", "(I)I"⟩ ⟨"HeldCoatsModel", "coldOn", "(I)I"⟩ : Cond) ∈ zTB := z_memS (y := ⟨"HeldCoatsModel", "coldOn", "(I)I"⟩) (n := 49) 63 rfl rfl
theorem zs_65 : (.selects "HeldCoatsModel" ⟨"HeldCoatsModel", "isMan", "(I)Z"⟩ ⟨"HeldCoatsModel", "isMan", "(I)Z"⟩ : Cond) ∈ zTB := z_memS (y := ⟨"HeldCoatsModel", "isMan", "(I)Z"⟩) (n := 49) 65 rfl rfl
theorem zs_68 : (.selects "HeldCoatsModel" ⟨"HeldCoatsModel", "coatsAt", "(I)I"⟩ ⟨"HeldCoatsModel", "coatsAt", "(I)I"⟩ : Cond) ∈ zTB := z_memS (y := ⟨"HeldCoatsModel", "coatsAt", "(I)I"⟩) (n := 49) 68 rfl rfl
theorem zs_71 : (.selects "HeldCoatsModel" ⟨"HeldCoatsModel", "isCoat", "(I)Z"⟩ ⟨"HeldCoatsModel", "isCoat", "(I)Z"⟩ : Cond) ∈ zTB := z_memS (y := ⟨"HeldCoatsModel", "isCoat", "(I)Z"⟩) (n := 49) 71 rfl rfl
theorem zs_72 : (.selects "HeldCoatsModel" ⟨"HeldCoatsModel", "ruler", "()I"⟩ ⟨"HeldCoatsModel", "ruler", "()I"⟩ : Cond) ∈ zTB := z_memS (y := ⟨"HeldCoatsModel", "ruler", "()I"⟩) (n := 49) 72 rfl rfl
theorem zs_73 : (.selects "HeldCoatsModel" ⟨"HeldCoatsModel", "rulerBy", "(Z)I"⟩ ⟨"HeldCoatsModel", "rulerBy", "(Z)I"⟩ : Cond) ∈ zTB := z_memS (y := ⟨"HeldCoatsModel", "rulerBy", "(Z)I"⟩) (n := 49) 73 rfl rfl
theorem zs_76 : (.selects "HeldCoatsModel" ⟨"HeldCoatsModel", "keepsAll", "()V"⟩ ⟨"HeldCoatsModel", "keepsAll", "()V"⟩ : Cond) ∈ zTB := z_memS (y := ⟨"HeldCoatsModel", "keepsAll", "()V"⟩) (n := 49) 76 rfl rfl
theorem zs_83 : (.selects "HeldCoatsModel" ⟨"HeldCoatsModel", "goesOn", "(I)I"⟩ ⟨"HeldCoatsModel", "goesOn", "(I)I"⟩ : Cond) ∈ zTB := z_memS (y := ⟨"HeldCoatsModel", "goesOn", "(I)I"⟩) (n := 49) 83 rfl rfl
theorem zs_84 : (.selects "HeldCoatsModel" ⟨"HeldCoatsModel", "day", "()V"⟩ ⟨"HeldCoatsModel", "day", "()V"⟩ : Cond) ∈ zTB := z_memS (y := ⟨"HeldCoatsModel", "day", "()V"⟩) (n := 49) 84 rfl rfl
theorem zs_89 : (.selects "HeldCoatsModel" ⟨"HeldCoatsModel", "areTwo", "(II)Z"⟩ ⟨"HeldCoatsModel", "areTwo", "(II)Z"⟩ : Cond) ∈ zTB := z_memS (y := ⟨"HeldCoatsModel", "areTwo", "(II)Z"⟩) (n := 49) 89 rfl rfl
theorem zs_91 : (.selects "HeldCoatsModel" ⟨"HeldCoatsModel", "tries", "()V"⟩ ⟨"HeldCoatsModel", "tries", "()V"⟩ : Cond) ∈ zTB := z_memS (y := ⟨"HeldCoatsModel", "tries", "()V"⟩) (n := 49) 91 rfl rfl
theorem zs_92 : (.selects "HeldCoatsModel" ⟨"HeldCoatsModel", "back", "()V"⟩ ⟨"HeldCoatsModel", "back", "()V"⟩ : Cond) ∈ zTB := z_memS (y := ⟨"HeldCoatsModel", "back", "()V"⟩) (n := 49) 92 rfl rfl
theorem zs_93 : (.selects "HeldCoatsModel" ⟨"HeldCoatsModel", "firstOf", "(I)I"⟩ ⟨"HeldCoatsModel", "firstOf", "(I)I"⟩ : Cond) ∈ zTB := z_memS (y := ⟨"HeldCoatsModel", "firstOf", "(I)I"⟩) (n := 49) 93 rfl rfl
theorem zs_104 : (.selects "HeldCoatsModel" ⟨"HeldCoatsModel", "operand", "()Z"⟩ ⟨"HeldCoatsModel", "operand", "()Z"⟩ : Cond) ∈ zTB := z_memS (y := ⟨"HeldCoatsModel", "operand", "()Z"⟩) (n := 49) 104 rfl rfl
theorem zs_105 : (.selects "HeldCoatsModel" ⟨"HeldCoatsModel", "leafOf", "()I"⟩ ⟨"HeldCoatsModel", "leafOf", "()I"⟩ : Cond) ∈ zTB := z_memS (y := ⟨"HeldCoatsModel", "leafOf", "()I"⟩) (n := 49) 105 rfl rfl
def zNT : List (String × Nat × MethodName × String) := [("HeldCoats", 50, ⟨"HeldCoats$Sentence", "<init>", "()V"⟩, "HeldCoats"), ("HeldCoats", 64, ⟨"HeldCoats$Book", "<init>", "()V"⟩, "HeldCoats"), ("HeldCoats", 84, ⟨"HeldCoats$Image", "<init>", "()V"⟩, "HeldCoats"), ("HeldCoats$Law", 35, ⟨"HeldCoats$Names", "<init>", "()V"⟩, "HeldCoats"), ("HeldCoats$SentenceReader", 11, ⟨"HeldCoats$Sentence", "<init>", "()V"⟩, "HeldCoats"), ("HeldCoats$SentenceReader", 24, ⟨"HeldCoats$Names", "<init>", "()V"⟩, "HeldCoats"), ("HeldCoats$Image", 27, ⟨"HeldCoats$Sentence", "<init>", "()V"⟩, "HeldCoats"), ("HeldCoats", 342, ⟨"HeldCoats$SentenceReader", "readCond", "(I)Z"⟩, "HeldCoats")]
theorem zK_0 : z_K zTB vwCl zTF 0 RX0 TX0 5 := ⟨rfl, z_fields (fun k hk => match k, hk with
  | 0, _ => zw_435
  | 1, _ => zw_437
  | 2, _ => zw_439
  | 3, _ => zw_441
  | 4, _ => zw_443
  | n + 5, h => absurd h (by omega)), tyX0_ok, nmX0⟩
theorem zK_1 : z_K zTB vwCl zTF 1 RX1 TX1 14 := ⟨rfl, z_fields (fun k hk => match k, hk with
  | 0, _ => zw_475
  | 1, _ => zw_477
  | 2, _ => zw_479
  | 3, _ => zw_481
  | 4, _ => zw_483
  | 5, _ => zw_485
  | 6, _ => zw_487
  | 7, _ => zw_489
  | 8, _ => zw_491
  | 9, _ => zw_493
  | 10, _ => zw_495
  | 11, _ => zw_497
  | 12, _ => zw_499
  | 13, _ => zw_501
  | n + 14, h => absurd h (by omega)), tyX1_ok, nmX1⟩
theorem zK_2 : z_K zTB vwCl zTF 2 RX2 TX2 4 := ⟨rfl, z_fields (fun k hk => match k, hk with
  | 0, _ => zw_522
  | 1, _ => zw_524
  | 2, _ => zw_526
  | 3, _ => zw_528
  | n + 4, h => absurd h (by omega)), tyX2_ok, nmX2⟩
theorem zK_3 : z_K zTB vwCl zTF 3 RX3 TX3 16 := ⟨rfl, z_fields (fun k hk => match k, hk with
  | 0, _ => zw_237
  | 1, _ => zw_239
  | 2, _ => zw_241
  | 3, _ => zw_243
  | 4, _ => zw_245
  | 5, _ => zw_247
  | 6, _ => zw_249
  | 7, _ => zw_251
  | 8, _ => zw_253
  | 9, _ => zw_255
  | 10, _ => zw_257
  | 11, _ => zw_259
  | 12, _ => zw_261
  | 13, _ => zw_263
  | 14, _ => zw_265
  | 15, _ => zw_267
  | n + 16, h => absurd h (by omega)), tyX3_ok, nmX3⟩
theorem zK_4 : z_K zTB vwCl zTF 4 RX4 TX4 4 := ⟨rfl, z_fields (fun k hk => match k, hk with
  | 0, _ => zw_284
  | 1, _ => zw_286
  | 2, _ => zw_288
  | 3, _ => zw_290
  | n + 4, h => absurd h (by omega)), tyX4_ok, nmX4⟩
theorem zK_5 : z_K zTB vwCl zTF 5 RX5 TX5 4 := ⟨rfl, z_fields (fun k hk => match k, hk with
  | 0, _ => zw_156
  | 1, _ => zw_158
  | 2, _ => zw_160
  | 3, _ => zw_162
  | n + 4, h => absurd h (by omega)), tyX5_ok, nmX5⟩
theorem zK_6 : z_K zTB vwCl zTF 6 RX6 TX6 3 := ⟨rfl, z_fields (fun k hk => match k, hk with
  | 0, _ => zw_368
  | 1, _ => zw_370
  | 2, _ => zw_372
  | n + 3, h => absurd h (by omega)), tyX6_ok, nmX6⟩
theorem zK_7 : z_K zTB vwCl zTF 7 RX7 TX7 6 := ⟨rfl, z_fields (fun k hk => match k, hk with
  | 0, _ => zw_389
  | 1, _ => zw_391
  | 2, _ => zw_393
  | 3, _ => zw_395
  | 4, _ => zw_397
  | 5, _ => zw_399
  | n + 6, h => absurd h (by omega)), tyX7_ok, nmX7⟩
theorem zK_8 : z_K zTB vwCl zTF 8 RX8 TX8 3 := ⟨rfl, z_fields (fun k hk => match k, hk with
  | 0, _ => zw_416
  | 1, _ => zw_418
  | 2, _ => zw_420
  | n + 3, h => absurd h (by omega)), tyX8_ok, nmX8⟩
theorem zK_9 : z_K zTB vwCl zTF 9 RX9 TX9 13 := ⟨rfl, z_fields (fun k hk => match k, hk with
  | 0, _ => zw_328
  | 1, _ => zw_330
  | 2, _ => zw_332
  | 3, _ => zw_334
  | 4, _ => zw_336
  | 5, _ => zw_338
  | 6, _ => zw_340
  | 7, _ => zw_342
  | 8, _ => zw_344
  | 9, _ => zw_346
  | 10, _ => zw_348
  | 11, _ => zw_350
  | 12, _ => zw_352
  | n + 13, h => absurd h (by omega)), tyX9_ok, nmX9⟩
theorem zK_10 : z_K zTB vwCl zTF 10 RX10 TX10 11 := ⟨rfl, z_fields (fun k hk => match k, hk with
  | 0, _ => zw_114
  | 1, _ => zw_116
  | 2, _ => zw_118
  | 3, _ => zw_120
  | 4, _ => zw_122
  | 5, _ => zw_124
  | 6, _ => zw_126
  | 7, _ => zw_128
  | 8, _ => zw_130
  | 9, _ => zw_132
  | 10, _ => zw_134
  | n + 11, h => absurd h (by omega)), tyX10_ok, nmX10⟩
theorem zK_11 : z_K zTB vwCl zTF 11 RX11 TX11 11 := ⟨rfl, z_fields (fun k hk => match k, hk with
  | 0, _ => zw_542
  | 1, _ => zw_544
  | 2, _ => zw_546
  | 3, _ => zw_548
  | 4, _ => zw_550
  | 5, _ => zw_552
  | 6, _ => zw_554
  | 7, _ => zw_556
  | 8, _ => zw_558
  | 9, _ => zw_560
  | 10, _ => zw_562
  | n + 11, h => absurd h (by omega)), tyX11_ok, nmX11⟩
theorem zK_12 : z_K zTB vwCl zTF 12 RX12 TX12 49 := ⟨rfl, z_fields (fun k hk => match k, hk with
  | 0, _ => zw_1448
  | 1, _ => zw_1450
  | 2, _ => zw_1452
  | 3, _ => zw_1454
  | 4, _ => zw_1456
  | 5, _ => zw_1458
  | 6, _ => zw_1460
  | 7, _ => zw_1462
  | 8, _ => zw_1464
  | 9, _ => zw_1466
  | 10, _ => zw_1468
  | 11, _ => zw_1470
  | 12, _ => zw_1472
  | 13, _ => zw_1474
  | 14, _ => zw_1476
  | 15, _ => zw_1478
  | 16, _ => zw_1480
  | 17, _ => zw_1482
  | 18, _ => zw_1484
  | 19, _ => zw_1486
  | 20, _ => zw_1488
  | 21, _ => zw_1490
  | 22, _ => zw_1492
  | 23, _ => zw_1494
  | 24, _ => zw_1496
  | 25, _ => zw_1498
  | 26, _ => zw_1500
  | 27, _ => zw_1502
  | 28, _ => zw_1504
  | 29, _ => zw_1506
  | 30, _ => zw_1508
  | 31, _ => zw_1510
  | 32, _ => zw_1512
  | 33, _ => zw_1514
  | 34, _ => zw_1516
  | 35, _ => zw_1518
  | 36, _ => zw_1520
  | 37, _ => zw_1522
  | 38, _ => zw_1524
  | 39, _ => zw_1526
  | 40, _ => zw_1528
  | 41, _ => zw_1530
  | 42, _ => zw_1532
  | 43, _ => zw_1534
  | 44, _ => zw_1536
  | 45, _ => zw_1538
  | 46, _ => zw_1540
  | 47, _ => zw_1542
  | 48, _ => zw_1544
  | n + 49, h => absurd h (by omega)), tyX12_ok, nmX12⟩
theorem zY_X11_init : z_Y zTB ⟨"HeldCoats", "<init>", "()V"⟩ prog_1_method_1_code 2 0 none := ⟨zw_30, zw_1, by decide +kernel⟩
theorem zY_X3_init : z_Y zTB ⟨"HeldCoats$Law", "<init>", "()V"⟩ prog_5_method_1_code 1 0 none := ⟨zw_144, zw_7, by decide +kernel⟩
theorem zY_X5_init : z_Y zTB ⟨"HeldCoats$Names", "<init>", "()V"⟩ prog_7_method_1_code 1 0 none := ⟨zw_150, zw_8, by decide +kernel⟩
theorem zY_X3_clear : z_Y zTB ⟨"HeldCoats$Law", "clear", "()V"⟩ prog_5_method_2_code 1 0 none := ⟨zw_168, zw_7, by decide +kernel⟩
theorem zY_X5_clear : z_Y zTB ⟨"HeldCoats$Names", "clear", "()V"⟩ prog_7_method_2_code 1 0 none := ⟨zw_172, zw_8, by decide +kernel⟩
theorem zY_X4_init : z_Y zTB ⟨"HeldCoats$LawReader", "<init>", "(LHeldCoats$Tape;)V"⟩ prog_6_method_1_code 2 1 none := ⟨zw_274, zw_9, by decide +kernel⟩
theorem zY_X9_init : z_Y zTB ⟨"HeldCoats$State", "<init>", "(LHeldCoats$Law;)V"⟩ prog_11_method_1_code 2 1 none := ⟨zw_297, zw_10, by decide +kernel⟩
theorem zY_X6_init : z_Y zTB ⟨"HeldCoats$Past", "<init>", "(LHeldCoats$Law;)V"⟩ prog_8_method_1_code 3 1 none := ⟨zw_359, zw_11, by decide +kernel⟩
theorem zY_X7_init : z_Y zTB ⟨"HeldCoats$Sentence", "<init>", "()V"⟩ prog_9_method_1_code 1 0 none := ⟨zw_379, zw_12, by decide +kernel⟩
theorem zY_X8_init : z_Y zTB ⟨"HeldCoats$SentenceReader", "<init>", "(LHeldCoats$Tape;)V"⟩ prog_10_method_1_code 2 1 none := ⟨zw_406, zw_13, by decide +kernel⟩
theorem zY_X0_init : z_Y zTB ⟨"HeldCoats$Book", "<init>", "()V"⟩ prog_2_method_1_code 1 0 none := ⟨zw_427, zw_14, by decide +kernel⟩
theorem zY_X1_init : z_Y zTB ⟨"HeldCoats$Counsel", "<init>", "(LHeldCoats$Law;LHeldCoats$State;)V"⟩ prog_3_method_1_code 3 2 none := ⟨zw_450, zw_15, by decide +kernel⟩
theorem zY_X2_init : z_Y zTB ⟨"HeldCoats$Image", "<init>", "()V"⟩ prog_4_method_1_code 1 0 none := ⟨zw_509, zw_16, by decide +kernel⟩
theorem zY_X12_init : z_Y zTB ⟨"HeldCoatsModel", "<init>", "()V"⟩ prog_14_method_12_code 2 0 none := ⟨zw_1369, zw_17, by decide +kernel⟩
theorem zY_X12_clears : z_Y zTB ⟨"HeldCoatsModel", "clears", "()V"⟩ prog_14_method_13_code 2 0 none := ⟨zw_1398, zw_17, by decide +kernel⟩
theorem zY_X11_feed : z_Y zTB ⟨"HeldCoats", "feed", "(IIIII)I"⟩ prog_1_method_2_code 6 5 (some .int) := ⟨zw_568, zw_1, by decide +kernel⟩
theorem zY_X10_addNumber : z_Y zTB ⟨"HeldCoats$Tape", "addNumber", "(I)V"⟩ prog_12_method_2_code 3 1 none := ⟨zw_572, zw_2, by decide +kernel⟩
theorem zY_X12_feed : z_Y zTB ⟨"HeldCoatsModel", "feed", "(IIIII)I"⟩ prog_14_method_3_code 6 5 (some .int) := ⟨zw_1356, zw_17, by decide +kernel⟩
theorem zY_X12_four : z_Y zTB ⟨"HeldCoatsModel", "four", "(I)V"⟩ prog_14_method_4_code 3 1 none := ⟨zw_1361, zw_17, by decide +kernel⟩
theorem zY_X11_end : z_Y zTB ⟨"HeldCoats", "end", "(I)Z"⟩ prog_1_method_3_code 2 1 (some .boolean) := ⟨zw_576, zw_1, by decide +kernel⟩
theorem zY_X12_end : z_Y zTB ⟨"HeldCoatsModel", "end", "(I)Z"⟩ prog_14_method_5_code 2 1 (some .boolean) := ⟨zw_1365, zw_17, by decide +kernel⟩
theorem zY_X11_capital : z_Y zTB ⟨"HeldCoats", "capital", "()I"⟩ prog_1_method_4_code 2 0 (some .int) := ⟨zw_580, zw_1, by decide +kernel⟩
theorem zY_X4_readText : z_Y zTB ⟨"HeldCoats$LawReader", "readText", "()Z"⟩ prog_6_method_2_code 1 0 (some .boolean) := ⟨zw_584, zw_9, by decide +kernel⟩
theorem zY_X10_open : z_Y zTB ⟨"HeldCoats$Tape", "open", "(I)V"⟩ prog_12_method_3_code 2 1 none := ⟨zw_589, zw_2, by decide +kernel⟩
theorem zY_X10_advance : z_Y zTB ⟨"HeldCoats$Tape", "advance", "()V"⟩ prog_12_method_4_code 1 0 none := ⟨zw_593, zw_2, by decide +kernel⟩
theorem zY_X10_firstUnblank : z_Y zTB ⟨"HeldCoats$Tape", "firstUnblank", "(I)I"⟩ prog_12_method_5_code 3 1 (some .int) := ⟨zw_597, zw_2, by decide +kernel⟩
theorem zY_X10_stopAtEnd : z_Y zTB ⟨"HeldCoats$Tape", "stopAtEnd", "()V"⟩ prog_12_method_6_code 1 0 none := ⟨zw_601, zw_2, by decide +kernel⟩
theorem zY_X10_isOver : z_Y zTB ⟨"HeldCoats$Tape", "isOver", "()Z"⟩ prog_12_method_11_code 1 0 (some .boolean) := ⟨zw_679, zw_2, by decide +kernel⟩
theorem zY_X11_closeTape : z_Y zTB ⟨"HeldCoats", "closeTape", "()V"⟩ prog_1_method_43_code 1 0 none := ⟨zw_683, zw_1, by decide +kernel⟩
theorem zY_X3_copyFrom : z_Y zTB ⟨"HeldCoats$Law", "copyFrom", "(LHeldCoats$Law;)V"⟩ prog_5_method_3_code 2 1 none := ⟨zw_687, zw_7, by decide +kernel⟩
theorem zY_X5_copyFrom : z_Y zTB ⟨"HeldCoats$Names", "copyFrom", "(LHeldCoats$Names;)V"⟩ prog_7_method_3_code 2 1 none := ⟨zw_694, zw_8, by decide +kernel⟩
theorem zY_X9_begin : z_Y zTB ⟨"HeldCoats$State", "begin", "()V"⟩ prog_11_method_2_code 2 0 none := ⟨zw_699, zw_10, by decide +kernel⟩
theorem zY_J7_fill_53178 : z_Y zTB ⟨"java/util/Arrays", "fill", "([II)V"⟩ prog_29_method_103_code 4 2 none := ⟨zw_702, zw_19, by decide +kernel⟩
theorem zY_X7_clear : z_Y zTB ⟨"HeldCoats$Sentence", "clear", "()V"⟩ prog_9_method_2_code 1 0 none := ⟨zw_706, zw_12, by decide +kernel⟩
theorem zY_X6_clear : z_Y zTB ⟨"HeldCoats$Past", "clear", "()V"⟩ prog_8_method_2_code 1 0 none := ⟨zw_710, zw_11, by decide +kernel⟩
theorem zY_X12_capital : z_Y zTB ⟨"HeldCoatsModel", "capital", "()I"⟩ prog_14_method_32_code 2 0 (some .int) := ⟨zw_1551, zw_17, by decide +kernel⟩
theorem zY_X12_taken : z_Y zTB ⟨"HeldCoatsModel", "taken", "(I)V"⟩ prog_14_method_6_code 2 1 none := ⟨zw_1555, zw_17, by decide +kernel⟩
theorem zY_X12_next : z_Y zTB ⟨"HeldCoatsModel", "next", "()V"⟩ prog_14_method_17_code 4 0 none := ⟨zw_1559, zw_17, by decide +kernel⟩
theorem zY_X12_peek : z_Y zTB ⟨"HeldCoatsModel", "peek", "()I"⟩ prog_14_method_14_code 1 0 (some .int) := ⟨zw_1563, zw_17, by decide +kernel⟩
theorem zY_X11_fault : z_Y zTB ⟨"HeldCoats", "fault", "()I"⟩ prog_1_method_5_code 1 0 (some .int) := ⟨zw_714, zw_1, by decide +kernel⟩
theorem zY_X12_fault : z_Y zTB ⟨"HeldCoatsModel", "fault", "()I"⟩ prog_14_method_33_code 1 0 (some .int) := ⟨zw_1635, zw_17, by decide +kernel⟩
theorem zY_X11_seat : z_Y zTB ⟨"HeldCoats", "seat", "(II)I"⟩ prog_1_method_6_code 3 2 (some .int) := ⟨zw_718, zw_1, by decide +kernel⟩
theorem zY_X3_hasSeat : z_Y zTB ⟨"HeldCoats$Law", "hasSeat", "(I)Z"⟩ prog_5_method_4_code 2 1 (some .boolean) := ⟨zw_722, zw_7, by decide +kernel⟩
theorem zY_X12_seat : z_Y zTB ⟨"HeldCoatsModel", "seat", "(II)I"⟩ prog_14_method_49_code 4 2 (some .int) := ⟨zw_1639, zw_17, by decide +kernel⟩
theorem zY_X12_isSeat : z_Y zTB ⟨"HeldCoatsModel", "isSeat", "(I)Z"⟩ prog_14_method_34_code 2 1 (some .boolean) := ⟨zw_1643, zw_17, by decide +kernel⟩
theorem zY_X12_isIn : z_Y zTB ⟨"HeldCoatsModel", "isIn", "(III)Z"⟩ prog_14_method_7_code 3 3 (some .boolean) := ⟨zw_1604, zw_17, by decide +kernel⟩
theorem zY_X11_now : z_Y zTB ⟨"HeldCoats", "now", "(I)I"⟩ prog_1_method_9_code 2 1 (some .int) := ⟨zw_747, zw_1, by decide +kernel⟩
theorem zY_X12_now : z_Y zTB ⟨"HeldCoatsModel", "now", "(I)I"⟩ prog_14_method_52_code 2 1 (some .int) := ⟨zw_1706, zw_17, by decide +kernel⟩
theorem zY_X3_coldOn : z_Y zTB ⟨"HeldCoats$Law", "coldOn", "(I)I"⟩ prog_5_method_8_code 5 1 (some .int) := ⟨zw_739, zw_7, by decide +kernel⟩
theorem zY_X12_coldOn : z_Y zTB ⟨"HeldCoatsModel", "coldOn", "(I)I"⟩ prog_14_method_38_code 5 1 (some .int) := ⟨zw_1659, zw_17, by decide +kernel⟩
theorem zY_X3_isSummer : z_Y zTB ⟨"HeldCoats$Law", "isSummer", "(I)Z"⟩ prog_5_method_9_code 2 1 (some .boolean) := ⟨zw_735, zw_7, by decide +kernel⟩
theorem zY_X12_isSummer : z_Y zTB ⟨"HeldCoatsModel", "isSummer", "()Z"⟩ prog_14_method_39_code 1 0 (some .boolean) := ⟨zw_1655, zw_17, by decide +kernel⟩
theorem zY_X9_ruler : z_Y zTB ⟨"HeldCoats$State", "ruler", "()I"⟩ prog_11_method_20_code 1 0 (some .int) := ⟨zw_753, zw_10, by decide +kernel⟩
theorem zY_X9_rulerWithoutSummer : z_Y zTB ⟨"HeldCoats$State", "rulerWithoutSummer", "()I"⟩ prog_11_method_19_code 4 0 (some .int) := ⟨zw_757, zw_10, by decide +kernel⟩
theorem zY_X12_ruler : z_Y zTB ⟨"HeldCoatsModel", "ruler", "()I"⟩ prog_14_method_48_code 1 0 (some .int) := ⟨zw_1710, zw_17, by decide +kernel⟩
theorem zY_X12_rulerBy : z_Y zTB ⟨"HeldCoatsModel", "rulerBy", "(Z)I"⟩ prog_14_method_47_code 7 1 (some .int) := ⟨zw_1714, zw_17, by decide +kernel⟩
theorem zY_X9_eaten : z_Y zTB ⟨"HeldCoats$State", "eaten", "()I"⟩ prog_11_method_12_code 1 0 (some .int) := ⟨zw_765, zw_10, by decide +kernel⟩
theorem zY_X9_coatsAt : z_Y zTB ⟨"HeldCoats$State", "coatsAt", "(I)I"⟩ prog_11_method_10_code 4 1 (some .int) := ⟨zw_769, zw_10, by decide +kernel⟩
theorem zY_X12_coatsAt : z_Y zTB ⟨"HeldCoatsModel", "coatsAt", "(I)I"⟩ prog_14_method_43_code 4 1 (some .int) := ⟨zw_1683, zw_17, by decide +kernel⟩
theorem zY_X11_lay : z_Y zTB ⟨"HeldCoats", "lay", "(II)I"⟩ prog_1_method_10_code 3 2 (some .int) := ⟨zw_773, zw_1, by decide +kernel⟩
theorem zY_X3_hasCoat : z_Y zTB ⟨"HeldCoats$Law", "hasCoat", "(I)Z"⟩ prog_5_method_6_code 2 1 (some .boolean) := ⟨zw_777, zw_7, by decide +kernel⟩
theorem zY_X12_lay : z_Y zTB ⟨"HeldCoatsModel", "lay", "(II)I"⟩ prog_14_method_63_code 4 2 (some .int) := ⟨zw_1718, zw_17, by decide +kernel⟩
theorem zY_X12_isCoat : z_Y zTB ⟨"HeldCoatsModel", "isCoat", "(I)Z"⟩ prog_14_method_36_code 2 1 (some .boolean) := ⟨zw_1702, zw_17, by decide +kernel⟩
theorem zY_X11_wear : z_Y zTB ⟨"HeldCoats", "wear", "(II)I"⟩ prog_1_method_11_code 3 2 (some .int) := ⟨zw_809, zw_1, by decide +kernel⟩
theorem zY_X3_hasMan : z_Y zTB ⟨"HeldCoats$Law", "hasMan", "(I)Z"⟩ prog_5_method_5_code 2 1 (some .boolean) := ⟨zw_813, zw_7, by decide +kernel⟩
theorem zY_X12_wear : z_Y zTB ⟨"HeldCoatsModel", "wear", "(II)I"⟩ prog_14_method_64_code 4 2 (some .int) := ⟨zw_1738, zw_17, by decide +kernel⟩
theorem zY_X12_isMan : z_Y zTB ⟨"HeldCoatsModel", "isMan", "(I)Z"⟩ prog_14_method_35_code 2 1 (some .boolean) := ⟨zw_1671, zw_17, by decide +kernel⟩
theorem zY_X11_lend : z_Y zTB ⟨"HeldCoats", "lend", "(II)I"⟩ prog_1_method_12_code 3 2 (some .int) := ⟨zw_829, zw_1, by decide +kernel⟩
theorem zY_X12_lend : z_Y zTB ⟨"HeldCoatsModel", "lend", "(II)I"⟩ prog_14_method_65_code 4 2 (some .int) := ⟨zw_1754, zw_17, by decide +kernel⟩
theorem zY_X11_keep : z_Y zTB ⟨"HeldCoats", "keep", "(I)I"⟩ prog_1_method_13_code 2 1 (some .int) := ⟨zw_837, zw_1, by decide +kernel⟩
theorem zY_X12_keep : z_Y zTB ⟨"HeldCoatsModel", "keep", "(I)I"⟩ prog_14_method_66_code 2 1 (some .int) := ⟨zw_1762, zw_17, by decide +kernel⟩
theorem zY_X11_days : z_Y zTB ⟨"HeldCoats", "days", "(I)I"⟩ prog_1_method_14_code 2 1 (some .int) := ⟨zw_849, zw_1, by decide +kernel⟩
theorem zY_X11_isDays : z_Y zTB ⟨"HeldCoats", "isDays", "(I)Z"⟩ prog_1_method_46_code 1 1 (some .boolean) := ⟨zw_852, zw_1, by decide +kernel⟩
theorem zY_X12_days : z_Y zTB ⟨"HeldCoatsModel", "days", "(I)I"⟩ prog_14_method_67_code 2 1 (some .int) := ⟨zw_1770, zw_17, by decide +kernel⟩
theorem zY_X6_mark : z_Y zTB ⟨"HeldCoats$Past", "mark", "(LHeldCoats$State;)V"⟩ prog_8_method_3_code 2 1 none := ⟨zw_781, zw_11, by decide +kernel⟩
theorem zY_X9_copyFrom : z_Y zTB ⟨"HeldCoats$State", "copyFrom", "(LHeldCoats$State;)V"⟩ prog_11_method_3_code 2 1 none := ⟨zw_785, zw_10, by decide +kernel⟩
theorem zY_X9_passDays : z_Y zTB ⟨"HeldCoats$State", "passDays", "(I)I"⟩ prog_11_method_29_code 4 1 (some .int) := ⟨zw_856, zw_10, by decide +kernel⟩
theorem zY_X9_daysLeftOf : z_Y zTB ⟨"HeldCoats$State", "daysLeftOf", "(I)I"⟩ prog_11_method_28_code 2 1 (some .int) := ⟨zw_860, zw_10, by decide +kernel⟩
theorem zY_X9_passDay : z_Y zTB ⟨"HeldCoats$State", "passDay", "()I"⟩ prog_11_method_30_code 3 0 (some .int) := ⟨zw_865, zw_10, by decide +kernel⟩
theorem zY_X9_freeze : z_Y zTB ⟨"HeldCoats$State", "freeze", "()V"⟩ prog_11_method_31_code 3 0 none := ⟨zw_870, zw_10, by decide +kernel⟩
theorem zY_X11_undoableIfAny : z_Y zTB ⟨"HeldCoats", "undoableIfAny", "(I)I"⟩ prog_1_method_45_code 2 1 (some .int) := ⟨zw_882, zw_1, by decide +kernel⟩
theorem zY_X6_hold : z_Y zTB ⟨"HeldCoats$Past", "hold", "()V"⟩ prog_8_method_4_code 1 0 none := ⟨zw_802, zw_11, by decide +kernel⟩
theorem zY_X12_keepsAll : z_Y zTB ⟨"HeldCoatsModel", "keepsAll", "()V"⟩ prog_14_method_68_code 2 0 none := ⟨zw_1730, zw_17, by decide +kernel⟩
theorem zY_X12_goesOn : z_Y zTB ⟨"HeldCoatsModel", "goesOn", "(I)I"⟩ prog_14_method_62_code 3 1 (some .int) := ⟨zw_1774, zw_17, by decide +kernel⟩
theorem zY_X12_day : z_Y zTB ⟨"HeldCoatsModel", "day", "()V"⟩ prog_14_method_61_code 3 0 none := ⟨zw_1778, zw_17, by decide +kernel⟩
theorem zY_X11_undo : z_Y zTB ⟨"HeldCoats", "undo", "()I"⟩ prog_1_method_15_code 1 0 (some .int) := ⟨zw_886, zw_1, by decide +kernel⟩
theorem zY_X6_takeBack : z_Y zTB ⟨"HeldCoats$Past", "takeBack", "(LHeldCoats$State;)Z"⟩ prog_8_method_5_code 2 1 (some .boolean) := ⟨zw_890, zw_11, by decide +kernel⟩
theorem zY_X12_undo : z_Y zTB ⟨"HeldCoatsModel", "undo", "()I"⟩ prog_14_method_69_code 2 0 (some .int) := ⟨zw_1786, zw_17, by decide +kernel⟩
theorem zY_X11_best : z_Y zTB ⟨"HeldCoats", "best", "(II)I"⟩ prog_1_method_16_code 3 2 (some .int) := ⟨zw_894, zw_1, by decide +kernel⟩
theorem zY_X12_best : z_Y zTB ⟨"HeldCoatsModel", "best", "(II)I"⟩ prog_14_method_73_code 8 2 (some .int) := ⟨zw_1790, zw_17, by decide +kernel⟩
theorem zY_X11_laid : z_Y zTB ⟨"HeldCoats", "laid", "()I"⟩ prog_1_method_17_code 1 0 (some .int) := ⟨zw_931, zw_1, by decide +kernel⟩
theorem zY_X12_laid : z_Y zTB ⟨"HeldCoatsModel", "laid", "()I"⟩ prog_14_method_74_code 1 0 (some .int) := ⟨zw_1801, zw_17, by decide +kernel⟩
theorem zY_X11_share : z_Y zTB ⟨"HeldCoats", "share", "(IIII)I"⟩ prog_1_method_18_code 5 4 (some .int) := ⟨zw_935, zw_1, by decide +kernel⟩
theorem zY_X12_share : z_Y zTB ⟨"HeldCoatsModel", "share", "(IIII)I"⟩ prog_14_method_76_code 13 4 (some .int) := ⟨zw_1805, zw_17, by decide +kernel⟩
theorem zY_X11_turns : z_Y zTB ⟨"HeldCoats", "turns", "()I"⟩ prog_1_method_19_code 1 0 (some .int) := ⟨zw_944, zw_1, by decide +kernel⟩
theorem zY_X12_turns : z_Y zTB ⟨"HeldCoatsModel", "turns", "()I"⟩ prog_14_method_77_code 1 0 (some .int) := ⟨zw_1813, zw_17, by decide +kernel⟩
theorem zY_X11_ahead : z_Y zTB ⟨"HeldCoats", "ahead", "(I)I"⟩ prog_1_method_20_code 2 1 (some .int) := ⟨zw_948, zw_1, by decide +kernel⟩
theorem zY_X12_ahead : z_Y zTB ⟨"HeldCoatsModel", "ahead", "(I)I"⟩ prog_14_method_79_code 2 1 (some .int) := ⟨zw_1817, zw_17, by decide +kernel⟩
theorem zY_X11_queue : z_Y zTB ⟨"HeldCoats", "queue", "(I)I"⟩ prog_1_method_21_code 2 1 (some .int) := ⟨zw_953, zw_1, by decide +kernel⟩
theorem zY_X12_queue : z_Y zTB ⟨"HeldCoatsModel", "queue", "(I)I"⟩ prog_14_method_80_code 2 1 (some .int) := ⟨zw_1825, zw_17, by decide +kernel⟩
theorem zY_X11_bribes : z_Y zTB ⟨"HeldCoats", "bribes", "(I)I"⟩ prog_1_method_22_code 2 1 (some .int) := ⟨zw_957, zw_1, by decide +kernel⟩
theorem zY_X9_inCloakroom : z_Y zTB ⟨"HeldCoats$State", "inCloakroom", "()I"⟩ prog_11_method_13_code 1 0 (some .int) := ⟨zw_961, zw_10, by decide +kernel⟩
theorem zY_X12_bribes : z_Y zTB ⟨"HeldCoatsModel", "bribes", "(I)I"⟩ prog_14_method_81_code 3 1 (some .int) := ⟨zw_1829, zw_17, by decide +kernel⟩
theorem zY_X1_fewestBribes : z_Y zTB ⟨"HeldCoats$Counsel", "fewestBribes", "(I)I"⟩ prog_3_method_7_code 5 1 (some .int) := ⟨zw_965, zw_15, by decide +kernel⟩
theorem zY_X12_bits : z_Y zTB ⟨"HeldCoatsModel", "bits", "(I)I"⟩ prog_14_method_10_code 3 1 (some .int) := ⟨zw_1793, zw_17, by decide +kernel⟩
theorem zY_X11_frost : z_Y zTB ⟨"HeldCoats", "frost", "(II)I"⟩ prog_1_method_23_code 3 2 (some .int) := ⟨zw_969, zw_1, by decide +kernel⟩
theorem zY_X12_frost : z_Y zTB ⟨"HeldCoatsModel", "frost", "(II)I"⟩ prog_14_method_84_code 3 2 (some .int) := ⟨zw_1833, zw_17, by decide +kernel⟩
theorem zY_X12_areTwo : z_Y zTB ⟨"HeldCoatsModel", "areTwo", "(II)Z"⟩ prog_14_method_83_code 3 2 (some .boolean) := ⟨zw_1837, zw_17, by decide +kernel⟩
theorem zY_X11_frostAt : z_Y zTB ⟨"HeldCoats", "frostAt", "(II)I"⟩ prog_1_method_24_code 3 2 (some .int) := ⟨zw_977, zw_1, by decide +kernel⟩
theorem zY_X12_frostAt : z_Y zTB ⟨"HeldCoatsModel", "frostAt", "(II)I"⟩ prog_14_method_85_code 3 2 (some .int) := ⟨zw_1845, zw_17, by decide +kernel⟩
theorem zY_X11_word : z_Y zTB ⟨"HeldCoats", "word", "(I)I"⟩ prog_1_method_25_code 2 1 (some .int) := ⟨zw_981, zw_1, by decide +kernel⟩
theorem zY_X12_word : z_Y zTB ⟨"HeldCoatsModel", "word", "(I)I"⟩ prog_14_method_86_code 4 1 (some .int) := ⟨zw_1849, zw_17, by decide +kernel⟩
theorem zY_X1_daysRuledOtherwise : z_Y zTB ⟨"HeldCoats$Counsel", "daysRuledOtherwise", "(I)I"⟩ prog_3_method_9_code 7 1 (some .int) := ⟨zw_985, zw_15, by decide +kernel⟩
theorem zY_X1_trialOfNow : z_Y zTB ⟨"HeldCoats$Counsel", "trialOfNow", "()LHeldCoats$State;"⟩ prog_3_method_2_code 1 0 (some (.object "HeldCoats$State")) := ⟨zw_989, zw_15, by decide +kernel⟩
theorem zY_X12_tries : z_Y zTB ⟨"HeldCoatsModel", "tries", "()V"⟩ prog_14_method_70_code 2 0 none := ⟨zw_1853, zw_17, by decide +kernel⟩
theorem zY_X12_back : z_Y zTB ⟨"HeldCoatsModel", "back", "()V"⟩ prog_14_method_71_code 2 0 none := ⟨zw_1857, zw_17, by decide +kernel⟩
theorem zY_X11_bare : z_Y zTB ⟨"HeldCoats", "bare", "()I"⟩ prog_1_method_26_code 1 0 (some .int) := ⟨zw_997, zw_1, by decide +kernel⟩
theorem zY_X1_firstDayRuledBy : z_Y zTB ⟨"HeldCoats$Counsel", "firstDayRuledBy", "(I)I"⟩ prog_3_method_10_code 4 1 (some .int) := ⟨zw_1001, zw_15, by decide +kernel⟩
theorem zY_X12_bare : z_Y zTB ⟨"HeldCoatsModel", "bare", "()I"⟩ prog_14_method_88_code 1 0 (some .int) := ⟨zw_1861, zw_17, by decide +kernel⟩
theorem zY_X12_firstOf : z_Y zTB ⟨"HeldCoatsModel", "firstOf", "(I)I"⟩ prog_14_method_87_code 3 1 (some .int) := ⟨zw_1865, zw_17, by decide +kernel⟩
theorem zY_X11_rules : z_Y zTB ⟨"HeldCoats", "rules", "(I)I"⟩ prog_1_method_27_code 2 1 (some .int) := ⟨zw_1005, zw_1, by decide +kernel⟩
theorem zY_X12_rules : z_Y zTB ⟨"HeldCoatsModel", "rules", "(I)I"⟩ prog_14_method_89_code 2 1 (some .int) := ⟨zw_1869, zw_17, by decide +kernel⟩
theorem zY_X11_harm : z_Y zTB ⟨"HeldCoats", "harm", "(II)I"⟩ prog_1_method_28_code 3 2 (some .int) := ⟨zw_1009, zw_1, by decide +kernel⟩
theorem zY_X12_harm : z_Y zTB ⟨"HeldCoatsModel", "harm", "(II)I"⟩ prog_14_method_90_code 5 2 (some .int) := ⟨zw_1873, zw_17, by decide +kernel⟩
theorem zY_X11_hooks : z_Y zTB ⟨"HeldCoats", "hooks", "()I"⟩ prog_1_method_29_code 2 0 (some .int) := ⟨zw_1017, zw_1, by decide +kernel⟩
theorem zY_X1_waysToHaveLain : z_Y zTB ⟨"HeldCoats$Counsel", "waysToHaveLain", "(LHeldCoats$Tape;)I"⟩ prog_3_method_12_code 5 1 (some .int) := ⟨zw_1021, zw_15, by decide +kernel⟩
theorem zY_X12_hooks : z_Y zTB ⟨"HeldCoatsModel", "hooks", "()I"⟩ prog_14_method_91_code 7 0 (some .int) := ⟨zw_1877, zw_17, by decide +kernel⟩
theorem zY_X11_surely : z_Y zTB ⟨"HeldCoats", "surely", "()I"⟩ prog_1_method_30_code 1 0 (some .int) := ⟨zw_1038, zw_1, by decide +kernel⟩
theorem zY_X12_surely : z_Y zTB ⟨"HeldCoatsModel", "surely", "()I"⟩ prog_14_method_92_code 1 0 (some .int) := ⟨zw_1885, zw_17, by decide +kernel⟩
theorem zY_X11_never : z_Y zTB ⟨"HeldCoats", "never", "()I"⟩ prog_1_method_31_code 1 0 (some .int) := ⟨zw_1042, zw_1, by decide +kernel⟩
theorem zY_X12_never : z_Y zTB ⟨"HeldCoatsModel", "never", "()I"⟩ prog_14_method_93_code 1 0 (some .int) := ⟨zw_1889, zw_17, by decide +kernel⟩
theorem zY_X11_rounds : z_Y zTB ⟨"HeldCoats", "rounds", "()I"⟩ prog_1_method_32_code 1 0 (some .int) := ⟨zw_1046, zw_1, by decide +kernel⟩
theorem zY_X1_roundsTillRest : z_Y zTB ⟨"HeldCoats$Counsel", "roundsTillRest", "()I"⟩ prog_3_method_15_code 6 0 (some .int) := ⟨zw_1050, zw_15, by decide +kernel⟩
theorem zY_X1_menWanting : z_Y zTB ⟨"HeldCoats$Counsel", "menWanting", "(I)I"⟩ prog_3_method_16_code 4 1 (some .int) := ⟨zw_1054, zw_15, by decide +kernel⟩
theorem zY_X12_rounds : z_Y zTB ⟨"HeldCoatsModel", "rounds", "()I"⟩ prog_14_method_94_code 6 0 (some .int) := ⟨zw_1893, zw_17, by decide +kernel⟩
theorem zY_X11_price : z_Y zTB ⟨"HeldCoats", "price", "()I"⟩ prog_1_method_33_code 1 0 (some .int) := ⟨zw_1064, zw_1, by decide +kernel⟩
theorem zY_X12_price : z_Y zTB ⟨"HeldCoatsModel", "price", "()I"⟩ prog_14_method_95_code 1 0 (some .int) := ⟨zw_1897, zw_17, by decide +kernel⟩
theorem zY_X11_drawn : z_Y zTB ⟨"HeldCoats", "drawn", "(II)I"⟩ prog_1_method_34_code 3 2 (some .int) := ⟨zw_1068, zw_1, by decide +kernel⟩
theorem zY_X12_drawn : z_Y zTB ⟨"HeldCoatsModel", "drawn", "(II)I"⟩ prog_14_method_99_code 3 2 (some .int) := ⟨zw_1901, zw_17, by decide +kernel⟩
theorem zY_X11_odds : z_Y zTB ⟨"HeldCoats", "odds", "(III)I"⟩ prog_1_method_35_code 4 3 (some .int) := ⟨zw_1092, zw_1, by decide +kernel⟩
theorem zY_X12_odds : z_Y zTB ⟨"HeldCoatsModel", "odds", "(III)I"⟩ prog_14_method_100_code 7 3 (some .int) := ⟨zw_1918, zw_17, by decide +kernel⟩
theorem zY_X11_book : z_Y zTB ⟨"HeldCoats", "book", "(I)I"⟩ prog_1_method_36_code 3 1 (some .int) := ⟨zw_1104, zw_1, by decide +kernel⟩
theorem zY_X12_book : z_Y zTB ⟨"HeldCoatsModel", "book", "(I)I"⟩ prog_14_method_103_code 5 1 (some .int) := ⟨zw_1922, zw_17, by decide +kernel⟩
theorem zY_X0_readText : z_Y zTB ⟨"HeldCoats$Book", "readText", "(LHeldCoats$Tape;LHeldCoats$Names;)Z"⟩ prog_2_method_2_code 4 2 (some .boolean) := ⟨zw_1108, zw_14, by decide +kernel⟩
theorem zY_X0_judge : z_Y zTB ⟨"HeldCoats$Book", "judge", "(LHeldCoats$State;)I"⟩ prog_2_method_7_code 5 1 (some .int) := ⟨zw_1141, zw_14, by decide +kernel⟩
theorem zY_X11_told : z_Y zTB ⟨"HeldCoats", "told", "(I)I"⟩ prog_1_method_37_code 2 1 (some .int) := ⟨zw_1158, zw_1, by decide +kernel⟩
theorem zY_X12_told : z_Y zTB ⟨"HeldCoatsModel", "told", "(I)I"⟩ prog_14_method_104_code 2 1 (some .int) := ⟨zw_1934, zw_17, by decide +kernel⟩
theorem zY_X11_sentence : z_Y zTB ⟨"HeldCoats", "sentence", "()I"⟩ prog_1_method_38_code 2 0 (some .int) := ⟨zw_1162, zw_1, by decide +kernel⟩
theorem zY_X8_open : z_Y zTB ⟨"HeldCoats$SentenceReader", "open", "(LHeldCoats$Names;)V"⟩ prog_10_method_2_code 2 1 none := ⟨zw_1166, zw_13, by decide +kernel⟩
theorem zY_X8_readCond : z_Y zTB ⟨"HeldCoats$SentenceReader", "readCond", "(I)Z"⟩ prog_10_method_4_code 3 1 (some .boolean) := ⟨zw_1172, zw_13, by decide +kernel⟩
theorem zY_X8_readAll : z_Y zTB ⟨"HeldCoats$SentenceReader", "readAll", "(I)Z"⟩ prog_10_method_5_code 3 1 (some .boolean) := ⟨zw_1176, zw_13, by decide +kernel⟩
theorem zY_X8_readOne : z_Y zTB ⟨"HeldCoats$SentenceReader", "readOne", "(I)Z"⟩ prog_10_method_6_code 4 1 (some .boolean) := ⟨zw_1180, zw_13, by decide +kernel⟩
theorem zY_X10_isSign : z_Y zTB ⟨"HeldCoats$Tape", "isSign", "(I)Z"⟩ prog_12_method_13_code 2 1 (some .boolean) := ⟨zw_675, zw_2, by decide +kernel⟩
theorem zY_X10_refuse : z_Y zTB ⟨"HeldCoats$Tape", "refuse", "(I)Z"⟩ prog_12_method_10_code 2 1 (some .boolean) := ⟨zw_621, zw_2, by decide +kernel⟩
theorem zY_X12_sentence : z_Y zTB ⟨"HeldCoatsModel", "sentence", "()I"⟩ prog_14_method_111_code 3 0 (some .int) := ⟨zw_1938, zw_17, by decide +kernel⟩
theorem zY_X12_operand : z_Y zTB ⟨"HeldCoatsModel", "operand", "()Z"⟩ prog_14_method_109_code 5 0 (some .boolean) := ⟨zw_1958, zw_17, by decide +kernel⟩
theorem zY_X12_isWord : z_Y zTB ⟨"HeldCoatsModel", "isWord", "(J)Z"⟩ prog_14_method_19_code 3 1 (some .boolean) := ⟨zw_1577, zw_17, by decide +kernel⟩
theorem zY_X12_isSign : z_Y zTB ⟨"HeldCoatsModel", "isSign", "(I)Z"⟩ prog_14_method_20_code 2 1 (some .boolean) := ⟨zw_1631, zw_17, by decide +kernel⟩
theorem zY_X12_leafOf : z_Y zTB ⟨"HeldCoatsModel", "leafOf", "()I"⟩ prog_14_method_108_code 1 0 (some .int) := ⟨zw_1962, zw_17, by decide +kernel⟩
theorem zY_X12_bad : z_Y zTB ⟨"HeldCoatsModel", "bad", "(I)Z"⟩ prog_14_method_18_code 2 1 (some .boolean) := ⟨zw_1581, zw_17, by decide +kernel⟩
theorem zY_X11_said : z_Y zTB ⟨"HeldCoats", "said", "(I)I"⟩ prog_1_method_39_code 3 1 (some .int) := ⟨zw_1210, zw_1, by decide +kernel⟩
theorem zY_X12_said : z_Y zTB ⟨"HeldCoatsModel", "said", "(I)I"⟩ prog_14_method_114_code 4 1 (some .int) := ⟨zw_1966, zw_17, by decide +kernel⟩
theorem zY_X11_image : z_Y zTB ⟨"HeldCoats", "image", "(I)Z"⟩ prog_1_method_40_code 2 1 (some .boolean) := ⟨zw_1241, zw_1, by decide +kernel⟩
theorem zY_X12_image : z_Y zTB ⟨"HeldCoatsModel", "image", "(I)Z"⟩ prog_14_method_115_code 3 1 (some .boolean) := ⟨zw_1978, zw_17, by decide +kernel⟩
theorem zY_X2_take : z_Y zTB ⟨"HeldCoats$Image", "take", "(LHeldCoats$Law;LHeldCoats$State;LHeldCoats$Sentence;)V"⟩ prog_4_method_2_code 4 3 none := ⟨zw_1245, zw_16, by decide +kernel⟩
theorem zY_X7_copyFrom : z_Y zTB ⟨"HeldCoats$Sentence", "copyFrom", "(LHeldCoats$Sentence;)V"⟩ prog_9_method_3_code 2 1 none := ⟨zw_1205, zw_12, by decide +kernel⟩
theorem zY_X11_restore : z_Y zTB ⟨"HeldCoats", "restore", "(I)Z"⟩ prog_1_method_41_code 2 1 (some .boolean) := ⟨zw_1252, zw_1, by decide +kernel⟩
theorem zY_X12_restore : z_Y zTB ⟨"HeldCoatsModel", "restore", "(I)Z"⟩ prog_14_method_116_code 3 1 (some .boolean) := ⟨zw_1982, zw_17, by decide +kernel⟩
theorem zY_X11_count : z_Y zTB ⟨"HeldCoats", "count", "(I)I"⟩ prog_1_method_42_code 2 1 (some .int) := ⟨zw_1260, zw_1, by decide +kernel⟩
theorem zY_X12_count : z_Y zTB ⟨"HeldCoatsModel", "count", "(I)I"⟩ prog_14_method_117_code 2 1 (some .int) := ⟨zw_1986, zw_17, by decide +kernel⟩
end
section
def zt_X11_init : List zE := [(0, .aload_n 0, []), (1, .invokespecial 1, [0]), (4, .aload_n 0, []), (5, .new 7, [10, 11]), (8, .dup, []), (9, .invokespecial 9, [9999]), (12, .putfield 10, [11, 0]), (15, .aload_n 0, []), (16, .new 16, [3, 16]), (19, .dup, []), (20, .invokespecial 18, [1, 1]), (23, .putfield 19, [11, 1]), (26, .aload_n 0, []), (27, .new 23, [4, 4]), (30, .dup, []), (31, .aload_n 0, []), (32, .getfield 10, [11, 0]), (35, .invokespecial 25, [1, 5]), (38, .putfield 28, [11, 2]), (41, .aload_n 0, []), (42, .new 32, [9, 13]), (45, .dup, []), (46, .aload_n 0, []), (47, .getfield 19, [11, 1]), (50, .invokespecial 34, [1, 6]), (53, .putfield 37, [11, 3]), (56, .aload_n 0, []), (57, .new 41, [6, 3]), (60, .dup, []), (61, .aload_n 0, []), (62, .getfield 19, [11, 1]), (65, .invokespecial 43, [1, 7]), (68, .putfield 44, [11, 4]), (71, .aload_n 0, []), (72, .new 48, [7, 6]), (75, .dup, []), (76, .invokespecial 50, [1, 8]), (79, .putfield 51, [11, 5]), (82, .aload_n 0, []), (83, .new 55, [8, 3]), (86, .dup, []), (87, .aload_n 0, []), (88, .getfield 10, [11, 0]), (91, .invokespecial 57, [1, 9]), (94, .putfield 58, [11, 6]), (97, .aload_n 0, []), (98, .new 62, [0, 5]), (101, .dup, []), (102, .invokespecial 64, [1, 10]), (105, .putfield 65, [11, 7]), (108, .aload_n 0, []), (109, .new 69, [1, 14]), (112, .dup, []), (113, .aload_n 0, []), (114, .getfield 19, [11, 1]), (117, .aload_n 0, []), (118, .getfield 37, [11, 3]), (121, .invokespecial 71, [1, 11]), (124, .putfield 74, [11, 8]), (127, .aload_n 0, []), (128, .iconst 2, []), (129, .anewarray 78, [5]), (132, .putfield 80, [11, 9]), (135, .iconst 0, []), (136, .istore_n 1, []), (137, .iload_n 1, []), (138, .iconst 2, []), (139, .if_icmp .ge 22, []), (142, .aload_n 0, []), (143, .getfield 80, [11, 9]), (146, .iload_n 1, []), (147, .new 78, [2, 4]), (150, .dup, []), (151, .invokespecial 84, [1, 12]), (154, .aastore, []), (155, .iinc 1 1, []), (158, .goto (-21), []), (161, .return_, [])]
def zm_X11_init : zM := (⟨"HeldCoats", "<init>", "()V"⟩, prog_1_method_1_code, 2, none, zt_X11_init, 208, 3385, 0)
def zt_X3_init : List zE := [(0, .aload_n 0, []), (1, .invokespecial 3, [0]), (4, .aload_n 0, []), (5, .bipush 8, []), (7, .newarray .int, []), (9, .putfield 9, [3, 8]), (12, .aload_n 0, []), (13, .bipush 6, []), (15, .newarray .int, []), (17, .putfield 15, [3, 9]), (20, .aload_n 0, []), (21, .bipush 8, []), (23, .newarray .int, []), (25, .putfield 18, [3, 10]), (28, .aload_n 0, []), (29, .bipush 8, []), (31, .newarray .int, []), (33, .putfield 21, [3, 11]), (36, .aload_n 0, []), (37, .bipush 8, []), (39, .newarray .int, []), (41, .putfield 24, [3, 12]), (44, .aload_n 0, []), (45, .bipush 8, []), (47, .newarray .int, []), (49, .putfield 27, [3, 13]), (52, .aload_n 0, []), (53, .bipush 8, []), (55, .newarray .int, []), (57, .putfield 30, [3, 14]), (60, .aload_n 0, []), (61, .new 33, [5, 4]), (64, .dup, []), (65, .invokespecial 35, [1, 2]), (68, .putfield 36, [3, 15]), (71, .aload_n 0, []), (72, .invokevirtual 40, [1, 3, 3]), (75, .return_, [])]
def zm_X3_init : zM := (⟨"HeldCoats$Law", "<init>", "()V"⟩, prog_5_method_1_code, 1, none, zt_X3_init, 11, 124, 0)
def zt_X5_init : List zE := [(0, .aload_n 0, []), (1, .invokespecial 3, [0]), (4, .aload_n 0, []), (5, .bipush 22, []), (7, .newarray .long, []), (9, .putfield 9, [5, 0]), (12, .aload_n 0, []), (13, .bipush 22, []), (15, .newarray .int, []), (17, .putfield 15, [5, 1]), (20, .aload_n 0, []), (21, .bipush 22, []), (23, .newarray .int, []), (25, .putfield 19, [5, 2]), (28, .return_, [])]
def zm_X5_init : zM := (⟨"HeldCoats$Names", "<init>", "()V"⟩, prog_7_method_1_code, 1, none, zt_X5_init, 3, 66, 0)
def zt_X3_clear : List zE := [(0, .aload_n 0, []), (1, .iconst 0, []), (2, .putfield 43, [3, 0]), (5, .aload_n 0, []), (6, .iconst 0, []), (7, .putfield 47, [3, 1]), (10, .aload_n 0, []), (11, .iconst 0, []), (12, .putfield 50, [3, 2]), (15, .aload_n 0, []), (16, .iconst 0, []), (17, .putfield 53, [3, 3]), (20, .aload_n 0, []), (21, .iconst 0, []), (22, .putfield 56, [3, 4]), (25, .aload_n 0, []), (26, .bipush 9, []), (28, .putfield 59, [3, 5]), (31, .aload_n 0, []), (32, .iconst 1, []), (33, .putfield 62, [3, 6]), (36, .aload_n 0, []), (37, .sipush 200, []), (40, .putfield 65, [3, 7]), (43, .aload_n 0, []), (44, .getfield 36, [3, 15]), (47, .invokevirtual 68, [1, 4, 5]), (50, .return_, [])]
def zm_X3_clear : zM := (⟨"HeldCoats$Law", "clear", "()V"⟩, prog_5_method_2_code, 1, none, zt_X3_clear, 0, 0, 0)
def zt_X5_clear : List zE := [(0, .aload_n 0, []), (1, .iconst 0, []), (2, .putfield 22, [5, 3]), (5, .return_, [])]
def zm_X5_clear : zM := (⟨"HeldCoats$Names", "clear", "()V"⟩, prog_7_method_2_code, 1, none, zt_X5_clear, 0, 0, 0)
def zt_X4_init : List zE := [(0, .aload_n 0, []), (1, .invokespecial 3, [0]), (4, .aload_n 0, []), (5, .new 9, [3, 16]), (8, .dup, []), (9, .invokespecial 11, [1, 1]), (12, .putfield 12, [4, 1]), (15, .aload_n 0, []), (16, .aload_n 1, []), (17, .putfield 18, [4, 0]), (20, .return_, [])]
def zm_X4_init : zM := (⟨"HeldCoats$LawReader", "<init>", "(LHeldCoats$Tape;)V"⟩, prog_6_method_1_code, 2, none, zt_X4_init, 12, 140, 1)
def zt_X9_init : List zE := [(0, .aload_n 0, []), (1, .invokespecial 3, [0]), (4, .aload_n 0, []), (5, .bipush 8, []), (7, .newarray .int, []), (9, .putfield 9, [9, 5]), (12, .aload_n 0, []), (13, .bipush 8, []), (15, .newarray .int, []), (17, .putfield 15, [9, 6]), (20, .aload_n 0, []), (21, .bipush 8, []), (23, .newarray .int, []), (25, .putfield 18, [9, 7]), (28, .aload_n 0, []), (29, .bipush 8, []), (31, .newarray .int, []), (33, .putfield 21, [9, 8]), (36, .aload_n 0, []), (37, .bipush 8, []), (39, .newarray .int, []), (41, .putfield 24, [9, 9]), (44, .aload_n 0, []), (45, .bipush 6, []), (47, .newarray .int, []), (49, .putfield 27, [9, 10]), (52, .aload_n 0, []), (53, .bipush 6, []), (55, .newarray .int, []), (57, .putfield 30, [9, 11]), (60, .aload_n 0, []), (61, .bipush 6, []), (63, .newarray .int, []), (65, .putfield 33, [9, 12]), (68, .aload_n 0, []), (69, .aload_n 1, []), (70, .putfield 36, [9, 0]), (73, .aload_n 0, []), (74, .iconst (-1), []), (75, .putfield 40, [9, 3]), (78, .return_, [])]
def zm_X9_init : zM := (⟨"HeldCoats$State", "<init>", "(LHeldCoats$Law;)V"⟩, prog_11_method_1_code, 2, none, zt_X9_init, 8, 58, 1)
def zt_X6_init : List zE := [(0, .aload_n 0, []), (1, .invokespecial 3, [0]), (4, .aload_n 0, []), (5, .bipush 9, []), (7, .anewarray 9, [4]), (10, .putfield 11, [6, 0]), (13, .iconst 0, []), (14, .istore_n 2, []), (15, .iload_n 2, []), (16, .bipush 8, []), (18, .if_icmp .gt 23, []), (21, .aload_n 0, []), (22, .getfield 11, [6, 0]), (25, .iload_n 2, []), (26, .new 9, [9, 13]), (29, .dup, []), (30, .aload_n 1, []), (31, .invokespecial 17, [1, 6]), (34, .aastore, []), (35, .iinc 2 1, []), (38, .goto (-23), []), (41, .return_, [])]
def zm_X6_init : zM := (⟨"HeldCoats$Past", "<init>", "(LHeldCoats$Law;)V"⟩, prog_8_method_1_code, 3, none, zt_X6_init, 82, 648, 1)
def zt_X7_init : List zE := [(0, .aload_n 0, []), (1, .invokespecial 3, [0]), (4, .aload_n 0, []), (5, .bipush 40, []), (7, .newarray .int, []), (9, .putfield 11, [7, 0]), (12, .aload_n 0, []), (13, .bipush 40, []), (15, .newarray .int, []), (17, .putfield 15, [7, 1]), (20, .aload_n 0, []), (21, .bipush 40, []), (23, .newarray .int, []), (25, .putfield 18, [7, 2]), (28, .aload_n 0, []), (29, .bipush 40, []), (31, .newarray .int, []), (33, .putfield 21, [7, 3]), (36, .return_, [])]
def zm_X7_init : zM := (⟨"HeldCoats$Sentence", "<init>", "()V"⟩, prog_9_method_1_code, 1, none, zt_X7_init, 4, 160, 0)
def zt_X8_init : List zE := [(0, .aload_n 0, []), (1, .invokespecial 3, [0]), (4, .aload_n 0, []), (5, .new 9, [7, 6]), (8, .dup, []), (9, .invokespecial 11, [1, 8]), (12, .putfield 12, [8, 1]), (15, .aload_n 0, []), (16, .aload_n 1, []), (17, .putfield 18, [8, 0]), (20, .aload_n 0, []), (21, .new 22, [5, 4]), (24, .dup, []), (25, .invokespecial 24, [1, 2]), (28, .putfield 25, [8, 2]), (31, .return_, [])]
def zm_X8_init : zM := (⟨"HeldCoats$SentenceReader", "<init>", "(LHeldCoats$Tape;)V"⟩, prog_10_method_1_code, 2, none, zt_X8_init, 9, 236, 1)
def zt_X0_init : List zE := [(0, .aload_n 0, []), (1, .invokespecial 3, [0]), (4, .aload_n 0, []), (5, .bipush 40, []), (7, .newarray .int, []), (9, .putfield 9, [0, 0]), (12, .aload_n 0, []), (13, .bipush 40, []), (15, .newarray .int, []), (17, .putfield 15, [0, 1]), (20, .aload_n 0, []), (21, .bipush 40, []), (23, .newarray .int, []), (25, .putfield 18, [0, 2]), (28, .aload_n 0, []), (29, .iconst 4, []), (30, .newarray .int, []), (32, .dup, []), (33, .iconst 0, []), (34, .iconst (-1), []), (35, .iastore, []), (36, .dup, []), (37, .iconst 1, []), (38, .iconst (-1), []), (39, .iastore, []), (40, .dup, []), (41, .iconst 2, []), (42, .iconst (-1), []), (43, .iastore, []), (44, .dup, []), (45, .iconst 3, []), (46, .iconst (-1), []), (47, .iastore, []), (48, .putfield 21, [0, 3]), (51, .return_, [])]
def zm_X0_init : zM := (⟨"HeldCoats$Book", "<init>", "()V"⟩, prog_2_method_1_code, 1, none, zt_X0_init, 4, 124, 0)
def zt_X1_init : List zE := [(0, .aload_n 0, []), (1, .invokespecial 3, [0]), (4, .aload_n 0, []), (5, .bipush 9, []), (7, .newarray .int, []), (9, .putfield 9, [1, 3]), (12, .aload_n 0, []), (13, .bipush 6, []), (15, .newarray .int, []), (17, .putfield 15, [1, 4]), (20, .aload_n 0, []), (21, .bipush 6, []), (23, .newarray .int, []), (25, .putfield 18, [1, 5]), (28, .aload_n 0, []), (29, .iconst (-1), []), (30, .putfield 21, [1, 6]), (33, .aload_n 0, []), (34, .iconst (-1), []), (35, .putfield 25, [1, 7]), (38, .aload_n 0, []), (39, .iconst (-1), []), (40, .putfield 28, [1, 8]), (43, .aload_n 0, []), (44, .iconst (-1), []), (45, .putfield 31, [1, 9]), (48, .aload_n 0, []), (49, .iconst (-1), []), (50, .putfield 34, [1, 10]), (53, .aload_n 0, []), (54, .aload_n 1, []), (55, .putfield 37, [1, 0]), (58, .aload_n 0, []), (59, .aload_n 2, []), (60, .putfield 41, [1, 1]), (63, .aload_n 0, []), (64, .new 45, [9, 13]), (67, .dup, []), (68, .aload_n 1, []), (69, .invokespecial 47, [1, 6]), (72, .putfield 50, [1, 2]), (75, .return_, [])]
def zm_X1_init : zM := (⟨"HeldCoats$Counsel", "<init>", "(LHeldCoats$Law;LHeldCoats$State;)V"⟩, prog_3_method_1_code, 3, none, zt_X1_init, 12, 92, 2)
def zt_X2_init : List zE := [(0, .aload_n 0, []), (1, .invokespecial 1, [0]), (4, .aload_n 0, []), (5, .new 7, [3, 16]), (8, .dup, []), (9, .invokespecial 9, [1, 1]), (12, .putfield 10, [2, 0]), (15, .aload_n 0, []), (16, .new 16, [9, 13]), (19, .dup, []), (20, .aload_n 0, []), (21, .getfield 10, [2, 0]), (24, .invokespecial 18, [1, 6]), (27, .putfield 21, [2, 1]), (30, .aload_n 0, []), (31, .new 25, [7, 6]), (34, .dup, []), (35, .invokespecial 27, [1, 8]), (38, .putfield 28, [2, 2]), (41, .return_, [])]
def zm_X2_init : zM := (⟨"HeldCoats$Image", "<init>", "()V"⟩, prog_4_method_1_code, 1, none, zt_X2_init, 26, 377, 0)
def zt_X12_init : List zE := [(0, .aload_n 0, []), (1, .invokespecial 27, [0]), (4, .aload_n 0, []), (5, .sipush 940, []), (8, .newarray .byte, []), (10, .putfield 14, [12, 1]), (13, .aload_n 0, []), (14, .sipush 299, []), (17, .newarray .int, []), (19, .putfield 33, [12, 6]), (22, .aload_n 0, []), (23, .bipush 62, []), (25, .newarray .int, []), (27, .putfield 37, [12, 7]), (30, .aload_n 0, []), (31, .sipush 135, []), (34, .newarray .int, []), (36, .putfield 40, [12, 8]), (39, .aload_n 0, []), (40, .bipush 44, []), (42, .newarray .long, []), (44, .putfield 43, [12, 9]), (47, .aload_n 0, []), (48, .bipush 24, []), (50, .newarray .long, []), (52, .putfield 47, [12, 10]), (55, .aload_n 0, []), (56, .sipush 448, []), (59, .newarray .int, []), (61, .putfield 50, [12, 21]), (64, .aload_n 0, []), (65, .bipush 56, []), (67, .newarray .int, []), (69, .putfield 53, [12, 22]), (72, .aload_n 0, []), (73, .bipush 6, []), (75, .newarray .int, []), (77, .putfield 56, [12, 32]), (80, .aload_n 0, []), (81, .iconst 4, []), (82, .newarray .int, []), (84, .putfield 59, [12, 37]), (87, .aload_n 0, []), (88, .bipush 45, []), (90, .newarray .int, []), (92, .putfield 62, [12, 39]), (95, .aload_n 0, []), (96, .bipush 45, []), (98, .newarray .boolean, []), (100, .putfield 65, [12, 45]), (103, .aload_n 0, []), (104, .sipush 598, []), (107, .newarray .int, []), (109, .putfield 69, [12, 46]), (112, .aload_n 0, []), (113, .bipush 44, []), (115, .newarray .long, []), (117, .putfield 72, [12, 47]), (120, .aload_n 0, []), (121, .iconst 2, []), (122, .newarray .boolean, []), (124, .putfield 75, [12, 48]), (127, .aload_n 0, []), (128, .getfield 47, [12, 10]), (131, .iconst 0, []), (132, .ldc2_w 78, []), (135, .lastore, []), (136, .aload_n 0, []), (137, .getfield 47, [12, 10]), (140, .iconst 1, []), (141, .ldc2_w 80, []), (144, .lastore, []), (145, .aload_n 0, []), (146, .getfield 47, [12, 10]), (149, .iconst 2, []), (150, .ldc2_w 82, []), (153, .lastore, []), (154, .aload_n 0, []), (155, .getfield 47, [12, 10]), (158, .iconst 3, []), (159, .ldc2_w 84, []), (162, .lastore, []), (163, .aload_n 0, []), (164, .getfield 47, [12, 10]), (167, .iconst 4, []), (168, .ldc2_w 86, []), (171, .lastore, []), (172, .aload_n 0, []), (173, .getfield 47, [12, 10]), (176, .iconst 5, []), (177, .ldc2_w 88, []), (180, .lastore, []), (181, .aload_n 0, []), (182, .getfield 47, [12, 10]), (185, .bipush 6, []), (187, .ldc2_w 90, []), (190, .lastore, []), (191, .aload_n 0, []), (192, .getfield 47, [12, 10]), (195, .bipush 7, []), (197, .ldc2_w 92, []), (200, .lastore, []), (201, .aload_n 0, []), (202, .getfield 47, [12, 10]), (205, .bipush 8, []), (207, .ldc2_w 94, []), (210, .lastore, []), (211, .aload_n 0, []), (212, .getfield 47, [12, 10]), (215, .bipush 9, []), (217, .ldc2_w 96, []), (220, .lastore, []), (221, .aload_n 0, []), (222, .getfield 47, [12, 10]), (225, .bipush 10, []), (227, .ldc2_w 98, []), (230, .lastore, []), (231, .aload_n 0, []), (232, .getfield 47, [12, 10]), (235, .bipush 11, []), (237, .ldc2_w 100, []), (240, .lastore, []), (241, .aload_n 0, []), (242, .getfield 47, [12, 10]), (245, .bipush 12, []), (247, .ldc2_w 102, []), (250, .lastore, []), (251, .aload_n 0, []), (252, .getfield 47, [12, 10]), (255, .bipush 13, []), (257, .ldc2_w 104, []), (260, .lastore, []), (261, .aload_n 0, []), (262, .getfield 47, [12, 10]), (265, .bipush 14, []), (267, .ldc2_w 106, []), (270, .lastore, []), (271, .aload_n 0, []), (272, .getfield 47, [12, 10]), (275, .bipush 15, []), (277, .ldc2_w 108, []), (280, .lastore, []), (281, .aload_n 0, []), (282, .getfield 47, [12, 10]), (285, .bipush 16, []), (287, .ldc2_w 110, []), (290, .lastore, []), (291, .aload_n 0, []), (292, .getfield 47, [12, 10]), (295, .bipush 17, []), (297, .ldc2_w 112, []), (300, .lastore, []), (301, .aload_n 0, []), (302, .getfield 47, [12, 10]), (305, .bipush 18, []), (307, .ldc2_w 114, []), (310, .lastore, []), (311, .aload_n 0, []), (312, .getfield 47, [12, 10]), (315, .bipush 19, []), (317, .ldc2_w 116, []), (320, .lastore, []), (321, .aload_n 0, []), (322, .getfield 47, [12, 10]), (325, .bipush 20, []), (327, .ldc2_w 118, []), (330, .lastore, []), (331, .aload_n 0, []), (332, .getfield 47, [12, 10]), (335, .bipush 21, []), (337, .ldc2_w 120, []), (340, .lastore, []), (341, .aload_n 0, []), (342, .getfield 47, [12, 10]), (345, .bipush 22, []), (347, .ldc2_w 122, []), (350, .lastore, []), (351, .aload_n 0, []), (352, .getfield 47, [12, 10]), (355, .bipush 23, []), (357, .ldc2_w 124, []), (360, .lastore, []), (361, .aload_n 0, []), (362, .invokevirtual 126, [1, 14, 12]), (365, .iconst 0, []), (366, .istore_n 1, []), (367, .iload_n 1, []), (368, .bipush 62, []), (370, .if_icmp .ge 21, []), (373, .aload_n 0, []), (374, .getfield 33, [12, 6]), (377, .iload_n 1, []), (378, .aload_n 0, []), (379, .getfield 37, [12, 7]), (382, .iload_n 1, []), (383, .iaload, []), (384, .iastore, []), (385, .iinc 1 1, []), (388, .goto (-21), []), (391, .return_, [])]
def zm_X12_init : zM := (⟨"HeldCoatsModel", "<init>", "()V"⟩, prog_14_method_12_code, 2, none, zt_X12_init, 15, 2752, 0)
def zt_X12_clears : List zE := [(0, .iconst 0, []), (1, .istore_n 1, []), (2, .iload_n 1, []), (3, .bipush 62, []), (5, .if_icmp .ge 16, []), (8, .aload_n 0, []), (9, .getfield 37, [12, 7]), (12, .iload_n 1, []), (13, .iconst 0, []), (14, .iastore, []), (15, .iinc 1 1, []), (18, .goto (-16), []), (21, .aload_n 0, []), (22, .getfield 37, [12, 7]), (25, .iconst 4, []), (26, .bipush 9, []), (28, .iastore, []), (29, .aload_n 0, []), (30, .getfield 37, [12, 7]), (33, .iconst 5, []), (34, .iconst 1, []), (35, .iastore, []), (36, .aload_n 0, []), (37, .getfield 37, [12, 7]), (40, .bipush 6, []), (42, .sipush 200, []), (45, .iastore, []), (46, .return_, [])]
def zm_X12_clears : zM := (⟨"HeldCoatsModel", "clears", "()V"⟩, prog_14_method_13_code, 2, none, zt_X12_clears, 0, 0, 0)
def zt_X11_feed : List zE := [(0, .aload_n 0, []), (1, .getfield 10, [11, 0]), (4, .getfield 85, [10, 2]), (7, .sipush 920, []), (10, .if_icmp .le 5, []), (15, .aload_n 0, []), (16, .getfield 10, [11, 0]), (19, .iload_n 1, []), (20, .invokevirtual 89, [1, 16, 10]), (23, .aload_n 0, []), (24, .getfield 10, [11, 0]), (27, .iload_n 2, []), (28, .invokevirtual 89, [1, 16, 10]), (31, .aload_n 0, []), (32, .getfield 10, [11, 0]), (35, .iload_n 3, []), (36, .invokevirtual 89, [1, 16, 10]), (39, .aload_n 0, []), (40, .getfield 10, [11, 0]), (43, .iload 4, []), (45, .invokevirtual 89, [1, 16, 10]), (48, .aload_n 0, []), (49, .getfield 10, [11, 0]), (52, .iload 5, []), (54, .invokevirtual 89, [1, 16, 10]), (57, .aload_n 0, []), (58, .getfield 10, [11, 0]), (61, .getfield 85, [10, 2]), (64, .ireturn, [])]
def zm_X11_feed : zM := (⟨"HeldCoats", "feed", "(IIIII)I"⟩, prog_1_method_2_code, 6, (some .int), zt_X11_feed, 0, 0, 5)
def zt_X10_addNumber : List zE := [(0, .bipush 24, []), (2, .istore_n 2, []), (3, .iload_n 2, []), (4, .ifCond .lt 45, []), (7, .aload_n 0, []), (8, .getfield 33, [10, 2]), (11, .sipush 940, []), (14, .if_icmp .ge 29, []), (17, .aload_n 0, []), (18, .getfield 9, [10, 0]), (21, .aload_n 0, []), (22, .getfield 33, [10, 2]), (25, .iload_n 1, []), (26, .iload_n 2, []), (27, .iushr, []), (28, .sipush 255, []), (31, .iand, []), (32, .iastore, []), (33, .aload_n 0, []), (34, .dup, []), (35, .getfield 33, [10, 2]), (38, .iconst 1, []), (39, .iadd, []), (40, .putfield 33, [10, 2]), (43, .iinc 2 (-8), []), (46, .goto (-43), []), (49, .return_, [])]
def zm_X10_addNumber : zM := (⟨"HeldCoats$Tape", "addNumber", "(I)V"⟩, prog_12_method_2_code, 3, none, zt_X10_addNumber, 0, 0, 1)
def zt_X12_feed : List zE := [(0, .aload_n 0, []), (1, .iconst 0, []), (2, .putfield 1, [12, 0]), (5, .aload_n 0, []), (6, .getfield 7, [12, 2]), (9, .bipush 20, []), (11, .iadd, []), (12, .sipush 940, []), (15, .if_icmp .le 5, []), (20, .aload_n 0, []), (21, .iload_n 1, []), (22, .invokevirtual 10, [1, 18, 12]), (25, .aload_n 0, []), (26, .iload_n 2, []), (27, .invokevirtual 10, [1, 18, 12]), (30, .aload_n 0, []), (31, .iload_n 3, []), (32, .invokevirtual 10, [1, 18, 12]), (35, .aload_n 0, []), (36, .iload 4, []), (38, .invokevirtual 10, [1, 18, 12]), (41, .aload_n 0, []), (42, .iload 5, []), (44, .invokevirtual 10, [1, 18, 12]), (47, .aload_n 0, []), (48, .getfield 7, [12, 2]), (51, .ireturn, [])]
def zm_X12_feed : zM := (⟨"HeldCoatsModel", "feed", "(IIIII)I"⟩, prog_14_method_3_code, 6, (some .int), zt_X12_feed, 0, 0, 5)
def zt_X12_four : List zE := [(0, .bipush 24, []), (2, .istore_n 2, []), (3, .iload_n 2, []), (4, .ifCond .lt 32, []), (7, .aload_n 0, []), (8, .getfield 14, [12, 1]), (11, .aload_n 0, []), (12, .getfield 7, [12, 2]), (15, .iload_n 1, []), (16, .iload_n 2, []), (17, .ishr, []), (18, .i2b, []), (19, .bastore, []), (20, .aload_n 0, []), (21, .dup, []), (22, .getfield 7, [12, 2]), (25, .iconst 1, []), (26, .iadd, []), (27, .putfield 7, [12, 2]), (30, .iinc 2 (-8), []), (33, .goto (-30), []), (36, .return_, [])]
def zm_X12_four : zM := (⟨"HeldCoatsModel", "four", "(I)V"⟩, prog_14_method_4_code, 3, none, zt_X12_four, 0, 0, 1)
def zt_X11_end : List zE := [(0, .iload_n 1, []), (1, .ifCond .lt 14, []), (4, .iload_n 1, []), (5, .aload_n 0, []), (6, .getfield 10, [11, 0]), (9, .getfield 85, [10, 2]), (12, .if_icmp .le 5, []), (15, .iconst 0, []), (16, .ireturn, []), (17, .aload_n 0, []), (18, .getfield 10, [11, 0]), (21, .iload_n 1, []), (22, .putfield 85, [10, 2]), (25, .iconst 1, []), (26, .ireturn, [])]
def zm_X11_end : zM := (⟨"HeldCoats", "end", "(I)Z"⟩, prog_1_method_3_code, 2, (some .boolean), zt_X11_end, 0, 0, 1)
def zt_X12_end : List zE := [(0, .aload_n 0, []), (1, .iconst 0, []), (2, .putfield 1, [12, 0]), (5, .iload_n 1, []), (6, .ifCond .lt 11, []), (9, .iload_n 1, []), (10, .aload_n 0, []), (11, .getfield 7, [12, 2]), (14, .if_icmp .le 5, []), (17, .iconst 0, []), (18, .ireturn, []), (19, .aload_n 0, []), (20, .iload_n 1, []), (21, .putfield 7, [12, 2]), (24, .iconst 1, []), (25, .ireturn, [])]
def zm_X12_end : zM := (⟨"HeldCoatsModel", "end", "(I)Z"⟩, prog_14_method_5_code, 2, (some .boolean), zt_X12_end, 0, 0, 1)
def zt_X11_capital : List zE := [(0, .aload_n 0, []), (1, .getfield 28, [11, 2]), (4, .invokevirtual 93, [1, 22, 4]), (7, .istore_n 1, []), (8, .aload_n 0, []), (9, .invokevirtual 97, [1, 28, 11]), (12, .iload_n 1, []), (13, .ifCond .ne 13, []), (26, .aload_n 0, []), (27, .getfield 19, [11, 1]), (30, .aload_n 0, []), (31, .getfield 28, [11, 2]), (34, .getfield 103, [4, 1]), (37, .invokevirtual 106, [1, 29, 3]), (40, .aload_n 0, []), (41, .getfield 37, [11, 3]), (44, .invokevirtual 109, [1, 31, 9]), (47, .aload_n 0, []), (48, .getfield 51, [11, 5]), (51, .invokevirtual 112, [1, 33, 7]), (54, .aload_n 0, []), (55, .getfield 44, [11, 4]), (58, .invokevirtual 115, [1, 34, 6]), (61, .aload_n 0, []), (62, .getfield 28, [11, 2]), (65, .getfield 116, [4, 2]), (68, .ireturn, [])]
def zm_X11_capital : zM := (⟨"HeldCoats", "capital", "()I"⟩, prog_1_method_4_code, 2, (some .int), zt_X11_capital, 0, 0, 0)
def zt_X4_readText : List zE := [(0, .aload_n 0, []), (1, .getfield 12, [4, 1]), (4, .invokevirtual 22, [1, 3, 3]), (7, .aload_n 0, []), (8, .iconst 0, []), (9, .putfield 25, [4, 2]), (12, .aload_n 0, []), (13, .iconst 0, []), (14, .putfield 29, [4, 3]), (17, .aload_n 0, []), (18, .getfield 18, [4, 0]), (21, .sipush 900, []), (24, .invokevirtual 32, [1, 23, 10]), (27, .aload_n 0, []), (28, .getfield 25, [4, 2]), (31, .sipush 900, []), (34, .if_icmp .ge 47, []), (37, .aload_n 0, []), (38, .getfield 18, [4, 0]), (41, .getfield 38, [10, 6]), (44, .ifCond .eq 37, []), (81, .aload_n 0, []), (82, .getfield 18, [4, 0]), (85, .invokevirtual 49, [1, 27, 10]), (88, .ireturn, [])]
def zm_X4_readText : zM := (⟨"HeldCoats$LawReader", "readText", "()Z"⟩, prog_6_method_2_code, 1, (some .boolean), zt_X4_readText, 0, 0, 0)
def zt_X10_open : List zE := [(0, .aload_n 0, []), (1, .iload_n 1, []), (2, .putfield 37, [10, 3]), (5, .aload_n 0, []), (6, .iconst 0, []), (7, .putfield 40, [10, 5]), (10, .aload_n 0, []), (11, .iconst 0, []), (12, .putfield 43, [10, 9]), (15, .aload_n 0, []), (16, .iconst 0, []), (17, .putfield 46, [10, 10]), (20, .aload_n 0, []), (21, .invokevirtual 49, [1, 24, 10]), (24, .return_, [])]
def zm_X10_open : zM := (⟨"HeldCoats$Tape", "open", "(I)V"⟩, prog_12_method_3_code, 2, none, zt_X10_open, 0, 0, 1)
def zt_X10_advance : List zE := [(0, .aload_n 0, []), (1, .aload_n 0, []), (2, .aload_n 0, []), (3, .getfield 40, [10, 5]), (6, .invokevirtual 52, [1, 25, 10]), (9, .putfield 56, [10, 4]), (12, .aload_n 0, []), (13, .getfield 56, [10, 4]), (16, .aload_n 0, []), (17, .getfield 33, [10, 2]), (20, .if_icmp .ge 14, []), (34, .aload_n 0, []), (35, .invokevirtual 59, [1, 26, 10]), (38, .return_, [])]
def zm_X10_advance : zM := (⟨"HeldCoats$Tape", "advance", "()V"⟩, prog_12_method_4_code, 1, none, zt_X10_advance, 0, 0, 0)
def zt_X10_firstUnblank : List zE := [(0, .iload_n 1, []), (1, .istore_n 2, []), (2, .iload_n 2, []), (3, .aload_n 0, []), (4, .getfield 33, [10, 2]), (7, .if_icmp .ge 33, []), (40, .aload_n 0, []), (41, .getfield 33, [10, 2]), (44, .ireturn, [])]
def zm_X10_firstUnblank : zM := (⟨"HeldCoats$Tape", "firstUnblank", "(I)I"⟩, prog_12_method_5_code, 3, (some .int), zt_X10_firstUnblank, 0, 0, 1)
def zt_X10_stopAtEnd : List zE := [(0, .aload_n 0, []), (1, .aload_n 0, []), (2, .getfield 33, [10, 2]), (5, .aload_n 0, []), (6, .getfield 37, [10, 3]), (9, .if_icmp .le 7, []), (16, .iconst 0, []), (17, .putfield 69, [10, 6]), (20, .aload_n 0, []), (21, .aload_n 0, []), (22, .getfield 33, [10, 2]), (25, .aload_n 0, []), (26, .getfield 37, [10, 3]), (29, .if_icmp .le 10, []), (39, .aload_n 0, []), (40, .getfield 33, [10, 2]), (43, .putfield 56, [10, 4]), (46, .aload_n 0, []), (47, .aload_n 0, []), (48, .getfield 56, [10, 4]), (51, .putfield 40, [10, 5]), (54, .return_, [])]
def zm_X10_stopAtEnd : zM := (⟨"HeldCoats$Tape", "stopAtEnd", "()V"⟩, prog_12_method_6_code, 1, none, zt_X10_stopAtEnd, 0, 0, 0)
def zt_X10_isOver : List zE := [(0, .aload_n 0, []), (1, .getfield 69, [10, 6]), (4, .ifCond .eq 11, []), (15, .iconst 1, []), (16, .goto 4, []), (20, .ireturn, [])]
def zm_X10_isOver : zM := (⟨"HeldCoats$Tape", "isOver", "()Z"⟩, prog_12_method_11_code, 1, (some .boolean), zt_X10_isOver, 0, 0, 0)
def zt_X11_closeTape : List zE := [(0, .aload_n 0, []), (1, .getfield 10, [11, 0]), (4, .iconst 0, []), (5, .putfield 85, [10, 2]), (8, .aload_n 0, []), (9, .aload_n 0, []), (10, .getfield 10, [11, 0]), (13, .getfield 396, [10, 9]), (16, .putfield 119, [11, 10]), (19, .return_, [])]
def zm_X11_closeTape : zM := (⟨"HeldCoats", "closeTape", "()V"⟩, prog_1_method_43_code, 1, none, zt_X11_closeTape, 0, 0, 0)
def zt_X3_copyFrom : List zE := [(0, .aload_n 0, []), (1, .aload_n 1, []), (2, .getfield 43, [3, 0]), (5, .putfield 43, [3, 0]), (8, .aload_n 0, []), (9, .aload_n 1, []), (10, .getfield 47, [3, 1]), (13, .putfield 47, [3, 1]), (16, .aload_n 0, []), (17, .aload_n 1, []), (18, .getfield 50, [3, 2]), (21, .putfield 50, [3, 2]), (24, .aload_n 0, []), (25, .aload_n 1, []), (26, .getfield 53, [3, 3]), (29, .putfield 53, [3, 3]), (32, .aload_n 0, []), (33, .aload_n 1, []), (34, .getfield 56, [3, 4]), (37, .putfield 56, [3, 4]), (40, .aload_n 0, []), (41, .aload_n 1, []), (42, .getfield 59, [3, 5]), (45, .putfield 59, [3, 5]), (48, .aload_n 0, []), (49, .aload_n 1, []), (50, .getfield 62, [3, 6]), (53, .putfield 62, [3, 6]), (56, .aload_n 0, []), (57, .aload_n 1, []), (58, .getfield 65, [3, 7]), (61, .putfield 65, [3, 7]), (64, .aload_n 1, []), (65, .getfield 9, [3, 8]), (68, .iconst 0, []), (69, .aload_n 0, []), (70, .getfield 9, [3, 8]), (73, .iconst 0, []), (74, .bipush 8, []), (76, .invokestatic 69, [0]), (79, .aload_n 1, []), (80, .getfield 15, [3, 9]), (83, .iconst 0, []), (84, .aload_n 0, []), (85, .getfield 15, [3, 9]), (88, .iconst 0, []), (89, .bipush 6, []), (91, .invokestatic 69, [0]), (94, .aload_n 1, []), (95, .getfield 18, [3, 10]), (98, .iconst 0, []), (99, .aload_n 0, []), (100, .getfield 18, [3, 10]), (103, .iconst 0, []), (104, .bipush 8, []), (106, .invokestatic 69, [0]), (109, .aload_n 1, []), (110, .getfield 21, [3, 11]), (113, .iconst 0, []), (114, .aload_n 0, []), (115, .getfield 21, [3, 11]), (118, .iconst 0, []), (119, .bipush 8, []), (121, .invokestatic 69, [0]), (124, .aload_n 1, []), (125, .getfield 24, [3, 12]), (128, .iconst 0, []), (129, .aload_n 0, []), (130, .getfield 24, [3, 12]), (133, .iconst 0, []), (134, .bipush 8, []), (136, .invokestatic 69, [0]), (139, .aload_n 1, []), (140, .getfield 27, [3, 13]), (143, .iconst 0, []), (144, .aload_n 0, []), (145, .getfield 27, [3, 13]), (148, .iconst 0, []), (149, .bipush 8, []), (151, .invokestatic 69, [0]), (154, .aload_n 1, []), (155, .getfield 30, [3, 14]), (158, .iconst 0, []), (159, .aload_n 0, []), (160, .getfield 30, [3, 14]), (163, .iconst 0, []), (164, .bipush 8, []), (166, .invokestatic 69, [0]), (169, .aload_n 0, []), (170, .getfield 36, [3, 15]), (173, .aload_n 1, []), (174, .getfield 36, [3, 15]), (177, .invokevirtual 75, [1, 30, 5]), (180, .return_, [])]
def zm_X3_copyFrom : zM := (⟨"HeldCoats$Law", "copyFrom", "(LHeldCoats$Law;)V"⟩, prog_5_method_3_code, 2, none, zt_X3_copyFrom, 0, 0, 1)
def zt_X5_copyFrom : List zE := [(0, .aload_n 1, []), (1, .getfield 9, [5, 0]), (4, .iconst 0, []), (5, .aload_n 0, []), (6, .getfield 9, [5, 0]), (9, .iconst 0, []), (10, .bipush 22, []), (12, .invokestatic 26, [0]), (15, .aload_n 1, []), (16, .getfield 15, [5, 1]), (19, .iconst 0, []), (20, .aload_n 0, []), (21, .getfield 15, [5, 1]), (24, .iconst 0, []), (25, .bipush 22, []), (27, .invokestatic 26, [0]), (30, .aload_n 1, []), (31, .getfield 19, [5, 2]), (34, .iconst 0, []), (35, .aload_n 0, []), (36, .getfield 19, [5, 2]), (39, .iconst 0, []), (40, .bipush 22, []), (42, .invokestatic 26, [0]), (45, .aload_n 0, []), (46, .aload_n 1, []), (47, .getfield 22, [5, 3]), (50, .putfield 22, [5, 3]), (53, .return_, [])]
def zm_X5_copyFrom : zM := (⟨"HeldCoats$Names", "copyFrom", "(LHeldCoats$Names;)V"⟩, prog_7_method_3_code, 2, none, zt_X5_copyFrom, 0, 0, 1)
def zt_X9_begin : List zE := [(0, .aload_n 0, []), (1, .iconst 0, []), (2, .putfield 44, [9, 1]), (5, .aload_n 0, []), (6, .iconst 0, []), (7, .putfield 47, [9, 2]), (10, .aload_n 0, []), (11, .iconst (-1), []), (12, .putfield 40, [9, 3]), (15, .aload_n 0, []), (16, .iconst 0, []), (17, .putfield 50, [9, 4]), (20, .iconst 0, []), (21, .istore_n 1, []), (22, .iload_n 1, []), (23, .aload_n 0, []), (24, .getfield 36, [9, 0]), (27, .getfield 53, [3, 2]), (30, .if_icmp .ge 61, []), (91, .aload_n 0, []), (92, .getfield 27, [9, 10]), (95, .iconst 0, []), (96, .invokestatic 64, [1, 32]), (99, .aload_n 0, []), (100, .getfield 30, [9, 11]), (103, .iconst 0, []), (104, .invokestatic 64, [1, 32]), (107, .return_, [])]
def zm_X9_begin : zM := (⟨"HeldCoats$State", "begin", "()V"⟩, prog_11_method_2_code, 2, none, zt_X9_begin, 0, 0, 0)
def zt_J7_fill_53178 : List zE := [(0, .iconst 0, []), (1, .istore_n 2, []), (2, .aload_n 0, []), (3, .arraylength, []), (4, .istore_n 3, []), (5, .iload_n 2, []), (6, .iload_n 3, []), (7, .if_icmp .ge 13, []), (10, .aload_n 0, []), (11, .iload_n 2, []), (12, .iload_n 1, []), (13, .iastore, []), (14, .iinc 2 1, []), (17, .goto (-12), []), (20, .return_, [])]
def zm_J7_fill_53178 : zM := (⟨"java/util/Arrays", "fill", "([II)V"⟩, prog_29_method_103_code, 4, none, zt_J7_fill_53178, 0, 0, 2)
def zt_X7_clear : List zE := [(0, .aload_n 0, []), (1, .iconst 0, []), (2, .putfield 24, [7, 4]), (5, .aload_n 0, []), (6, .iconst 0, []), (7, .putfield 28, [7, 5]), (10, .return_, [])]
def zm_X7_clear : zM := (⟨"HeldCoats$Sentence", "clear", "()V"⟩, prog_9_method_2_code, 1, none, zt_X7_clear, 0, 0, 0)
def zt_X6_clear : List zE := [(0, .aload_n 0, []), (1, .iconst 0, []), (2, .putfield 20, [6, 2]), (5, .return_, [])]
def zm_X6_clear : zM := (⟨"HeldCoats$Past", "clear", "()V"⟩, prog_8_method_2_code, 1, none, zt_X6_clear, 0, 0, 0)
def zt_X12_capital : List zE := [(0, .aload_n 0, []), (1, .iconst 0, []), (2, .putfield 1, [12, 0]), (5, .aload_n 0, []), (6, .sipush 900, []), (9, .invokevirtual 219, [1, 36, 12]), (12, .aload_n 0, []), (13, .iconst 0, []), (14, .putfield 156, [12, 15]), (17, .aload_n 0, []), (18, .iconst 0, []), (19, .putfield 222, [12, 19]), (22, .aload_n 0, []), (23, .iconst 0, []), (24, .putfield 193, [12, 20]), (27, .aload_n 0, []), (28, .invokevirtual 126, [1, 14, 12]), (31, .aload_n 0, []), (32, .invokevirtual 168, [1, 37, 12]), (35, .aload_n 0, []), (36, .getfield 139, [12, 11]), (39, .ifCond .eq 39, []), (78, .iconst 0, []), (79, .istore_n 1, []), (80, .iload_n 1, []), (81, .sipush 299, []), (84, .if_icmp .ge 31, []), (87, .aload_n 0, []), (88, .getfield 33, [12, 6]), (91, .iload_n 1, []), (92, .iload_n 1, []), (93, .bipush 62, []), (95, .if_icmp .ge 12, []), (98, .aload_n 0, []), (99, .getfield 37, [12, 7]), (102, .iload_n 1, []), (103, .iaload, []), (104, .goto 4, []), (107, .iconst 0, []), (108, .iastore, []), (109, .iinc 1 1, []), (112, .goto (-32), []), (115, .iconst 0, []), (116, .istore_n 1, []), (117, .iload_n 1, []), (118, .bipush 22, []), (120, .if_icmp .ge 24, []), (123, .aload_n 0, []), (124, .getfield 43, [12, 9]), (127, .iload_n 1, []), (128, .aload_n 0, []), (129, .getfield 43, [12, 9]), (132, .bipush 22, []), (134, .iload_n 1, []), (135, .iadd, []), (136, .laload, []), (137, .lastore, []), (138, .iinc 1 1, []), (141, .goto (-24), []), (144, .iconst 0, []), (145, .istore_n 1, []), (146, .iload_n 1, []), (147, .bipush 8, []), (149, .if_icmp .ge 63, []), (152, .aload_n 0, []), (153, .getfield 33, [12, 6]), (156, .bipush 65, []), (158, .iload_n 1, []), (159, .iadd, []), (160, .aload_n 0, []), (161, .getfield 33, [12, 6]), (164, .bipush 22, []), (166, .iload_n 1, []), (167, .iadd, []), (168, .iaload, []), (169, .iastore, []), (170, .aload_n 0, []), (171, .getfield 33, [12, 6]), (174, .bipush 73, []), (176, .iload_n 1, []), (177, .iadd, []), (178, .aload_n 0, []), (179, .getfield 33, [12, 6]), (182, .bipush 22, []), (184, .iload_n 1, []), (185, .iadd, []), (186, .iaload, []), (187, .iastore, []), (188, .aload_n 0, []), (189, .getfield 33, [12, 6]), (192, .bipush 81, []), (194, .iload_n 1, []), (195, .iadd, []), (196, .aload_n 0, []), (197, .getfield 33, [12, 6]), (200, .bipush 38, []), (202, .iload_n 1, []), (203, .iadd, []), (204, .iaload, []), (205, .iastore, []), (206, .iinc 1 1, []), (209, .goto (-63), []), (212, .aload_n 0, []), (213, .iconst 0, []), (214, .putfield 231, [12, 23]), (217, .aload_n 0, []), (218, .getfield 222, [12, 19]), (221, .ireturn, [])]
def zm_X12_capital : zM := (⟨"HeldCoatsModel", "capital", "()I"⟩, prog_14_method_32_code, 2, (some .int), zt_X12_capital, 0, 0, 0)
def zt_X12_taken : List zE := [(0, .aload_n 0, []), (1, .aload_n 0, []), (2, .getfield 7, [12, 2]), (5, .putfield 18, [12, 3]), (8, .aload_n 0, []), (9, .iconst 0, []), (10, .putfield 7, [12, 2]), (13, .aload_n 0, []), (14, .iconst 0, []), (15, .putfield 21, [12, 4]), (18, .aload_n 0, []), (19, .iload_n 1, []), (20, .putfield 24, [12, 5]), (23, .return_, [])]
def zm_X12_taken : zM := (⟨"HeldCoatsModel", "taken", "(I)V"⟩, prog_14_method_6_code, 2, none, zt_X12_taken, 0, 0, 1)
def zt_X12_next : List zE := [(0, .aload_n 0, []), (1, .invokevirtual 129, [1, 38, 12]), (4, .bipush 32, []), (6, .if_icmp .eq 12, []), (9, .aload_n 0, []), (10, .invokevirtual 129, [1, 38, 12]), (13, .bipush 10, []), (15, .if_icmp .ne 16, []), (31, .aload_n 0, []), (32, .aload_n 0, []), (33, .getfield 21, [12, 4]), (36, .putfield 133, [12, 12]), (39, .aload_n 0, []), (40, .iconst 0, []), (41, .putfield 136, [12, 13]), (44, .aload_n 0, []), (45, .getfield 18, [12, 3]), (48, .aload_n 0, []), (49, .getfield 24, [12, 5]), (52, .if_icmp .le 28, []), (80, .aload_n 0, []), (81, .invokevirtual 129, [1, 38, 12]), (84, .istore_n 1, []), (85, .iload_n 1, []), (86, .ifCond .ge 9, []), (89, .aload_n 0, []), (90, .iconst 0, []), (91, .putfield 139, [12, 11]), (94, .return_, [])]
def zm_X12_next : zM := (⟨"HeldCoatsModel", "next", "()V"⟩, prog_14_method_17_code, 4, none, zt_X12_next, 0, 0, 0)
def zt_X12_peek : List zE := [(0, .aload_n 0, []), (1, .getfield 21, [12, 4]), (4, .aload_n 0, []), (5, .getfield 18, [12, 3]), (8, .if_icmp .ge 19, []), (27, .iconst (-1), []), (28, .ireturn, [])]
def zm_X12_peek : zM := (⟨"HeldCoatsModel", "peek", "()I"⟩, prog_14_method_14_code, 1, (some .int), zt_X12_peek, 0, 0, 0)
def zt_X11_fault : List zE := [(0, .aload_n 0, []), (1, .getfield 119, [11, 10]), (4, .ireturn, [])]
def zm_X11_fault : zM := (⟨"HeldCoats", "fault", "()I"⟩, prog_1_method_5_code, 1, (some .int), zt_X11_fault, 0, 0, 0)
def zt_X12_fault : List zE := [(0, .aload_n 0, []), (1, .iconst 0, []), (2, .putfield 1, [12, 0]), (5, .aload_n 0, []), (6, .getfield 156, [12, 15]), (9, .ireturn, [])]
def zm_X12_fault : zM := (⟨"HeldCoatsModel", "fault", "()I"⟩, prog_14_method_33_code, 1, (some .int), zt_X12_fault, 0, 0, 0)
def zt_X11_seat : List zE := [(0, .aload_n 0, []), (1, .getfield 19, [11, 1]), (4, .iload_n 1, []), (5, .invokevirtual 122, [1, 42, 3]), (8, .ifCond .ne 5, []), (11, .iconst (-1), []), (12, .ireturn, [])]
def zm_X11_seat : zM := (⟨"HeldCoats", "seat", "(II)I"⟩, prog_1_method_6_code, 3, (some .int), zt_X11_seat, 0, 0, 2)
def zt_X3_hasSeat : List zE := [(0, .iload_n 1, []), (1, .ifCond .lt 15, []), (4, .iload_n 1, []), (5, .aload_n 0, []), (6, .getfield 43, [3, 0]), (9, .if_icmp .ge 7, []), (16, .iconst 0, []), (17, .ireturn, [])]
def zm_X3_hasSeat : zM := (⟨"HeldCoats$Law", "hasSeat", "(I)Z"⟩, prog_5_method_4_code, 2, (some .boolean), zt_X3_hasSeat, 0, 0, 1)
def zt_X12_seat : List zE := [(0, .aload_n 0, []), (1, .iconst 0, []), (2, .putfield 1, [12, 0]), (5, .aload_n 0, []), (6, .iload_n 1, []), (7, .invokevirtual 264, [1, 44, 12]), (10, .ifCond .ne 5, []), (13, .iconst (-1), []), (14, .ireturn, [])]
def zm_X12_seat : zM := (⟨"HeldCoatsModel", "seat", "(II)I"⟩, prog_14_method_49_code, 4, (some .int), zt_X12_seat, 0, 0, 2)
def zt_X12_isSeat : List zE := [(0, .iload_n 1, []), (1, .iconst 0, []), (2, .aload_n 0, []), (3, .getfield 33, [12, 6]), (6, .iconst 0, []), (7, .iaload, []), (8, .iconst 1, []), (9, .isub, []), (10, .invokestatic 171, [1, 45]), (13, .ireturn, [])]
def zm_X12_isSeat : zM := (⟨"HeldCoatsModel", "isSeat", "(I)Z"⟩, prog_14_method_34_code, 2, (some .boolean), zt_X12_isSeat, 0, 0, 1)
def zt_X12_isIn : List zE := [(0, .iload_n 0, []), (1, .iload_n 1, []), (2, .if_icmp .lt 12, []), (5, .iload_n 0, []), (6, .iload_n 2, []), (7, .if_icmp .gt 7, []), (10, .iconst 1, []), (11, .goto 4, []), (14, .iconst 0, []), (15, .ireturn, [])]
def zm_X12_isIn : zM := (⟨"HeldCoatsModel", "isIn", "(III)Z"⟩, prog_14_method_7_code, 3, (some .boolean), zt_X12_isIn, 0, 0, 3)
def zt_X11_now : List zE := [(0, .iload_n 1, []), (1, .tableswitch 133 0 7 #[47, 55, 70, 93, 101, 109, 117, 125], [47]), (48, .aload_n 0, []), (49, .getfield 37, [11, 3]), (52, .getfield 188, [9, 1]), (55, .ireturn, []), (56, .aload_n 0, []), (57, .getfield 19, [11, 1]), (60, .aload_n 0, []), (61, .getfield 37, [11, 3]), (64, .getfield 188, [9, 1]), (67, .invokevirtual 191, [1, 48, 3]), (70, .ireturn, []), (71, .aload_n 0, []), (72, .getfield 19, [11, 1]), (75, .aload_n 0, []), (76, .getfield 37, [11, 3]), (79, .getfield 188, [9, 1]), (82, .invokevirtual 194, [1, 50, 3]), (85, .ifCond .eq 7, []), (92, .iconst 0, []), (93, .ireturn, []), (94, .aload_n 0, []), (95, .getfield 37, [11, 3]), (98, .invokevirtual 197, [1, 52, 9]), (101, .ireturn, []), (102, .aload_n 0, []), (103, .getfield 37, [11, 3]), (106, .getfield 201, [9, 2]), (109, .ireturn, []), (110, .aload_n 0, []), (111, .getfield 37, [11, 3]), (114, .getfield 204, [9, 3]), (117, .ireturn, []), (118, .aload_n 0, []), (119, .getfield 37, [11, 3]), (122, .getfield 207, [9, 4]), (125, .ireturn, []), (126, .aload_n 0, []), (127, .getfield 37, [11, 3]), (130, .invokevirtual 210, [1, 56, 9]), (133, .ireturn, []), (134, .iconst (-1), []), (135, .ireturn, [])]
def zm_X11_now : zM := (⟨"HeldCoats", "now", "(I)I"⟩, prog_1_method_9_code, 2, (some .int), zt_X11_now, 0, 0, 1)
def zt_X12_now : List zE := [(0, .aload_n 0, []), (1, .iconst 0, []), (2, .putfield 1, [12, 0]), (5, .iload_n 1, []), (6, .tableswitch 117 0 7 #[46, 54, 66, 79, 84, 92, 102, 110], [46]), (52, .aload_n 0, []), (53, .getfield 33, [12, 6]), (56, .bipush 62, []), (58, .iaload, []), (59, .ireturn, []), (60, .aload_n 0, []), (61, .aload_n 0, []), (62, .getfield 33, [12, 6]), (65, .bipush 62, []), (67, .iaload, []), (68, .invokevirtual 234, [1, 49, 12]), (71, .ireturn, []), (72, .aload_n 0, []), (73, .invokevirtual 241, [1, 51, 12]), (76, .ifCond .eq 7, []), (83, .iconst 0, []), (84, .ireturn, []), (85, .aload_n 0, []), (86, .invokevirtual 283, [1, 54, 12]), (89, .ireturn, []), (90, .aload_n 0, []), (91, .getfield 33, [12, 6]), (94, .bipush 63, []), (96, .iaload, []), (97, .ireturn, []), (98, .aload_n 0, []), (99, .getfield 33, [12, 6]), (102, .bipush 64, []), (104, .iaload, []), (105, .iconst 1, []), (106, .isub, []), (107, .ireturn, []), (108, .aload_n 0, []), (109, .getfield 33, [12, 6]), (112, .bipush 117, []), (114, .iaload, []), (115, .ireturn, []), (116, .aload_n 0, []), (117, .bipush 30, []), (119, .invokevirtual 253, [1, 58, 12]), (122, .ireturn, []), (123, .iconst (-1), []), (124, .ireturn, [])]
def zm_X12_now : zM := (⟨"HeldCoatsModel", "now", "(I)I"⟩, prog_14_method_52_code, 2, (some .int), zt_X12_now, 0, 0, 1)
def zt_X3_coldOn : List zE := [(0, .iconst (-1), []), (1, .istore_n 2, []), (2, .iconst 0, []), (3, .istore_n 3, []), (4, .iconst 0, []), (5, .istore 4, []), (7, .iload 4, []), (9, .aload_n 0, []), (10, .getfield 53, [3, 3]), (13, .if_icmp .ge 47, []), (60, .iload_n 3, []), (61, .ireturn, [])]
def zm_X3_coldOn : zM := (⟨"HeldCoats$Law", "coldOn", "(I)I"⟩, prog_5_method_8_code, 5, (some .int), zt_X3_coldOn, 0, 0, 1)
def zt_X12_coldOn : List zE := [(0, .iconst (-1), []), (1, .istore_n 2, []), (2, .iconst 0, []), (3, .istore_n 3, []), (4, .iconst 0, []), (5, .istore 4, []), (7, .iload 4, []), (9, .aload_n 0, []), (10, .getfield 33, [12, 6]), (13, .bipush 7, []), (15, .iaload, []), (16, .if_icmp .ge 62, []), (78, .iload_n 3, []), (79, .ireturn, [])]
def zm_X12_coldOn : zM := (⟨"HeldCoatsModel", "coldOn", "(I)I"⟩, prog_14_method_38_code, 5, (some .int), zt_X12_coldOn, 0, 0, 1)
def zt_X3_isSummer : List zE := [(0, .aload_n 0, []), (1, .iload_n 1, []), (2, .invokevirtual 79, [1, 48, 3]), (5, .aload_n 0, []), (6, .getfield 56, [3, 4]), (9, .if_icmp .ge 7, []), (16, .iconst 0, []), (17, .ireturn, [])]
def zm_X3_isSummer : zM := (⟨"HeldCoats$Law", "isSummer", "(I)Z"⟩, prog_5_method_9_code, 2, (some .boolean), zt_X3_isSummer, 0, 0, 1)
def zt_X12_isSummer : List zE := [(0, .aload_n 0, []), (1, .aload_n 0, []), (2, .getfield 33, [12, 6]), (5, .bipush 62, []), (7, .iaload, []), (8, .invokevirtual 234, [1, 49, 12]), (11, .aload_n 0, []), (12, .getfield 33, [12, 6]), (15, .iconst 3, []), (16, .iaload, []), (17, .if_icmp .ge 7, []), (24, .iconst 0, []), (25, .ireturn, [])]
def zm_X12_isSummer : zM := (⟨"HeldCoatsModel", "isSummer", "()Z"⟩, prog_14_method_39_code, 1, (some .boolean), zt_X12_isSummer, 0, 0, 0)
def zt_X9_ruler : List zE := [(0, .aload_n 0, []), (1, .getfield 36, [9, 0]), (4, .aload_n 0, []), (5, .getfield 44, [9, 1]), (8, .invokevirtual 86, [1, 50, 3]), (11, .ifCond .eq 7, []), (18, .aload_n 0, []), (19, .invokevirtual 120, [1, 53, 9]), (22, .ireturn, [])]
def zm_X9_ruler : zM := (⟨"HeldCoats$State", "ruler", "()I"⟩, prog_11_method_20_code, 1, (some .int), zt_X9_ruler, 0, 0, 0)
def zt_X9_rulerWithoutSummer : List zE := [(0, .aload_n 0, []), (1, .getfield 33, [9, 12]), (4, .iconst 0, []), (5, .invokestatic 64, [1, 32]), (8, .iconst 0, []), (9, .istore_n 1, []), (10, .iload_n 1, []), (11, .aload_n 0, []), (12, .getfield 36, [9, 0]), (15, .getfield 53, [3, 2]), (18, .if_icmp .ge 51, []), (69, .iconst (-1), []), (70, .istore_n 1, []), (71, .iconst 0, []), (72, .istore_n 2, []), (73, .iconst 0, []), (74, .istore_n 3, []), (75, .iload_n 3, []), (76, .aload_n 0, []), (77, .getfield 36, [9, 0]), (80, .getfield 76, [3, 1]), (83, .if_icmp .ge 28, []), (111, .iload_n 1, []), (112, .ireturn, [])]
def zm_X9_rulerWithoutSummer : zM := (⟨"HeldCoats$State", "rulerWithoutSummer", "()I"⟩, prog_11_method_19_code, 4, (some .int), zt_X9_rulerWithoutSummer, 0, 0, 0)
def zt_X12_ruler : List zE := [(0, .aload_n 0, []), (1, .aload_n 0, []), (2, .invokevirtual 241, [1, 51, 12]), (5, .ifCond .ne 7, []), (8, .iconst 1, []), (9, .goto 4, []), (13, .invokevirtual 260, [1, 55, 12]), (16, .ireturn, [])]
def zm_X12_ruler : zM := (⟨"HeldCoatsModel", "ruler", "()I"⟩, prog_14_method_48_code, 1, (some .int), zt_X12_ruler, 0, 0, 0)
def zt_X12_rulerBy : List zE := [(0, .iconst (-1), []), (1, .istore_n 2, []), (2, .iconst 0, []), (3, .istore_n 3, []), (4, .iconst 0, []), (5, .istore 4, []), (7, .iload 4, []), (9, .aload_n 0, []), (10, .getfield 33, [12, 6]), (13, .iconst 1, []), (14, .iaload, []), (15, .if_icmp .ge 81, []), (96, .iload_n 2, []), (97, .ireturn, [])]
def zm_X12_rulerBy : zM := (⟨"HeldCoatsModel", "rulerBy", "(Z)I"⟩, prog_14_method_47_code, 7, (some .int), zt_X12_rulerBy, 0, 0, 1)
def zt_X9_eaten : List zE := [(0, .aload_n 0, []), (1, .bipush 30, []), (3, .invokevirtual 90, [1, 57, 9]), (6, .ireturn, [])]
def zm_X9_eaten : zM := (⟨"HeldCoats$State", "eaten", "()I"⟩, prog_11_method_12_code, 1, (some .int), zt_X9_eaten, 0, 0, 0)
def zt_X9_coatsAt : List zE := [(0, .iconst 0, []), (1, .istore_n 2, []), (2, .iconst 0, []), (3, .istore_n 3, []), (4, .iload_n 3, []), (5, .aload_n 0, []), (6, .getfield 36, [9, 0]), (9, .getfield 53, [3, 2]), (12, .if_icmp .ge 25, []), (37, .iload_n 2, []), (38, .ireturn, [])]
def zm_X9_coatsAt : zM := (⟨"HeldCoats$State", "coatsAt", "(I)I"⟩, prog_11_method_10_code, 4, (some .int), zt_X9_coatsAt, 0, 0, 1)
def zt_X12_coatsAt : List zE := [(0, .iconst 0, []), (1, .istore_n 2, []), (2, .iconst 0, []), (3, .istore_n 3, []), (4, .iload_n 3, []), (5, .aload_n 0, []), (6, .getfield 33, [12, 6]), (9, .iconst 2, []), (10, .iaload, []), (11, .if_icmp .ge 32, []), (43, .iload_n 2, []), (44, .ireturn, [])]
def zm_X12_coatsAt : zM := (⟨"HeldCoatsModel", "coatsAt", "(I)I"⟩, prog_14_method_43_code, 4, (some .int), zt_X12_coatsAt, 0, 0, 1)
def zt_X11_lay : List zE := [(0, .aload_n 0, []), (1, .getfield 19, [11, 1]), (4, .iload_n 1, []), (5, .invokevirtual 170, [1, 60, 3]), (8, .ifCond .eq 14, []), (22, .iconst (-1), []), (23, .ireturn, [])]
def zm_X11_lay : zM := (⟨"HeldCoats", "lay", "(II)I"⟩, prog_1_method_10_code, 3, (some .int), zt_X11_lay, 0, 0, 2)
def zt_X3_hasCoat : List zE := [(0, .iload_n 1, []), (1, .ifCond .lt 15, []), (4, .iload_n 1, []), (5, .aload_n 0, []), (6, .getfield 50, [3, 2]), (9, .if_icmp .ge 7, []), (16, .iconst 0, []), (17, .ireturn, [])]
def zm_X3_hasCoat : zM := (⟨"HeldCoats$Law", "hasCoat", "(I)Z"⟩, prog_5_method_6_code, 2, (some .boolean), zt_X3_hasCoat, 0, 0, 1)
def zt_X12_lay : List zE := [(0, .aload_n 0, []), (1, .iconst 0, []), (2, .putfield 1, [12, 0]), (5, .aload_n 0, []), (6, .iload_n 1, []), (7, .invokevirtual 280, [1, 62, 12]), (10, .ifCond .eq 11, []), (21, .iconst (-1), []), (22, .ireturn, [])]
def zm_X12_lay : zM := (⟨"HeldCoatsModel", "lay", "(II)I"⟩, prog_14_method_63_code, 4, (some .int), zt_X12_lay, 0, 0, 2)
def zt_X12_isCoat : List zE := [(0, .iload_n 1, []), (1, .iconst 0, []), (2, .aload_n 0, []), (3, .getfield 33, [12, 6]), (6, .iconst 2, []), (7, .iaload, []), (8, .iconst 1, []), (9, .isub, []), (10, .invokestatic 171, [1, 45]), (13, .ireturn, [])]
def zm_X12_isCoat : zM := (⟨"HeldCoatsModel", "isCoat", "(I)Z"⟩, prog_14_method_36_code, 2, (some .boolean), zt_X12_isCoat, 0, 0, 1)
def zt_X11_wear : List zE := [(0, .aload_n 0, []), (1, .getfield 19, [11, 1]), (4, .iload_n 1, []), (5, .invokevirtual 140, [1, 64, 3]), (8, .ifCond .eq 14, []), (22, .iconst (-1), []), (23, .ireturn, [])]
def zm_X11_wear : zM := (⟨"HeldCoats", "wear", "(II)I"⟩, prog_1_method_11_code, 3, (some .int), zt_X11_wear, 0, 0, 2)
def zt_X3_hasMan : List zE := [(0, .iload_n 1, []), (1, .ifCond .lt 15, []), (4, .iload_n 1, []), (5, .aload_n 0, []), (6, .getfield 47, [3, 1]), (9, .if_icmp .ge 7, []), (16, .iconst 0, []), (17, .ireturn, [])]
def zm_X3_hasMan : zM := (⟨"HeldCoats$Law", "hasMan", "(I)Z"⟩, prog_5_method_5_code, 2, (some .boolean), zt_X3_hasMan, 0, 0, 1)
def zt_X12_wear : List zE := [(0, .aload_n 0, []), (1, .iconst 0, []), (2, .putfield 1, [12, 0]), (5, .aload_n 0, []), (6, .iload_n 1, []), (7, .invokevirtual 270, [1, 66, 12]), (10, .ifCond .eq 11, []), (21, .iconst (-1), []), (22, .ireturn, [])]
def zm_X12_wear : zM := (⟨"HeldCoatsModel", "wear", "(II)I"⟩, prog_14_method_64_code, 4, (some .int), zt_X12_wear, 0, 0, 2)
def zt_X12_isMan : List zE := [(0, .iload_n 1, []), (1, .iconst 0, []), (2, .aload_n 0, []), (3, .getfield 33, [12, 6]), (6, .iconst 1, []), (7, .iaload, []), (8, .iconst 1, []), (9, .isub, []), (10, .invokestatic 171, [1, 45]), (13, .ireturn, [])]
def zm_X12_isMan : zM := (⟨"HeldCoatsModel", "isMan", "(I)Z"⟩, prog_14_method_35_code, 2, (some .boolean), zt_X12_isMan, 0, 0, 1)
def zt_X11_lend : List zE := [(0, .aload_n 0, []), (1, .getfield 19, [11, 1]), (4, .iload_n 1, []), (5, .invokevirtual 170, [1, 60, 3]), (8, .ifCond .eq 14, []), (22, .iconst (-1), []), (23, .ireturn, [])]
def zm_X11_lend : zM := (⟨"HeldCoats", "lend", "(II)I"⟩, prog_1_method_12_code, 3, (some .int), zt_X11_lend, 0, 0, 2)
def zt_X12_lend : List zE := [(0, .aload_n 0, []), (1, .iconst 0, []), (2, .putfield 1, [12, 0]), (5, .aload_n 0, []), (6, .iload_n 1, []), (7, .invokevirtual 280, [1, 62, 12]), (10, .ifCond .eq 11, []), (21, .iconst (-1), []), (22, .ireturn, [])]
def zm_X12_lend : zM := (⟨"HeldCoatsModel", "lend", "(II)I"⟩, prog_14_method_65_code, 4, (some .int), zt_X12_lend, 0, 0, 2)
def zt_X11_keep : List zE := [(0, .aload_n 0, []), (1, .getfield 19, [11, 1]), (4, .iload_n 1, []), (5, .invokevirtual 170, [1, 60, 3]), (8, .ifCond .ne 5, []), (11, .iconst (-1), []), (12, .ireturn, [])]
def zm_X11_keep : zM := (⟨"HeldCoats", "keep", "(I)I"⟩, prog_1_method_13_code, 2, (some .int), zt_X11_keep, 0, 0, 1)
def zt_X12_keep : List zE := [(0, .aload_n 0, []), (1, .iconst 0, []), (2, .putfield 1, [12, 0]), (5, .aload_n 0, []), (6, .iload_n 1, []), (7, .invokevirtual 280, [1, 62, 12]), (10, .ifCond .ne 5, []), (13, .iconst (-1), []), (14, .ireturn, [])]
def zm_X12_keep : zM := (⟨"HeldCoatsModel", "keep", "(I)I"⟩, prog_14_method_66_code, 2, (some .int), zt_X12_keep, 0, 0, 1)
def zt_X11_days : List zE := [(0, .iload_n 1, []), (1, .invokestatic 233, [1, 72]), (4, .ifCond .ne 5, []), (7, .iconst (-1), []), (8, .ireturn, []), (9, .aload_n 0, []), (10, .getfield 44, [11, 4]), (13, .aload_n 0, []), (14, .getfield 37, [11, 3]), (17, .invokevirtual 213, [1, 74, 6]), (20, .aload_n 0, []), (21, .aload_n 0, []), (22, .getfield 37, [11, 3]), (25, .iload_n 1, []), (26, .invokevirtual 236, [1, 76, 9]), (29, .invokevirtual 239, [1, 80, 11]), (32, .ireturn, [])]
def zm_X11_days : zM := (⟨"HeldCoats", "days", "(I)I"⟩, prog_1_method_14_code, 2, (some .int), zt_X11_days, 0, 0, 1)
def zt_X11_isDays : List zE := [(0, .iload_n 0, []), (1, .iconst 1, []), (2, .if_icmp .lt 13, []), (5, .iload_n 0, []), (6, .bipush 60, []), (8, .if_icmp .gt 7, []), (11, .iconst 1, []), (12, .goto 4, []), (15, .iconst 0, []), (16, .ireturn, [])]
def zm_X11_isDays : zM := (⟨"HeldCoats", "isDays", "(I)Z"⟩, prog_1_method_46_code, 1, (some .boolean), zt_X11_isDays, 0, 0, 1)
def zt_X12_days : List zE := [(0, .aload_n 0, []), (1, .iconst 0, []), (2, .putfield 1, [12, 0]), (5, .iload_n 1, []), (6, .iconst 1, []), (7, .bipush 60, []), (9, .invokestatic 171, [1, 45]), (12, .ifCond .ne 5, []), (15, .iconst (-1), []), (16, .ireturn, []), (17, .aload_n 0, []), (18, .getfield 33, [12, 6]), (21, .bipush 62, []), (23, .iaload, []), (24, .sipush 400, []), (27, .if_icmp .ne 5, []), (32, .aload_n 0, []), (33, .invokevirtual 304, [1, 82, 12]), (36, .aload_n 0, []), (37, .iload_n 1, []), (38, .invokevirtual 320, [1, 83, 12]), (41, .ireturn, [])]
def zm_X12_days : zM := (⟨"HeldCoatsModel", "days", "(I)I"⟩, prog_14_method_67_code, 2, (some .int), zt_X12_days, 0, 0, 1)
def zt_X6_mark : List zE := [(0, .aload_n 0, []), (1, .getfield 11, [6, 0]), (4, .aload_n 0, []), (5, .getfield 24, [6, 1]), (8, .aaload, []), (9, .aload_n 1, []), (10, .invokevirtual 27, [1, 75, 9]), (13, .return_, [])]
def zm_X6_mark : zM := (⟨"HeldCoats$Past", "mark", "(LHeldCoats$State;)V"⟩, prog_8_method_3_code, 2, none, zt_X6_mark, 0, 0, 1)
def zt_X9_copyFrom : List zE := [(0, .aload_n 0, []), (1, .aload_n 1, []), (2, .getfield 44, [9, 1]), (5, .putfield 44, [9, 1]), (8, .aload_n 0, []), (9, .aload_n 1, []), (10, .getfield 47, [9, 2]), (13, .putfield 47, [9, 2]), (16, .aload_n 0, []), (17, .aload_n 1, []), (18, .getfield 40, [9, 3]), (21, .putfield 40, [9, 3]), (24, .aload_n 0, []), (25, .aload_n 1, []), (26, .getfield 50, [9, 4]), (29, .putfield 50, [9, 4]), (32, .aload_n 1, []), (33, .getfield 9, [9, 5]), (36, .iconst 0, []), (37, .aload_n 0, []), (38, .getfield 9, [9, 5]), (41, .iconst 0, []), (42, .bipush 8, []), (44, .invokestatic 70, [0]), (47, .aload_n 1, []), (48, .getfield 15, [9, 6]), (51, .iconst 0, []), (52, .aload_n 0, []), (53, .getfield 15, [9, 6]), (56, .iconst 0, []), (57, .bipush 8, []), (59, .invokestatic 70, [0]), (62, .aload_n 1, []), (63, .getfield 18, [9, 7]), (66, .iconst 0, []), (67, .aload_n 0, []), (68, .getfield 18, [9, 7]), (71, .iconst 0, []), (72, .bipush 8, []), (74, .invokestatic 70, [0]), (77, .aload_n 1, []), (78, .getfield 21, [9, 8]), (81, .iconst 0, []), (82, .aload_n 0, []), (83, .getfield 21, [9, 8]), (86, .iconst 0, []), (87, .bipush 8, []), (89, .invokestatic 70, [0]), (92, .aload_n 1, []), (93, .getfield 24, [9, 9]), (96, .iconst 0, []), (97, .aload_n 0, []), (98, .getfield 24, [9, 9]), (101, .iconst 0, []), (102, .bipush 8, []), (104, .invokestatic 70, [0]), (107, .aload_n 1, []), (108, .getfield 27, [9, 10]), (111, .iconst 0, []), (112, .aload_n 0, []), (113, .getfield 27, [9, 10]), (116, .iconst 0, []), (117, .bipush 6, []), (119, .invokestatic 70, [0]), (122, .aload_n 1, []), (123, .getfield 30, [9, 11]), (126, .iconst 0, []), (127, .aload_n 0, []), (128, .getfield 30, [9, 11]), (131, .iconst 0, []), (132, .bipush 6, []), (134, .invokestatic 70, [0]), (137, .return_, [])]
def zm_X9_copyFrom : zM := (⟨"HeldCoats$State", "copyFrom", "(LHeldCoats$State;)V"⟩, prog_11_method_3_code, 2, none, zt_X9_copyFrom, 0, 0, 1)
def zt_X9_passDays : List zE := [(0, .aload_n 0, []), (1, .iload_n 1, []), (2, .invokevirtual 140, [1, 77, 9]), (5, .istore_n 2, []), (6, .iconst 0, []), (7, .istore_n 3, []), (8, .iload_n 3, []), (9, .iload_n 2, []), (10, .if_icmp .ge 14, []), (13, .aload_n 0, []), (14, .invokevirtual 143, [1, 78, 9]), (17, .pop, []), (18, .iinc 3 1, []), (21, .goto (-13), []), (24, .iload_n 2, []), (25, .ireturn, [])]
def zm_X9_passDays : zM := (⟨"HeldCoats$State", "passDays", "(I)I"⟩, prog_11_method_29_code, 4, (some .int), zt_X9_passDays, 0, 0, 1)
def zt_X9_daysLeftOf : List zE := [(0, .iload_n 1, []), (1, .sipush 400, []), (4, .aload_n 0, []), (5, .getfield 44, [9, 1]), (8, .isub, []), (9, .invokestatic 137, [2]), (12, .ireturn, [])]
def zm_X9_daysLeftOf : zM := (⟨"HeldCoats$State", "daysLeftOf", "(I)I"⟩, prog_11_method_28_code, 2, (some .int), zt_X9_daysLeftOf, 0, 0, 1)
def zt_X9_passDay : List zE := [(0, .aload_n 0, []), (1, .invokevirtual 146, [1, 52, 9]), (4, .istore_n 1, []), (5, .iload_n 1, []), (6, .iconst (-1), []), (7, .if_icmp .ne 39, []), (10, .aload_n 0, []), (11, .dup, []), (12, .getfield 47, [9, 2]), (15, .iconst 1, []), (16, .iadd, []), (17, .putfield 47, [9, 2]), (20, .aload_n 0, []), (21, .aload_n 0, []), (22, .getfield 40, [9, 3]), (25, .iconst (-1), []), (26, .if_icmp .ne 10, []), (29, .aload_n 0, []), (30, .getfield 44, [9, 1]), (33, .goto 7, []), (36, .aload_n 0, []), (37, .getfield 40, [9, 3]), (40, .putfield 40, [9, 3]), (43, .goto 13, []), (56, .aload_n 0, []), (57, .invokevirtual 149, [1, 79, 9]), (60, .iconst 0, []), (61, .istore_n 2, []), (62, .iload_n 2, []), (63, .aload_n 0, []), (64, .getfield 36, [9, 0]), (67, .getfield 53, [3, 2]), (70, .if_icmp .ge 22, []), (92, .aload_n 0, []), (93, .dup, []), (94, .getfield 44, [9, 1]), (97, .iconst 1, []), (98, .iadd, []), (99, .putfield 44, [9, 1]), (102, .iload_n 1, []), (103, .ireturn, [])]
def zm_X9_passDay : zM := (⟨"HeldCoats$State", "passDay", "()I"⟩, prog_11_method_30_code, 3, (some .int), zt_X9_passDay, 0, 0, 0)
def zt_X9_freeze : List zE := [(0, .aload_n 0, []), (1, .getfield 33, [9, 12]), (4, .iconst 0, []), (5, .invokestatic 64, [1, 32]), (8, .iconst 0, []), (9, .istore_n 1, []), (10, .iload_n 1, []), (11, .aload_n 0, []), (12, .getfield 36, [9, 0]), (15, .getfield 53, [3, 2]), (18, .if_icmp .ge 40, []), (58, .aload_n 0, []), (59, .getfield 36, [9, 0]), (62, .aload_n 0, []), (63, .getfield 44, [9, 1]), (66, .invokevirtual 102, [1, 48, 3]), (69, .istore_n 1, []), (70, .iconst 0, []), (71, .istore_n 2, []), (72, .iload_n 2, []), (73, .aload_n 0, []), (74, .getfield 36, [9, 0]), (77, .getfield 76, [3, 1]), (80, .if_icmp .ge 39, []), (119, .return_, [])]
def zm_X9_freeze : zM := (⟨"HeldCoats$State", "freeze", "()V"⟩, prog_11_method_31_code, 3, none, zt_X9_freeze, 0, 0, 0)
def zt_X11_undoableIfAny : List zE := [(0, .iload_n 1, []), (1, .ifCond .le 10, []), (4, .aload_n 0, []), (5, .getfield 44, [11, 4]), (8, .invokevirtual 332, [1, 81, 6]), (11, .iload_n 1, []), (12, .ireturn, [])]
def zm_X11_undoableIfAny : zM := (⟨"HeldCoats", "undoableIfAny", "(I)I"⟩, prog_1_method_45_code, 2, (some .int), zt_X11_undoableIfAny, 0, 0, 1)
def zt_X6_hold : List zE := [(0, .aload_n 0, []), (1, .aload_n 0, []), (2, .getfield 24, [6, 1]), (5, .bipush 8, []), (7, .if_icmp .ne 7, []), (14, .aload_n 0, []), (15, .getfield 24, [6, 1]), (18, .iconst 1, []), (19, .iadd, []), (20, .putfield 24, [6, 1]), (23, .aload_n 0, []), (24, .aload_n 0, []), (25, .getfield 20, [6, 2]), (28, .iconst 1, []), (29, .iadd, []), (30, .bipush 8, []), (32, .invokestatic 31, [2]), (35, .putfield 20, [6, 2]), (38, .return_, [])]
def zm_X6_hold : zM := (⟨"HeldCoats$Past", "hold", "()V"⟩, prog_8_method_4_code, 1, none, zt_X6_hold, 0, 0, 0)
def zt_X12_keepsAll : List zE := [(0, .aload_n 0, []), (1, .getfield 231, [12, 23]), (4, .bipush 8, []), (6, .if_icmp .ne 39, []), (45, .iconst 0, []), (46, .istore_n 1, []), (47, .iload_n 1, []), (48, .bipush 56, []), (50, .if_icmp .ge 32, []), (53, .aload_n 0, []), (54, .getfield 50, [12, 21]), (57, .bipush 56, []), (59, .aload_n 0, []), (60, .getfield 231, [12, 23]), (63, .imul, []), (64, .iload_n 1, []), (65, .iadd, []), (66, .aload_n 0, []), (67, .getfield 33, [12, 6]), (70, .bipush 62, []), (72, .iload_n 1, []), (73, .iadd, []), (74, .iaload, []), (75, .iastore, []), (76, .iinc 1 1, []), (79, .goto (-32), []), (82, .aload_n 0, []), (83, .dup, []), (84, .getfield 231, [12, 23]), (87, .iconst 1, []), (88, .iadd, []), (89, .putfield 231, [12, 23]), (92, .return_, [])]
def zm_X12_keepsAll : zM := (⟨"HeldCoatsModel", "keepsAll", "()V"⟩, prog_14_method_68_code, 2, none, zt_X12_keepsAll, 0, 0, 0)
def zt_X12_goesOn : List zE := [(0, .iconst 0, []), (1, .istore_n 2, []), (2, .iload_n 2, []), (3, .iload_n 1, []), (4, .if_icmp .ge 26, []), (7, .aload_n 0, []), (8, .getfield 33, [12, 6]), (11, .bipush 62, []), (13, .iaload, []), (14, .sipush 400, []), (17, .if_icmp .ge 13, []), (20, .aload_n 0, []), (21, .invokevirtual 298, [1, 84, 12]), (24, .iinc 2 1, []), (27, .goto (-25), []), (30, .iload_n 2, []), (31, .ireturn, [])]
def zm_X12_goesOn : zM := (⟨"HeldCoatsModel", "goesOn", "(I)I"⟩, prog_14_method_62_code, 3, (some .int), zt_X12_goesOn, 0, 0, 1)
def zt_X12_day : List zE := [(0, .aload_n 0, []), (1, .invokevirtual 283, [1, 54, 12]), (4, .istore_n 1, []), (5, .iload_n 1, []), (6, .ifCond .lt 19, []), (25, .aload_n 0, []), (26, .getfield 33, [12, 6]), (29, .bipush 63, []), (31, .dup2, []), (32, .iaload, []), (33, .iconst 1, []), (34, .iadd, []), (35, .iastore, []), (36, .aload_n 0, []), (37, .getfield 33, [12, 6]), (40, .bipush 64, []), (42, .iaload, []), (43, .ifCond .ne 19, []), (46, .aload_n 0, []), (47, .getfield 33, [12, 6]), (50, .bipush 64, []), (52, .aload_n 0, []), (53, .getfield 33, [12, 6]), (56, .bipush 62, []), (58, .iaload, []), (59, .iconst 1, []), (60, .iadd, []), (61, .iastore, []), (62, .iconst 0, []), (63, .istore_n 2, []), (64, .iload_n 2, []), (65, .aload_n 0, []), (66, .getfield 33, [12, 6]), (69, .iconst 1, []), (70, .iaload, []), (71, .if_icmp .ge 32, []), (103, .iconst 0, []), (104, .istore_n 2, []), (105, .iload_n 2, []), (106, .aload_n 0, []), (107, .getfield 33, [12, 6]), (110, .iconst 2, []), (111, .iaload, []), (112, .if_icmp .ge 33, []), (145, .aload_n 0, []), (146, .getfield 33, [12, 6]), (149, .bipush 62, []), (151, .dup2, []), (152, .iaload, []), (153, .iconst 1, []), (154, .iadd, []), (155, .iastore, []), (156, .return_, [])]
def zm_X12_day : zM := (⟨"HeldCoatsModel", "day", "()V"⟩, prog_14_method_61_code, 3, none, zt_X12_day, 0, 0, 0)
def zt_X11_undo : List zE := [(0, .aload_n 0, []), (1, .getfield 44, [11, 4]), (4, .aload_n 0, []), (5, .getfield 37, [11, 3]), (8, .invokevirtual 242, [1, 86, 6]), (11, .ifCond .eq 13, []), (24, .iconst (-1), []), (25, .ireturn, [])]
def zm_X11_undo : zM := (⟨"HeldCoats", "undo", "()I"⟩, prog_1_method_15_code, 1, (some .int), zt_X11_undo, 0, 0, 0)
def zt_X6_takeBack : List zE := [(0, .aload_n 0, []), (1, .getfield 20, [6, 2]), (4, .ifCond .ne 5, []), (7, .iconst 0, []), (8, .ireturn, [])]
def zm_X6_takeBack : zM := (⟨"HeldCoats$Past", "takeBack", "(LHeldCoats$State;)Z"⟩, prog_8_method_5_code, 2, (some .boolean), zt_X6_takeBack, 0, 0, 1)
def zt_X12_undo : List zE := [(0, .aload_n 0, []), (1, .iconst 0, []), (2, .putfield 1, [12, 0]), (5, .aload_n 0, []), (6, .getfield 231, [12, 23]), (9, .ifCond .ne 5, []), (12, .iconst (-1), []), (13, .ireturn, [])]
def zm_X12_undo : zM := (⟨"HeldCoatsModel", "undo", "()I"⟩, prog_14_method_69_code, 2, (some .int), zt_X12_undo, 0, 0, 0)
def zt_X11_best : List zE := [(0, .aload_n 0, []), (1, .getfield 19, [11, 1]), (4, .iload_n 1, []), (5, .invokevirtual 140, [1, 64, 3]), (8, .ifCond .eq 14, []), (22, .iconst (-1), []), (23, .ireturn, [])]
def zm_X11_best : zM := (⟨"HeldCoats", "best", "(II)I"⟩, prog_1_method_16_code, 3, (some .int), zt_X11_best, 0, 0, 2)
def zt_X12_best : List zE := [(0, .aload_n 0, []), (1, .iconst 0, []), (2, .putfield 1, [12, 0]), (5, .aload_n 0, []), (6, .iload_n 1, []), (7, .invokevirtual 270, [1, 66, 12]), (10, .ifCond .eq 14, []), (24, .iconst (-1), []), (25, .ireturn, [])]
def zm_X12_best : zM := (⟨"HeldCoatsModel", "best", "(II)I"⟩, prog_14_method_73_code, 8, (some .int), zt_X12_best, 0, 0, 2)
def zt_X11_laid : List zE := [(0, .aload_n 0, []), (1, .getfield 74, [11, 8]), (4, .getfield 250, [1, 6]), (7, .ireturn, [])]
def zm_X11_laid : zM := (⟨"HeldCoats", "laid", "()I"⟩, prog_1_method_17_code, 1, (some .int), zt_X11_laid, 0, 0, 0)
def zt_X12_laid : List zE := [(0, .aload_n 0, []), (1, .iconst 0, []), (2, .putfield 1, [12, 0]), (5, .aload_n 0, []), (6, .getfield 332, [12, 25]), (9, .ifCond .eq 10, []), (19, .iconst (-1), []), (20, .ireturn, [])]
def zm_X12_laid : zM := (⟨"HeldCoatsModel", "laid", "()I"⟩, prog_14_method_74_code, 1, (some .int), zt_X12_laid, 0, 0, 0)
def zt_X11_share : List zE := [(0, .aload_n 0, []), (1, .getfield 19, [11, 1]), (4, .iload_n 1, []), (5, .invokevirtual 140, [1, 64, 3]), (8, .ifCond .eq 30, []), (38, .iconst (-1), []), (39, .ireturn, [])]
def zm_X11_share : zM := (⟨"HeldCoats", "share", "(IIII)I"⟩, prog_1_method_18_code, 5, (some .int), zt_X11_share, 0, 0, 4)
def zt_X12_share : List zE := [(0, .aload_n 0, []), (1, .iconst 0, []), (2, .putfield 1, [12, 0]), (5, .aload_n 0, []), (6, .iload_n 1, []), (7, .invokevirtual 270, [1, 66, 12]), (10, .ifCond .eq 49, []), (59, .iconst (-1), []), (60, .ireturn, [])]
def zm_X12_share : zM := (⟨"HeldCoatsModel", "share", "(IIII)I"⟩, prog_14_method_76_code, 13, (some .int), zt_X12_share, 0, 0, 4)
def zt_X11_turns : List zE := [(0, .aload_n 0, []), (1, .getfield 74, [11, 8]), (4, .getfield 257, [1, 7]), (7, .ireturn, [])]
def zm_X11_turns : zM := (⟨"HeldCoats", "turns", "()I"⟩, prog_1_method_19_code, 1, (some .int), zt_X11_turns, 0, 0, 0)
def zt_X12_turns : List zE := [(0, .aload_n 0, []), (1, .iconst 0, []), (2, .putfield 1, [12, 0]), (5, .aload_n 0, []), (6, .getfield 339, [12, 27]), (9, .ifCond .eq 10, []), (19, .iconst (-1), []), (20, .ireturn, [])]
def zm_X12_turns : zM := (⟨"HeldCoatsModel", "turns", "()I"⟩, prog_14_method_77_code, 1, (some .int), zt_X12_turns, 0, 0, 0)
def zt_X11_ahead : List zE := [(0, .aload_n 0, []), (1, .getfield 19, [11, 1]), (4, .iload_n 1, []), (5, .invokevirtual 170, [1, 60, 3]), (8, .ifCond .eq 14, []), (22, .iconst (-1), []), (23, .ireturn, [])]
def zm_X11_ahead : zM := (⟨"HeldCoats", "ahead", "(I)I"⟩, prog_1_method_20_code, 2, (some .int), zt_X11_ahead, 0, 0, 1)
def zt_X12_ahead : List zE := [(0, .aload_n 0, []), (1, .iconst 0, []), (2, .putfield 1, [12, 0]), (5, .aload_n 0, []), (6, .iload_n 1, []), (7, .invokevirtual 280, [1, 62, 12]), (10, .ifCond .eq 11, []), (21, .iconst (-1), []), (22, .ireturn, [])]
def zm_X12_ahead : zM := (⟨"HeldCoatsModel", "ahead", "(I)I"⟩, prog_14_method_79_code, 2, (some .int), zt_X12_ahead, 0, 0, 1)
def zt_X11_queue : List zE := [(0, .iload_n 1, []), (1, .ifCond .lt 26, []), (4, .iload_n 1, []), (5, .aload_n 0, []), (6, .getfield 37, [11, 3]), (9, .getfield 207, [9, 4]), (12, .if_icmp .ge 15, []), (27, .iconst (-1), []), (28, .ireturn, [])]
def zm_X11_queue : zM := (⟨"HeldCoats", "queue", "(I)I"⟩, prog_1_method_21_code, 2, (some .int), zt_X11_queue, 0, 0, 1)
def zt_X12_queue : List zE := [(0, .aload_n 0, []), (1, .iconst 0, []), (2, .putfield 1, [12, 0]), (5, .iload_n 1, []), (6, .iconst 0, []), (7, .aload_n 0, []), (8, .getfield 33, [12, 6]), (11, .bipush 117, []), (13, .iaload, []), (14, .iconst 1, []), (15, .isub, []), (16, .invokestatic 171, [1, 45]), (19, .ifCond .eq 15, []), (34, .iconst (-1), []), (35, .ireturn, [])]
def zm_X12_queue : zM := (⟨"HeldCoatsModel", "queue", "(I)I"⟩, prog_14_method_80_code, 2, (some .int), zt_X12_queue, 0, 0, 1)
def zt_X11_bribes : List zE := [(0, .iload_n 1, []), (1, .aload_n 0, []), (2, .getfield 37, [11, 3]), (5, .invokevirtual 266, [1, 101, 9]), (8, .iconst (-1), []), (9, .ixor, []), (10, .iand, []), (11, .ifCond .eq 5, []), (14, .iconst (-1), []), (15, .ireturn, []), (16, .aload_n 0, []), (17, .getfield 74, [11, 8]), (20, .iload_n 1, []), (21, .invokevirtual 269, [1, 103, 1]), (24, .ireturn, [])]
def zm_X11_bribes : zM := (⟨"HeldCoats", "bribes", "(I)I"⟩, prog_1_method_22_code, 2, (some .int), zt_X11_bribes, 0, 0, 1)
def zt_X9_inCloakroom : List zE := [(0, .aload_n 0, []), (1, .bipush 20, []), (3, .invokevirtual 90, [1, 57, 9]), (6, .ireturn, [])]
def zm_X9_inCloakroom : zM := (⟨"HeldCoats$State", "inCloakroom", "()I"⟩, prog_11_method_13_code, 1, (some .int), zt_X9_inCloakroom, 0, 0, 0)
def zt_X12_bribes : List zE := [(0, .aload_n 0, []), (1, .iconst 0, []), (2, .putfield 1, [12, 0]), (5, .iload_n 1, []), (6, .ifCond .lt 28, []), (9, .iload_n 1, []), (10, .iconst 1, []), (11, .aload_n 0, []), (12, .getfield 33, [12, 6]), (15, .iconst 2, []), (16, .iaload, []), (17, .ishl, []), (18, .if_icmp .ge 16, []), (21, .iload_n 1, []), (22, .aload_n 0, []), (23, .bipush 20, []), (25, .invokevirtual 253, [1, 58, 12]), (28, .iconst (-1), []), (29, .ixor, []), (30, .iand, []), (31, .ifCond .eq 5, []), (34, .iconst (-1), []), (35, .ireturn, []), (36, .iconst 0, []), (37, .istore_n 2, []), (38, .iload_n 2, []), (39, .aload_n 0, []), (40, .getfield 33, [12, 6]), (43, .bipush 117, []), (45, .iaload, []), (46, .if_icmp .ge 25, []), (71, .iload_n 1, []), (72, .invokestatic 323, [1, 104]), (75, .iload_n 2, []), (76, .isub, []), (77, .ireturn, [])]
def zm_X12_bribes : zM := (⟨"HeldCoatsModel", "bribes", "(I)I"⟩, prog_14_method_81_code, 3, (some .int), zt_X12_bribes, 0, 0, 1)
def zt_X1_fewestBribes : List zE := [(0, .iconst 0, []), (1, .istore_n 2, []), (2, .iconst 0, []), (3, .istore_n 3, []), (4, .iconst 0, []), (5, .istore 4, []), (7, .iload 4, []), (9, .aload_n 0, []), (10, .getfield 41, [1, 1]), (13, .getfield 111, [9, 4]), (16, .if_icmp .ge 38, []), (54, .iload_n 3, []), (55, .ireturn, [])]
def zm_X1_fewestBribes : zM := (⟨"HeldCoats$Counsel", "fewestBribes", "(I)I"⟩, prog_3_method_7_code, 5, (some .int), zt_X1_fewestBribes, 0, 0, 1)
def zt_X12_bits : List zE := [(0, .iconst 0, []), (1, .istore_n 1, []), (2, .iload_n 0, []), (3, .istore_n 2, []), (4, .iload_n 2, []), (5, .ifCond .eq 15, []), (20, .iload_n 1, []), (21, .ireturn, [])]
def zm_X12_bits : zM := (⟨"HeldCoatsModel", "bits", "(I)I"⟩, prog_14_method_10_code, 3, (some .int), zt_X12_bits, 0, 0, 1)
def zt_X11_frost : List zE := [(0, .aload_n 0, []), (1, .getfield 19, [11, 1]), (4, .iload_n 1, []), (5, .invokevirtual 140, [1, 64, 3]), (8, .ifCond .eq 31, []), (39, .iconst (-1), []), (40, .ireturn, [])]
def zm_X11_frost : zM := (⟨"HeldCoats", "frost", "(II)I"⟩, prog_1_method_23_code, 3, (some .int), zt_X11_frost, 0, 0, 2)
def zt_X12_frost : List zE := [(0, .aload_n 0, []), (1, .iconst 0, []), (2, .putfield 1, [12, 0]), (5, .aload_n 0, []), (6, .iload_n 1, []), (7, .iload_n 2, []), (8, .invokevirtual 351, [1, 107, 12]), (11, .ifCond .eq 12, []), (23, .iconst (-1), []), (24, .ireturn, [])]
def zm_X12_frost : zM := (⟨"HeldCoatsModel", "frost", "(II)I"⟩, prog_14_method_84_code, 3, (some .int), zt_X12_frost, 0, 0, 2)
def zt_X12_areTwo : List zE := [(0, .aload_n 0, []), (1, .iload_n 1, []), (2, .invokevirtual 270, [1, 66, 12]), (5, .ifCond .eq 20, []), (25, .iconst 0, []), (26, .ireturn, [])]
def zm_X12_areTwo : zM := (⟨"HeldCoatsModel", "areTwo", "(II)Z"⟩, prog_14_method_83_code, 3, (some .boolean), zt_X12_areTwo, 0, 0, 2)
def zt_X11_frostAt : List zE := [(0, .aload_n 0, []), (1, .getfield 19, [11, 1]), (4, .iload_n 1, []), (5, .invokevirtual 140, [1, 64, 3]), (8, .ifCond .eq 31, []), (39, .iconst (-1), []), (40, .ireturn, [])]
def zm_X11_frostAt : zM := (⟨"HeldCoats", "frostAt", "(II)I"⟩, prog_1_method_24_code, 3, (some .int), zt_X11_frostAt, 0, 0, 2)
def zt_X12_frostAt : List zE := [(0, .aload_n 0, []), (1, .iconst 0, []), (2, .putfield 1, [12, 0]), (5, .aload_n 0, []), (6, .iload_n 1, []), (7, .iload_n 2, []), (8, .invokevirtual 351, [1, 107, 12]), (11, .ifCond .eq 19, []), (30, .iconst (-1), []), (31, .ireturn, [])]
def zm_X12_frostAt : zM := (⟨"HeldCoatsModel", "frostAt", "(II)I"⟩, prog_14_method_85_code, 3, (some .int), zt_X12_frostAt, 0, 0, 2)
def zt_X11_word : List zE := [(0, .iload_n 1, []), (1, .invokestatic 233, [1, 72]), (4, .ifCond .eq 14, []), (7, .aload_n 0, []), (8, .getfield 74, [11, 8]), (11, .iload_n 1, []), (12, .invokevirtual 282, [1, 112, 1]), (15, .goto 4, []), (18, .iconst (-1), []), (19, .ireturn, [])]
def zm_X11_word : zM := (⟨"HeldCoats", "word", "(I)I"⟩, prog_1_method_25_code, 2, (some .int), zt_X11_word, 0, 0, 1)
def zt_X12_word : List zE := [(0, .aload_n 0, []), (1, .iconst 0, []), (2, .putfield 1, [12, 0]), (5, .iload_n 1, []), (6, .iconst 1, []), (7, .bipush 60, []), (9, .invokestatic 171, [1, 45]), (12, .ifCond .ne 5, []), (15, .iconst (-1), []), (16, .ireturn, []), (17, .aload_n 0, []), (18, .invokevirtual 357, [1, 114, 12]), (21, .iconst 0, []), (22, .istore_n 2, []), (23, .iconst 0, []), (24, .istore_n 3, []), (25, .iload_n 3, []), (26, .iload_n 1, []), (27, .if_icmp .ge 46, []), (30, .aload_n 0, []), (31, .getfield 33, [12, 6]), (34, .bipush 62, []), (36, .iaload, []), (37, .sipush 400, []), (40, .if_icmp .ge 33, []), (43, .iload_n 2, []), (44, .aload_n 0, []), (45, .invokevirtual 283, [1, 54, 12]), (48, .aload_n 0, []), (49, .iconst 1, []), (50, .invokevirtual 260, [1, 55, 12]), (53, .if_icmp .eq 7, []), (60, .iconst 0, []), (61, .iadd, []), (62, .istore_n 2, []), (63, .aload_n 0, []), (64, .invokevirtual 298, [1, 84, 12]), (67, .iinc 3 1, []), (70, .goto (-45), []), (73, .aload_n 0, []), (74, .invokevirtual 360, [1, 115, 12]), (77, .iload_n 2, []), (78, .ireturn, [])]
def zm_X12_word : zM := (⟨"HeldCoatsModel", "word", "(I)I"⟩, prog_14_method_86_code, 4, (some .int), zt_X12_word, 0, 0, 1)
def zt_X1_daysRuledOtherwise : List zE := [(0, .aload_n 0, []), (1, .invokevirtual 126, [1, 113, 1]), (4, .astore_n 2, []), (5, .aload_n 2, []), (6, .iload_n 1, []), (7, .invokevirtual 130, [1, 77, 9]), (10, .istore_n 3, []), (11, .iconst 0, []), (12, .istore 4, []), (14, .iconst 0, []), (15, .istore 5, []), (17, .iload 5, []), (19, .iload_n 3, []), (20, .if_icmp .ge 27, []), (23, .aload_n 2, []), (24, .invokevirtual 133, [1, 53, 9]), (27, .istore 6, []), (29, .aload_n 2, []), (30, .invokevirtual 136, [1, 78, 9]), (33, .iload 6, []), (35, .if_icmp .eq 6, []), (41, .iinc 5 1, []), (44, .goto (-27), []), (47, .iload 4, []), (49, .ireturn, [])]
def zm_X1_daysRuledOtherwise : zM := (⟨"HeldCoats$Counsel", "daysRuledOtherwise", "(I)I"⟩, prog_3_method_9_code, 7, (some .int), zt_X1_daysRuledOtherwise, 0, 0, 1)
def zt_X1_trialOfNow : List zE := [(0, .aload_n 0, []), (1, .getfield 50, [1, 2]), (4, .aload_n 0, []), (5, .getfield 41, [1, 1]), (8, .invokevirtual 53, [1, 75, 9]), (11, .aload_n 0, []), (12, .getfield 50, [1, 2]), (15, .areturn, [])]
def zm_X1_trialOfNow : zM := (⟨"HeldCoats$Counsel", "trialOfNow", "()LHeldCoats$State;"⟩, prog_3_method_2_code, 1, (some (.object "HeldCoats$State")), zt_X1_trialOfNow, 0, 0, 0)
def zt_X12_tries : List zE := [(0, .iconst 0, []), (1, .istore_n 1, []), (2, .iload_n 1, []), (3, .bipush 56, []), (5, .if_icmp .ge 24, []), (8, .aload_n 0, []), (9, .getfield 53, [12, 22]), (12, .iload_n 1, []), (13, .aload_n 0, []), (14, .getfield 33, [12, 6]), (17, .bipush 62, []), (19, .iload_n 1, []), (20, .iadd, []), (21, .iaload, []), (22, .iastore, []), (23, .iinc 1 1, []), (26, .goto (-24), []), (29, .return_, [])]
def zm_X12_tries : zM := (⟨"HeldCoatsModel", "tries", "()V"⟩, prog_14_method_70_code, 2, none, zt_X12_tries, 0, 0, 0)
def zt_X12_back : List zE := [(0, .iconst 0, []), (1, .istore_n 1, []), (2, .iload_n 1, []), (3, .bipush 56, []), (5, .if_icmp .ge 24, []), (8, .aload_n 0, []), (9, .getfield 33, [12, 6]), (12, .bipush 62, []), (14, .iload_n 1, []), (15, .iadd, []), (16, .aload_n 0, []), (17, .getfield 53, [12, 22]), (20, .iload_n 1, []), (21, .iaload, []), (22, .iastore, []), (23, .iinc 1 1, []), (26, .goto (-24), []), (29, .return_, [])]
def zm_X12_back : zM := (⟨"HeldCoatsModel", "back", "()V"⟩, prog_14_method_71_code, 2, none, zt_X12_back, 0, 0, 0)
def zt_X11_bare : List zE := [(0, .aload_n 0, []), (1, .getfield 74, [11, 8]), (4, .iconst (-1), []), (5, .invokevirtual 285, [1, 117, 1]), (8, .ireturn, [])]
def zm_X11_bare : zM := (⟨"HeldCoats", "bare", "()I"⟩, prog_1_method_26_code, 1, (some .int), zt_X11_bare, 0, 0, 0)
def zt_X1_firstDayRuledBy : List zE := [(0, .aload_n 0, []), (1, .invokevirtual 126, [1, 113, 1]), (4, .astore_n 2, []), (5, .aload_n 0, []), (6, .getfield 41, [1, 1]), (9, .getfield 68, [9, 1]), (12, .istore_n 3, []), (13, .iload_n 3, []), (14, .sipush 400, []), (17, .if_icmp .ge 34, []), (20, .iload_n 1, []), (21, .iconst (-1), []), (22, .if_icmp .eq 13, []), (35, .aload_n 2, []), (36, .invokevirtual 136, [1, 78, 9]), (39, .iload_n 1, []), (40, .if_icmp .ne 5, []), (43, .iload_n 3, []), (44, .ireturn, [])]
def zm_X1_firstDayRuledBy : zM := (⟨"HeldCoats$Counsel", "firstDayRuledBy", "(I)I"⟩, prog_3_method_10_code, 4, (some .int), zt_X1_firstDayRuledBy, 0, 0, 1)
def zt_X12_bare : List zE := [(0, .aload_n 0, []), (1, .iconst 0, []), (2, .putfield 1, [12, 0]), (5, .aload_n 0, []), (6, .iconst (-1), []), (7, .invokevirtual 363, [1, 119, 12]), (10, .ireturn, [])]
def zm_X12_bare : zM := (⟨"HeldCoatsModel", "bare", "()I"⟩, prog_14_method_88_code, 1, (some .int), zt_X12_bare, 0, 0, 0)
def zt_X12_firstOf : List zE := [(0, .aload_n 0, []), (1, .invokevirtual 357, [1, 114, 12]), (4, .iconst (-1), []), (5, .istore_n 2, []), (6, .iload_n 2, []), (7, .ifCond .ge 39, []), (10, .aload_n 0, []), (11, .getfield 33, [12, 6]), (14, .bipush 62, []), (16, .iaload, []), (17, .sipush 400, []), (20, .if_icmp .ge 26, []), (23, .aload_n 0, []), (24, .invokevirtual 283, [1, 54, 12]), (27, .iload_n 1, []), (28, .if_icmp .ne 11, []), (31, .aload_n 0, []), (32, .getfield 33, [12, 6]), (35, .bipush 62, []), (37, .iaload, []), (38, .istore_n 2, []), (39, .aload_n 0, []), (40, .invokevirtual 298, [1, 84, 12]), (43, .goto (-37), []), (46, .aload_n 0, []), (47, .invokevirtual 360, [1, 115, 12]), (50, .iload_n 2, []), (51, .ireturn, [])]
def zm_X12_firstOf : zM := (⟨"HeldCoatsModel", "firstOf", "(I)I"⟩, prog_14_method_87_code, 3, (some .int), zt_X12_firstOf, 0, 0, 1)
def zt_X11_rules : List zE := [(0, .aload_n 0, []), (1, .getfield 19, [11, 1]), (4, .iload_n 1, []), (5, .invokevirtual 140, [1, 64, 3]), (8, .ifCond .eq 14, []), (22, .iconst (-1), []), (23, .ireturn, [])]
def zm_X11_rules : zM := (⟨"HeldCoats", "rules", "(I)I"⟩, prog_1_method_27_code, 2, (some .int), zt_X11_rules, 0, 0, 1)
def zt_X12_rules : List zE := [(0, .aload_n 0, []), (1, .iconst 0, []), (2, .putfield 1, [12, 0]), (5, .aload_n 0, []), (6, .iload_n 1, []), (7, .invokevirtual 270, [1, 66, 12]), (10, .ifCond .eq 11, []), (21, .iconst (-1), []), (22, .ireturn, [])]
def zm_X12_rules : zM := (⟨"HeldCoatsModel", "rules", "(I)I"⟩, prog_14_method_89_code, 2, (some .int), zt_X12_rules, 0, 0, 1)
def zt_X11_harm : List zE := [(0, .aload_n 0, []), (1, .getfield 19, [11, 1]), (4, .iload_n 1, []), (5, .invokevirtual 140, [1, 64, 3]), (8, .ifCond .eq 22, []), (30, .iconst (-1), []), (31, .ireturn, [])]
def zm_X11_harm : zM := (⟨"HeldCoats", "harm", "(II)I"⟩, prog_1_method_28_code, 3, (some .int), zt_X11_harm, 0, 0, 2)
def zt_X12_harm : List zE := [(0, .aload_n 0, []), (1, .iconst 0, []), (2, .putfield 1, [12, 0]), (5, .aload_n 0, []), (6, .iload_n 1, []), (7, .invokevirtual 270, [1, 66, 12]), (10, .ifCond .eq 13, []), (23, .iconst (-1), []), (24, .ireturn, [])]
def zm_X12_harm : zM := (⟨"HeldCoatsModel", "harm", "(II)I"⟩, prog_14_method_90_code, 5, (some .int), zt_X12_harm, 0, 0, 2)
def zt_X11_hooks : List zE := [(0, .aload_n 0, []), (1, .getfield 74, [11, 8]), (4, .aload_n 0, []), (5, .getfield 10, [11, 0]), (8, .invokevirtual 291, [1, 125, 1]), (11, .istore_n 1, []), (12, .aload_n 0, []), (13, .getfield 10, [11, 0]), (16, .iconst 0, []), (17, .putfield 85, [10, 2]), (20, .iload_n 1, []), (21, .ireturn, [])]
def zm_X11_hooks : zM := (⟨"HeldCoats", "hooks", "()I"⟩, prog_1_method_29_code, 2, (some .int), zt_X11_hooks, 0, 0, 0)
def zt_X1_waysToHaveLain : List zE := [(0, .aload_n 0, []), (1, .getfield 37, [1, 0]), (4, .getfield 91, [3, 0]), (7, .ifCond .eq 25, []), (32, .iconst (-1), []), (33, .ireturn, [])]
def zm_X1_waysToHaveLain : zM := (⟨"HeldCoats$Counsel", "waysToHaveLain", "(LHeldCoats$Tape;)I"⟩, prog_3_method_12_code, 5, (some .int), zt_X1_waysToHaveLain, 0, 0, 1)
def zt_X12_hooks : List zE := [(0, .aload_n 0, []), (1, .iconst 0, []), (2, .putfield 1, [12, 0]), (5, .aload_n 0, []), (6, .sipush 940, []), (9, .invokevirtual 219, [1, 36, 12]), (12, .aload_n 0, []), (13, .getfield 18, [12, 3]), (16, .ifCond .eq 16, []), (32, .iconst (-1), []), (33, .ireturn, [])]
def zm_X12_hooks : zM := (⟨"HeldCoatsModel", "hooks", "()I"⟩, prog_14_method_91_code, 7, (some .int), zt_X12_hooks, 0, 0, 0)
def zt_X11_surely : List zE := [(0, .aload_n 0, []), (1, .getfield 74, [11, 8]), (4, .getfield 295, [1, 8]), (7, .ireturn, [])]
def zm_X11_surely : zM := (⟨"HeldCoats", "surely", "()I"⟩, prog_1_method_30_code, 1, (some .int), zt_X11_surely, 0, 0, 0)
def zt_X12_surely : List zE := [(0, .aload_n 0, []), (1, .iconst 0, []), (2, .putfield 1, [12, 0]), (5, .aload_n 0, []), (6, .getfield 369, [12, 31]), (9, .ifCond .eq 10, []), (19, .iconst (-1), []), (20, .ireturn, [])]
def zm_X12_surely : zM := (⟨"HeldCoatsModel", "surely", "()I"⟩, prog_14_method_92_code, 1, (some .int), zt_X12_surely, 0, 0, 0)
def zt_X11_never : List zE := [(0, .aload_n 0, []), (1, .getfield 74, [11, 8]), (4, .getfield 298, [1, 9]), (7, .ireturn, [])]
def zm_X11_never : zM := (⟨"HeldCoats", "never", "()I"⟩, prog_1_method_31_code, 1, (some .int), zt_X11_never, 0, 0, 0)
def zt_X12_never : List zE := [(0, .aload_n 0, []), (1, .iconst 0, []), (2, .putfield 1, [12, 0]), (5, .aload_n 0, []), (6, .getfield 369, [12, 31]), (9, .ifCond .eq 10, []), (19, .iconst (-1), []), (20, .ireturn, [])]
def zm_X12_never : zM := (⟨"HeldCoatsModel", "never", "()I"⟩, prog_14_method_93_code, 1, (some .int), zt_X12_never, 0, 0, 0)
def zt_X11_rounds : List zE := [(0, .aload_n 0, []), (1, .getfield 74, [11, 8]), (4, .invokevirtual 301, [1, 132, 1]), (7, .ireturn, [])]
def zm_X11_rounds : zM := (⟨"HeldCoats", "rounds", "()I"⟩, prog_1_method_32_code, 1, (some .int), zt_X11_rounds, 0, 0, 0)
def zt_X1_roundsTillRest : List zE := [(0, .iconst 5, []), (1, .istore_n 1, []), (2, .iconst 0, []), (3, .istore_n 2, []), (4, .iconst 0, []), (5, .istore_n 3, []), (6, .iload_n 2, []), (7, .bipush 60, []), (9, .if_icmp .ge 72, []), (12, .iload_n 3, []), (13, .ifCond .ne 68, []), (16, .iload_n 1, []), (17, .istore 4, []), (19, .aload_n 0, []), (20, .iload_n 1, []), (21, .invokevirtual 176, [1, 133, 1]), (24, .istore 5, []), (26, .iload 5, []), (28, .aload_n 0, []), (29, .getfield 41, [1, 1]), (32, .getfield 111, [9, 4]), (35, .if_icmp .le 9, []), (44, .iload 5, []), (46, .aload_n 0, []), (47, .getfield 41, [1, 1]), (50, .getfield 111, [9, 4]), (53, .if_icmp .ge 10, []), (63, .iload_n 1, []), (64, .iload 4, []), (66, .if_icmp .ne 7, []), (69, .iconst 1, []), (70, .goto 4, []), (74, .istore_n 3, []), (75, .iinc 2 1, []), (78, .goto (-72), []), (81, .aload_n 0, []), (82, .iload_n 1, []), (83, .putfield 34, [1, 10]), (86, .iload_n 2, []), (87, .ireturn, [])]
def zm_X1_roundsTillRest : zM := (⟨"HeldCoats$Counsel", "roundsTillRest", "()I"⟩, prog_3_method_15_code, 6, (some .int), zt_X1_roundsTillRest, 0, 0, 0)
def zt_X1_menWanting : List zE := [(0, .iconst 0, []), (1, .istore_n 2, []), (2, .iconst 0, []), (3, .istore_n 3, []), (4, .iload_n 3, []), (5, .aload_n 0, []), (6, .getfield 37, [1, 0]), (9, .getfield 148, [3, 1]), (12, .if_icmp .ge 27, []), (39, .iload_n 2, []), (40, .ireturn, [])]
def zm_X1_menWanting : zM := (⟨"HeldCoats$Counsel", "menWanting", "(I)I"⟩, prog_3_method_16_code, 4, (some .int), zt_X1_menWanting, 0, 0, 1)
def zt_X12_rounds : List zE := [(0, .aload_n 0, []), (1, .iconst 0, []), (2, .putfield 1, [12, 0]), (5, .aload_n 0, []), (6, .iconst 5, []), (7, .putfield 378, [12, 33]), (10, .aload_n 0, []), (11, .iconst 1, []), (12, .putfield 381, [12, 34]), (15, .iconst 0, []), (16, .istore_n 1, []), (17, .iconst 1, []), (18, .istore_n 2, []), (19, .iload_n 2, []), (20, .ifCond .eq 126, []), (23, .iload_n 1, []), (24, .bipush 60, []), (26, .if_icmp .ge 120, []), (29, .iinc 1 1, []), (32, .aload_n 0, []), (33, .getfield 378, [12, 33]), (36, .istore_n 3, []), (37, .iconst 0, []), (38, .istore 4, []), (40, .iconst 0, []), (41, .istore 5, []), (43, .iload 5, []), (45, .aload_n 0, []), (46, .getfield 33, [12, 6]), (49, .iconst 1, []), (50, .iaload, []), (51, .if_icmp .ge 36, []), (87, .iload 4, []), (89, .aload_n 0, []), (90, .getfield 33, [12, 6]), (93, .bipush 117, []), (95, .iaload, []), (96, .if_icmp .le 10, []), (106, .iload 4, []), (108, .aload_n 0, []), (109, .getfield 33, [12, 6]), (112, .bipush 117, []), (114, .iaload, []), (115, .if_icmp .ge 14, []), (129, .aload_n 0, []), (130, .getfield 378, [12, 33]), (133, .iload_n 3, []), (134, .if_icmp .eq 7, []), (141, .iconst 0, []), (142, .istore_n 2, []), (143, .goto (-124), []), (146, .iload_n 1, []), (147, .ireturn, [])]
def zm_X12_rounds : zM := (⟨"HeldCoatsModel", "rounds", "()I"⟩, prog_14_method_94_code, 6, (some .int), zt_X12_rounds, 0, 0, 0)
def zt_X11_price : List zE := [(0, .aload_n 0, []), (1, .getfield 74, [11, 8]), (4, .getfield 304, [1, 10]), (7, .ireturn, [])]
def zm_X11_price : zM := (⟨"HeldCoats", "price", "()I"⟩, prog_1_method_33_code, 1, (some .int), zt_X11_price, 0, 0, 0)
def zt_X12_price : List zE := [(0, .aload_n 0, []), (1, .iconst 0, []), (2, .putfield 1, [12, 0]), (5, .aload_n 0, []), (6, .getfield 381, [12, 34]), (9, .ifCond .eq 10, []), (19, .iconst (-1), []), (20, .ireturn, [])]
def zm_X12_price : zM := (⟨"HeldCoatsModel", "price", "()I"⟩, prog_14_method_95_code, 1, (some .int), zt_X12_price, 0, 0, 0)
def zt_X11_drawn : List zE := [(0, .iload_n 1, []), (1, .invokestatic 233, [1, 72]), (4, .ifCond .eq 13, []), (7, .aload_n 0, []), (8, .getfield 19, [11, 1]), (11, .getfield 307, [3, 2]), (14, .ifCond .ne 5, []), (17, .iconst (-1), []), (18, .ireturn, [])]
def zm_X11_drawn : zM := (⟨"HeldCoats", "drawn", "(II)I"⟩, prog_1_method_34_code, 3, (some .int), zt_X11_drawn, 0, 0, 2)
def zt_X12_drawn : List zE := [(0, .aload_n 0, []), (1, .iconst 0, []), (2, .putfield 1, [12, 0]), (5, .iload_n 1, []), (6, .iconst 1, []), (7, .bipush 60, []), (9, .invokestatic 171, [1, 45]), (12, .ifCond .eq 12, []), (15, .aload_n 0, []), (16, .getfield 33, [12, 6]), (19, .iconst 2, []), (20, .iaload, []), (21, .ifCond .ne 5, []), (24, .iconst (-1), []), (25, .ireturn, [])]
def zm_X12_drawn : zM := (⟨"HeldCoatsModel", "drawn", "(II)I"⟩, prog_14_method_99_code, 3, (some .int), zt_X12_drawn, 0, 0, 2)
def zt_X11_odds : List zE := [(0, .aload_n 0, []), (1, .getfield 19, [11, 1]), (4, .iload_n 1, []), (5, .invokevirtual 140, [1, 64, 3]), (8, .ifCond .eq 24, []), (32, .iconst (-1), []), (33, .ireturn, [])]
def zm_X11_odds : zM := (⟨"HeldCoats", "odds", "(III)I"⟩, prog_1_method_35_code, 4, (some .int), zt_X11_odds, 0, 0, 3)
def zt_X12_odds : List zE := [(0, .aload_n 0, []), (1, .iconst 0, []), (2, .putfield 1, [12, 0]), (5, .aload_n 0, []), (6, .iload_n 1, []), (7, .invokevirtual 270, [1, 66, 12]), (10, .ifCond .eq 22, []), (32, .iconst (-1), []), (33, .ireturn, [])]
def zm_X12_odds : zM := (⟨"HeldCoatsModel", "odds", "(III)I"⟩, prog_14_method_100_code, 7, (some .int), zt_X12_odds, 0, 0, 3)
def zt_X11_book : List zE := [(0, .iload_n 1, []), (1, .ifCond .eq 12, []), (4, .iload_n 1, []), (5, .iconst 1, []), (6, .if_icmp .eq 7, []), (9, .sipush (-1000), []), (12, .ireturn, []), (13, .aload_n 0, []), (14, .getfield 65, [11, 7]), (17, .aload_n 0, []), (18, .getfield 10, [11, 0]), (21, .aload_n 0, []), (22, .getfield 19, [11, 1]), (25, .getfield 317, [3, 15]), (28, .invokevirtual 321, [1, 143, 0]), (31, .istore_n 2, []), (32, .aload_n 0, []), (33, .invokevirtual 97, [1, 28, 11]), (36, .iload_n 2, []), (37, .ifCond .ne 14, []), (51, .iload_n 1, []), (52, .ifCond .ne 18, []), (55, .aload_n 0, []), (56, .getfield 65, [11, 7]), (59, .aload_n 0, []), (60, .getfield 74, [11, 8]), (63, .invokevirtual 324, [1, 113, 1]), (66, .invokevirtual 328, [1, 144, 0]), (69, .ireturn, []), (70, .aload_n 0, []), (71, .getfield 44, [11, 4]), (74, .aload_n 0, []), (75, .getfield 37, [11, 3]), (78, .invokevirtual 213, [1, 74, 6]), (81, .aload_n 0, []), (82, .getfield 44, [11, 4]), (85, .invokevirtual 332, [1, 81, 6]), (88, .aload_n 0, []), (89, .getfield 65, [11, 7]), (92, .aload_n 0, []), (93, .getfield 37, [11, 3]), (96, .invokevirtual 328, [1, 144, 0]), (99, .ireturn, [])]
def zm_X11_book : zM := (⟨"HeldCoats", "book", "(I)I"⟩, prog_1_method_36_code, 3, (some .int), zt_X11_book, 0, 0, 1)
def zt_X12_book : List zE := [(0, .aload_n 0, []), (1, .iconst 0, []), (2, .putfield 1, [12, 0]), (5, .iload_n 1, []), (6, .iconst 0, []), (7, .iconst 1, []), (8, .invokestatic 171, [1, 45]), (11, .ifCond .ne 7, []), (14, .sipush (-1000), []), (17, .ireturn, []), (18, .aload_n 0, []), (19, .sipush 400, []), (22, .invokevirtual 219, [1, 36, 12]), (25, .aload_n 0, []), (26, .iconst 0, []), (27, .putfield 156, [12, 15]), (30, .aload_n 0, []), (31, .iconst 0, []), (32, .putfield 397, [12, 36]), (35, .aload_n 0, []), (36, .invokevirtual 168, [1, 37, 12]), (39, .aload_n 0, []), (40, .getfield 139, [12, 11]), (43, .ifCond .eq 40, []), (83, .aload_n 0, []), (84, .invokevirtual 357, [1, 114, 12]), (87, .iconst 0, []), (88, .istore_n 2, []), (89, .iload_n 2, []), (90, .iconst 4, []), (91, .if_icmp .ge 16, []), (94, .aload_n 0, []), (95, .getfield 59, [12, 37]), (98, .iload_n 2, []), (99, .iconst 0, []), (100, .iastore, []), (101, .iinc 2 1, []), (104, .goto (-15), []), (107, .aload_n 0, []), (108, .getfield 33, [12, 6]), (111, .bipush 63, []), (113, .iaload, []), (114, .istore_n 2, []), (115, .iconst (-1), []), (116, .istore_n 3, []), (117, .iconst 0, []), (118, .istore 4, []), (120, .iload 4, []), (122, .aload_n 0, []), (123, .getfield 397, [12, 36]), (126, .if_icmp .ge 79, []), (205, .aload_n 0, []), (206, .getfield 59, [12, 37]), (209, .iconst 2, []), (210, .aload_n 0, []), (211, .getfield 33, [12, 6]), (214, .bipush 62, []), (216, .iaload, []), (217, .iastore, []), (218, .aload_n 0, []), (219, .getfield 59, [12, 37]), (222, .iconst 3, []), (223, .aload_n 0, []), (224, .getfield 33, [12, 6]), (227, .bipush 63, []), (229, .iaload, []), (230, .iload_n 2, []), (231, .isub, []), (232, .iastore, []), (233, .aload_n 0, []), (234, .iconst 1, []), (235, .putfield 406, [12, 38]), (238, .iload_n 1, []), (239, .iconst 1, []), (240, .if_icmp .ne 56, []), (243, .aload_n 0, []), (244, .getfield 59, [12, 37]), (247, .iconst 1, []), (248, .iaload, []), (249, .ifCond .le 47, []), (296, .iload_n 1, []), (297, .ifCond .ne 7, []), (300, .aload_n 0, []), (301, .invokevirtual 360, [1, 115, 12]), (304, .iload_n 3, []), (305, .ireturn, [])]
def zm_X12_book : zM := (⟨"HeldCoatsModel", "book", "(I)I"⟩, prog_14_method_103_code, 5, (some .int), zt_X12_book, 0, 0, 1)
def zt_X0_readText : List zE := [(0, .aload_n 0, []), (1, .iconst 0, []), (2, .putfield 24, [0, 4]), (5, .aload_n 1, []), (6, .sipush 400, []), (9, .invokevirtual 28, [1, 23, 10]), (12, .iconst 0, []), (13, .istore_n 3, []), (14, .iload_n 3, []), (15, .sipush 400, []), (18, .if_icmp .ge 46, []), (21, .aload_n 1, []), (22, .getfield 34, [10, 6]), (25, .ifCond .eq 39, []), (64, .aload_n 1, []), (65, .invokevirtual 45, [1, 27, 10]), (68, .ireturn, [])]
def zm_X0_readText : zM := (⟨"HeldCoats$Book", "readText", "(LHeldCoats$Tape;LHeldCoats$Names;)Z"⟩, prog_2_method_2_code, 4, (some .boolean), zt_X0_readText, 0, 0, 2)
def zt_X0_judge : List zE := [(0, .aload_n 1, []), (1, .getfield 90, [9, 2]), (4, .istore_n 2, []), (5, .iconst 0, []), (6, .istore_n 3, []), (7, .iconst 0, []), (8, .istore 4, []), (10, .iload 4, []), (12, .aload_n 0, []), (13, .getfield 24, [0, 4]), (16, .if_icmp .ge 25, []), (41, .aload_n 0, []), (42, .getfield 21, [0, 3]), (45, .iconst 0, []), (46, .iload_n 3, []), (47, .iastore, []), (48, .aload_n 0, []), (49, .getfield 21, [0, 3]), (52, .iconst 1, []), (53, .iload 4, []), (55, .iastore, []), (56, .aload_n 0, []), (57, .getfield 21, [0, 3]), (60, .iconst 2, []), (61, .aload_n 1, []), (62, .getfield 99, [9, 1]), (65, .iastore, []), (66, .aload_n 0, []), (67, .getfield 21, [0, 3]), (70, .iconst 3, []), (71, .aload_n 1, []), (72, .getfield 90, [9, 2]), (75, .iload_n 2, []), (76, .isub, []), (77, .iastore, []), (78, .iload_n 3, []), (79, .ifCond .ne 7, []), (82, .iconst (-1), []), (83, .goto 5, []), (88, .ireturn, [])]
def zm_X0_judge : zM := (⟨"HeldCoats$Book", "judge", "(LHeldCoats$State;)I"⟩, prog_2_method_7_code, 5, (some .int), zt_X0_judge, 0, 0, 1)
def zt_X11_told : List zE := [(0, .iload_n 1, []), (1, .ifCond .lt 27, []), (4, .iload_n 1, []), (5, .aload_n 0, []), (6, .getfield 65, [11, 7]), (9, .getfield 335, [0, 3]), (12, .arraylength, []), (13, .if_icmp .ge 15, []), (16, .aload_n 0, []), (17, .getfield 65, [11, 7]), (20, .getfield 335, [0, 3]), (23, .iload_n 1, []), (24, .iaload, []), (25, .goto 4, []), (28, .iconst (-1), []), (29, .ireturn, [])]
def zm_X11_told : zM := (⟨"HeldCoats", "told", "(I)I"⟩, prog_1_method_37_code, 2, (some .int), zt_X11_told, 0, 0, 1)
def zt_X12_told : List zE := [(0, .aload_n 0, []), (1, .iconst 0, []), (2, .putfield 1, [12, 0]), (5, .aload_n 0, []), (6, .getfield 406, [12, 38]), (9, .ifCond .eq 21, []), (30, .iconst (-1), []), (31, .ireturn, [])]
def zm_X12_told : zM := (⟨"HeldCoatsModel", "told", "(I)I"⟩, prog_14_method_104_code, 2, (some .int), zt_X12_told, 0, 0, 1)
def zt_X11_sentence : List zE := [(0, .aload_n 0, []), (1, .getfield 58, [11, 6]), (4, .aload_n 0, []), (5, .getfield 19, [11, 1]), (8, .getfield 317, [3, 15]), (11, .invokevirtual 338, [1, 148, 8]), (14, .aload_n 0, []), (15, .getfield 58, [11, 6]), (18, .iconst 1, []), (19, .invokevirtual 342, [1, 149, 8]), (22, .ifCond .eq 17, []), (39, .iconst 0, []), (40, .istore_n 1, []), (41, .aload_n 0, []), (42, .invokevirtual 97, [1, 28, 11]), (45, .iload_n 1, []), (46, .ifCond .ne 13, []), (49, .iconst (-1), []), (50, .aload_n 0, []), (51, .getfield 10, [11, 0]), (54, .getfield 100, [10, 10]), (57, .isub, []), (58, .ireturn, [])]
def zm_X11_sentence : zM := (⟨"HeldCoats", "sentence", "()I"⟩, prog_1_method_38_code, 2, (some .int), zt_X11_sentence, 0, 0, 0)
def zt_X8_open : List zE := [(0, .aload_n 0, []), (1, .aload_n 1, []), (2, .putfield 25, [8, 2]), (5, .aload_n 0, []), (6, .getfield 12, [8, 1]), (9, .invokevirtual 29, [1, 33, 7]), (12, .aload_n 0, []), (13, .getfield 18, [8, 0]), (16, .sipush 200, []), (19, .invokevirtual 32, [1, 23, 10]), (22, .return_, [])]
def zm_X8_open : zM := (⟨"HeldCoats$SentenceReader", "open", "(LHeldCoats$Names;)V"⟩, prog_10_method_2_code, 2, none, zt_X8_open, 0, 0, 1)
def zt_X8_readCond : List zE := [(0, .aload_n 0, []), (1, .iload_n 1, []), (2, .invokevirtual 42, [1, 150, 8]), (5, .ifCond .ne 5, []), (8, .iconst 0, []), (9, .ireturn, [])]
def zm_X8_readCond : zM := (⟨"HeldCoats$SentenceReader", "readCond", "(I)Z"⟩, prog_10_method_4_code, 3, (some .boolean), zt_X8_readCond, 0, 0, 1)
def zt_X8_readAll : List zE := [(0, .aload_n 0, []), (1, .iload_n 1, []), (2, .invokevirtual 56, [1, 151, 8]), (5, .ifCond .ne 5, []), (8, .iconst 0, []), (9, .ireturn, [])]
def zm_X8_readAll : zM := (⟨"HeldCoats$SentenceReader", "readAll", "(I)Z"⟩, prog_10_method_5_code, 3, (some .boolean), zt_X8_readAll, 0, 0, 1)
def zt_X8_readOne : List zE := [(0, .aload_n 0, []), (1, .getfield 18, [8, 0]), (4, .bipush 40, []), (6, .invokevirtual 59, [1, 152, 10]), (9, .istore_n 2, []), (10, .iload_n 2, []), (11, .ifCond .ne 35, []), (14, .aload_n 0, []), (15, .getfield 18, [8, 0]), (18, .getfield 62, [10, 6]), (21, .iconst 2, []), (22, .if_icmp .ne 15, []), (37, .aload_n 0, []), (38, .getfield 18, [8, 0]), (41, .iconst 1, []), (42, .invokevirtual 69, [1, 153, 10]), (45, .ireturn, [])]
def zm_X8_readOne : zM := (⟨"HeldCoats$SentenceReader", "readOne", "(I)Z"⟩, prog_10_method_6_code, 4, (some .boolean), zt_X8_readOne, 0, 0, 1)
def zt_X10_isSign : List zE := [(0, .aload_n 0, []), (1, .getfield 69, [10, 6]), (4, .iconst 5, []), (5, .if_icmp .ne 15, []), (20, .iconst 0, []), (21, .ireturn, [])]
def zm_X10_isSign : zM := (⟨"HeldCoats$Tape", "isSign", "(I)Z"⟩, prog_12_method_13_code, 2, (some .boolean), zt_X10_isSign, 0, 0, 1)
def zt_X10_refuse : List zE := [(0, .aload_n 0, []), (1, .iload_n 1, []), (2, .putfield 43, [10, 9]), (5, .aload_n 0, []), (6, .aload_n 0, []), (7, .getfield 56, [10, 4]), (10, .putfield 46, [10, 10]), (13, .iconst 0, []), (14, .ireturn, [])]
def zm_X10_refuse : zM := (⟨"HeldCoats$Tape", "refuse", "(I)Z"⟩, prog_12_method_10_code, 2, (some .boolean), zt_X10_refuse, 0, 0, 1)
def zt_X12_sentence : List zE := [(0, .aload_n 0, []), (1, .iconst 0, []), (2, .putfield 1, [12, 0]), (5, .aload_n 0, []), (6, .sipush 200, []), (9, .invokevirtual 219, [1, 36, 12]), (12, .aload_n 0, []), (13, .iconst 0, []), (14, .putfield 156, [12, 15]), (17, .aload_n 0, []), (18, .iconst 0, []), (19, .putfield 409, [12, 40]), (22, .aload_n 0, []), (23, .iconst 0, []), (24, .putfield 425, [12, 41]), (27, .aload_n 0, []), (28, .iconst 0, []), (29, .putfield 412, [12, 42]), (32, .aload_n 0, []), (33, .iconst 1, []), (34, .putfield 419, [12, 43]), (37, .aload_n 0, []), (38, .iconst 0, []), (39, .putfield 428, [12, 44]), (42, .aload_n 0, []), (43, .invokevirtual 168, [1, 37, 12]), (46, .iconst 1, []), (47, .istore_n 1, []), (48, .iload_n 1, []), (49, .ifCond .eq 83, []), (52, .aload_n 0, []), (53, .getfield 428, [12, 44]), (56, .ifCond .eq 45, []), (101, .aload_n 0, []), (102, .getfield 428, [12, 44]), (105, .ifCond .eq 13, []), (118, .aload_n 0, []), (119, .invokevirtual 440, [1, 155, 12]), (122, .ifCond .ne (-74), []), (125, .iconst (-1), []), (126, .aload_n 0, []), (127, .getfield 159, [12, 16]), (130, .isub, []), (131, .ireturn, [])]
def zm_X12_sentence : zM := (⟨"HeldCoatsModel", "sentence", "()I"⟩, prog_14_method_111_code, 3, (some .int), zt_X12_sentence, 0, 0, 0)
def zt_X12_operand : List zE := [(0, .aload_n 0, []), (1, .ldc2_w 108, []), (4, .invokevirtual 202, [1, 156, 12]), (7, .istore_n 1, []), (8, .aload_n 0, []), (9, .bipush 40, []), (11, .invokevirtual 162, [1, 157, 12]), (14, .istore_n 2, []), (15, .aload_n 0, []), (16, .invokevirtual 422, [1, 158, 12]), (19, .istore_n 3, []), (20, .iload_n 1, []), (21, .ifCond .ne 17, []), (24, .iload_n 2, []), (25, .ifCond .ne 13, []), (28, .iload_n 3, []), (29, .ifCond .ge 9, []), (32, .aload_n 0, []), (33, .iconst 1, []), (34, .invokevirtual 165, [1, 159, 12]), (37, .ireturn, [])]
def zm_X12_operand : zM := (⟨"HeldCoatsModel", "operand", "()Z"⟩, prog_14_method_109_code, 5, (some .boolean), zt_X12_operand, 0, 0, 0)
def zt_X12_isWord : List zE := [(0, .aload_n 0, []), (1, .getfield 139, [12, 11]), (4, .iconst 1, []), (5, .if_icmp .ne 16, []), (21, .iconst 0, []), (22, .ireturn, [])]
def zm_X12_isWord : zM := (⟨"HeldCoatsModel", "isWord", "(J)Z"⟩, prog_14_method_19_code, 3, (some .boolean), zt_X12_isWord, 0, 0, 1)
def zt_X12_isSign : List zE := [(0, .aload_n 0, []), (1, .getfield 139, [12, 11]), (4, .iconst 3, []), (5, .if_icmp .ne 15, []), (20, .iconst 0, []), (21, .ireturn, [])]
def zm_X12_isSign : zM := (⟨"HeldCoatsModel", "isSign", "(I)Z"⟩, prog_14_method_20_code, 2, (some .boolean), zt_X12_isSign, 0, 0, 1)
def zt_X12_leafOf : List zE := [(0, .aload_n 0, []), (1, .ldc2_w 110, []), (4, .invokevirtual 202, [1, 156, 12]), (7, .ifCond .eq 7, []), (14, .aload_n 0, []), (15, .ldc2_w 112, []), (18, .invokevirtual 202, [1, 156, 12]), (21, .ifCond .eq 7, []), (28, .aload_n 0, []), (29, .ldc2_w 114, []), (32, .invokevirtual 202, [1, 156, 12]), (35, .ifCond .eq 7, []), (42, .aload_n 0, []), (43, .ldc2_w 116, []), (46, .invokevirtual 202, [1, 156, 12]), (49, .ifCond .eq 7, []), (56, .aload_n 0, []), (57, .ldc2_w 118, []), (60, .invokevirtual 202, [1, 156, 12]), (63, .ifCond .eq 7, []), (70, .aload_n 0, []), (71, .ldc2_w 120, []), (74, .invokevirtual 202, [1, 156, 12]), (77, .ifCond .eq 7, []), (84, .aload_n 0, []), (85, .ldc2_w 122, []), (88, .invokevirtual 202, [1, 156, 12]), (91, .ifCond .eq 8, []), (99, .aload_n 0, []), (100, .ldc2_w 124, []), (103, .invokevirtual 202, [1, 156, 12]), (106, .ifCond .eq 8, []), (114, .iconst (-1), []), (115, .ireturn, [])]
def zm_X12_leafOf : zM := (⟨"HeldCoatsModel", "leafOf", "()I"⟩, prog_14_method_108_code, 1, (some .int), zt_X12_leafOf, 0, 0, 0)
def zt_X12_bad : List zE := [(0, .aload_n 0, []), (1, .iload_n 1, []), (2, .putfield 156, [12, 15]), (5, .aload_n 0, []), (6, .aload_n 0, []), (7, .getfield 133, [12, 12]), (10, .putfield 159, [12, 16]), (13, .iconst 0, []), (14, .ireturn, [])]
def zm_X12_bad : zM := (⟨"HeldCoatsModel", "bad", "(I)Z"⟩, prog_14_method_18_code, 2, (some .boolean), zt_X12_bad, 0, 0, 1)
def zt_X11_said : List zE := [(0, .aload_n 0, []), (1, .getfield 51, [11, 5]), (4, .getfield 353, [7, 5]), (7, .ifCond .ne 5, []), (10, .iconst (-1), []), (11, .ireturn, [])]
def zm_X11_said : zM := (⟨"HeldCoats", "said", "(I)I"⟩, prog_1_method_39_code, 3, (some .int), zt_X11_said, 0, 0, 1)
def zt_X12_said : List zE := [(0, .aload_n 0, []), (1, .iconst 0, []), (2, .putfield 1, [12, 0]), (5, .aload_n 0, []), (6, .getfield 33, [12, 6]), (9, .bipush 118, []), (11, .iaload, []), (12, .ifCond .eq 8, []), (20, .iconst (-1), []), (21, .ireturn, [])]
def zm_X12_said : zM := (⟨"HeldCoatsModel", "said", "(I)I"⟩, prog_14_method_114_code, 4, (some .int), zt_X12_said, 0, 0, 1)
def zt_X11_image : List zE := [(0, .iload_n 1, []), (1, .ifCond .lt 8, []), (4, .iload_n 1, []), (5, .iconst 2, []), (6, .if_icmp .lt 5, []), (9, .iconst 0, []), (10, .ireturn, []), (11, .aload_n 0, []), (12, .getfield 80, [11, 9]), (15, .iload_n 1, []), (16, .aaload, []), (17, .aload_n 0, []), (18, .getfield 19, [11, 1]), (21, .aload_n 0, []), (22, .getfield 37, [11, 3]), (25, .aload_n 0, []), (26, .getfield 51, [11, 5]), (29, .invokevirtual 367, [1, 164, 2]), (32, .iconst 1, []), (33, .ireturn, [])]
def zm_X11_image : zM := (⟨"HeldCoats", "image", "(I)Z"⟩, prog_1_method_40_code, 2, (some .boolean), zt_X11_image, 0, 0, 1)
def zt_X12_image : List zE := [(0, .aload_n 0, []), (1, .iconst 0, []), (2, .putfield 1, [12, 0]), (5, .iload_n 1, []), (6, .iconst 0, []), (7, .iconst 1, []), (8, .invokestatic 171, [1, 45]), (11, .ifCond .ne 5, []), (14, .iconst 0, []), (15, .ireturn, []), (16, .iconst 0, []), (17, .istore_n 2, []), (18, .iload_n 2, []), (19, .sipush 299, []), (22, .if_icmp .ge 27, []), (25, .aload_n 0, []), (26, .getfield 69, [12, 46]), (29, .sipush 299, []), (32, .iload_n 1, []), (33, .imul, []), (34, .iload_n 2, []), (35, .iadd, []), (36, .aload_n 0, []), (37, .getfield 33, [12, 6]), (40, .iload_n 2, []), (41, .iaload, []), (42, .iastore, []), (43, .iinc 2 1, []), (46, .goto (-28), []), (49, .iconst 0, []), (50, .istore_n 2, []), (51, .iload_n 2, []), (52, .bipush 22, []), (54, .if_icmp .ge 26, []), (57, .aload_n 0, []), (58, .getfield 72, [12, 47]), (61, .bipush 22, []), (63, .iload_n 1, []), (64, .imul, []), (65, .iload_n 2, []), (66, .iadd, []), (67, .aload_n 0, []), (68, .getfield 43, [12, 9]), (71, .iload_n 2, []), (72, .laload, []), (73, .lastore, []), (74, .iinc 2 1, []), (77, .goto (-26), []), (80, .aload_n 0, []), (81, .getfield 75, [12, 48]), (84, .iload_n 1, []), (85, .iconst 1, []), (86, .bastore, []), (87, .iconst 1, []), (88, .ireturn, [])]
def zm_X12_image : zM := (⟨"HeldCoatsModel", "image", "(I)Z"⟩, prog_14_method_115_code, 3, (some .boolean), zt_X12_image, 0, 0, 1)
def zt_X2_take : List zE := [(0, .aload_n 0, []), (1, .getfield 10, [2, 0]), (4, .aload_n 1, []), (5, .invokevirtual 32, [1, 29, 3]), (8, .aload_n 0, []), (9, .getfield 21, [2, 1]), (12, .aload_n 2, []), (13, .invokevirtual 35, [1, 75, 9]), (16, .aload_n 0, []), (17, .getfield 28, [2, 2]), (20, .aload_n 3, []), (21, .invokevirtual 38, [1, 165, 7]), (24, .aload_n 0, []), (25, .iconst 1, []), (26, .putfield 41, [2, 3]), (29, .return_, [])]
def zm_X2_take : zM := (⟨"HeldCoats$Image", "take", "(LHeldCoats$Law;LHeldCoats$State;LHeldCoats$Sentence;)V"⟩, prog_4_method_2_code, 4, none, zt_X2_take, 0, 0, 3)
def zt_X7_copyFrom : List zE := [(0, .aload_n 1, []), (1, .getfield 11, [7, 0]), (4, .iconst 0, []), (5, .aload_n 0, []), (6, .getfield 11, [7, 0]), (9, .iconst 0, []), (10, .bipush 40, []), (12, .invokestatic 31, [0]), (15, .aload_n 1, []), (16, .getfield 15, [7, 1]), (19, .iconst 0, []), (20, .aload_n 0, []), (21, .getfield 15, [7, 1]), (24, .iconst 0, []), (25, .bipush 40, []), (27, .invokestatic 31, [0]), (30, .aload_n 1, []), (31, .getfield 18, [7, 2]), (34, .iconst 0, []), (35, .aload_n 0, []), (36, .getfield 18, [7, 2]), (39, .iconst 0, []), (40, .bipush 40, []), (42, .invokestatic 31, [0]), (45, .aload_n 0, []), (46, .aload_n 1, []), (47, .getfield 24, [7, 4]), (50, .putfield 24, [7, 4]), (53, .aload_n 0, []), (54, .aload_n 1, []), (55, .getfield 28, [7, 5]), (58, .putfield 28, [7, 5]), (61, .return_, [])]
def zm_X7_copyFrom : zM := (⟨"HeldCoats$Sentence", "copyFrom", "(LHeldCoats$Sentence;)V"⟩, prog_9_method_3_code, 2, none, zt_X7_copyFrom, 0, 0, 1)
def zt_X11_restore : List zE := [(0, .iload_n 1, []), (1, .ifCond .lt 20, []), (4, .iload_n 1, []), (5, .iconst 2, []), (6, .if_icmp .ge 15, []), (9, .aload_n 0, []), (10, .getfield 80, [11, 9]), (13, .iload_n 1, []), (14, .aaload, []), (15, .getfield 371, [2, 3]), (18, .ifCond .ne 5, []), (21, .iconst 0, []), (22, .ireturn, [])]
def zm_X11_restore : zM := (⟨"HeldCoats", "restore", "(I)Z"⟩, prog_1_method_41_code, 2, (some .boolean), zt_X11_restore, 0, 0, 1)
def zt_X12_restore : List zE := [(0, .aload_n 0, []), (1, .iconst 0, []), (2, .putfield 1, [12, 0]), (5, .iload_n 1, []), (6, .iconst 0, []), (7, .iconst 1, []), (8, .invokestatic 171, [1, 45]), (11, .ifCond .eq 12, []), (14, .aload_n 0, []), (15, .getfield 75, [12, 48]), (18, .iload_n 1, []), (19, .baload, []), (20, .ifCond .ne 5, []), (23, .iconst 0, []), (24, .ireturn, [])]
def zm_X12_restore : zM := (⟨"HeldCoatsModel", "restore", "(I)Z"⟩, prog_14_method_116_code, 3, (some .boolean), zt_X12_restore, 0, 0, 1)
def zt_X11_count : List zE := [(0, .iload_n 1, []), (1, .tableswitch 111 0 7 #[47, 55, 63, 71, 79, 87, 95, 103], [47]), (48, .aload_n 0, []), (49, .getfield 19, [11, 1]), (52, .getfield 378, [3, 0]), (55, .ireturn, []), (56, .aload_n 0, []), (57, .getfield 19, [11, 1]), (60, .getfield 381, [3, 1]), (63, .ireturn, []), (64, .aload_n 0, []), (65, .getfield 19, [11, 1]), (68, .getfield 307, [3, 2]), (71, .ireturn, []), (72, .aload_n 0, []), (73, .getfield 19, [11, 1]), (76, .getfield 384, [3, 4]), (79, .ireturn, []), (80, .aload_n 0, []), (81, .getfield 19, [11, 1]), (84, .getfield 387, [3, 5]), (87, .ireturn, []), (88, .aload_n 0, []), (89, .getfield 19, [11, 1]), (92, .getfield 390, [3, 6]), (95, .ireturn, []), (96, .aload_n 0, []), (97, .getfield 19, [11, 1]), (100, .getfield 393, [3, 7]), (103, .ireturn, []), (104, .aload_n 0, []), (105, .getfield 10, [11, 0]), (108, .getfield 85, [10, 2]), (111, .ireturn, []), (112, .iconst (-1), []), (113, .ireturn, [])]
def zm_X11_count : zM := (⟨"HeldCoats", "count", "(I)I"⟩, prog_1_method_42_code, 2, (some .int), zt_X11_count, 0, 0, 1)
def zt_X12_count : List zE := [(0, .aload_n 0, []), (1, .iconst 0, []), (2, .putfield 1, [12, 0]), (5, .iload_n 1, []), (6, .bipush 7, []), (8, .if_icmp .ne 10, []), (11, .aload_n 0, []), (12, .getfield 7, [12, 2]), (15, .goto 23, []), (18, .iload_n 1, []), (19, .iconst 0, []), (20, .bipush 6, []), (22, .invokestatic 171, [1, 45]), (25, .ifCond .eq 12, []), (28, .aload_n 0, []), (29, .getfield 33, [12, 6]), (32, .iload_n 1, []), (33, .iaload, []), (34, .goto 4, []), (37, .iconst (-1), []), (38, .ireturn, [])]
def zm_X12_count : zM := (⟨"HeldCoatsModel", "count", "(I)I"⟩, prog_14_method_117_code, 2, (some .int), zt_X12_count, 0, 0, 1)
def zP : List zM := [zm_X11_init, zm_X3_init, zm_X5_init, zm_X3_clear, zm_X5_clear, zm_X4_init, zm_X9_init, zm_X6_init, zm_X7_init, zm_X8_init, zm_X0_init, zm_X1_init, zm_X2_init, zm_X12_init, zm_X12_clears, zm_X11_feed, zm_X10_addNumber, zm_X12_feed, zm_X12_four, zm_X11_end, zm_X12_end, zm_X11_capital, zm_X4_readText, zm_X10_open, zm_X10_advance, zm_X10_firstUnblank, zm_X10_stopAtEnd, zm_X10_isOver, zm_X11_closeTape, zm_X3_copyFrom, zm_X5_copyFrom, zm_X9_begin, zm_J7_fill_53178, zm_X7_clear, zm_X6_clear, zm_X12_capital, zm_X12_taken, zm_X12_next, zm_X12_peek, zm_X11_fault, zm_X12_fault, zm_X11_seat, zm_X3_hasSeat, zm_X12_seat, zm_X12_isSeat, zm_X12_isIn, zm_X11_now, zm_X12_now, zm_X3_coldOn, zm_X12_coldOn, zm_X3_isSummer, zm_X12_isSummer, zm_X9_ruler, zm_X9_rulerWithoutSummer, zm_X12_ruler, zm_X12_rulerBy, zm_X9_eaten, zm_X9_coatsAt, zm_X12_coatsAt, zm_X11_lay, zm_X3_hasCoat, zm_X12_lay, zm_X12_isCoat, zm_X11_wear, zm_X3_hasMan, zm_X12_wear, zm_X12_isMan, zm_X11_lend, zm_X12_lend, zm_X11_keep, zm_X12_keep, zm_X11_days, zm_X11_isDays, zm_X12_days, zm_X6_mark, zm_X9_copyFrom, zm_X9_passDays, zm_X9_daysLeftOf, zm_X9_passDay, zm_X9_freeze, zm_X11_undoableIfAny, zm_X6_hold, zm_X12_keepsAll, zm_X12_goesOn, zm_X12_day, zm_X11_undo, zm_X6_takeBack, zm_X12_undo, zm_X11_best, zm_X12_best, zm_X11_laid, zm_X12_laid, zm_X11_share, zm_X12_share, zm_X11_turns, zm_X12_turns, zm_X11_ahead, zm_X12_ahead, zm_X11_queue, zm_X12_queue, zm_X11_bribes, zm_X9_inCloakroom, zm_X12_bribes, zm_X1_fewestBribes, zm_X12_bits, zm_X11_frost, zm_X12_frost, zm_X12_areTwo, zm_X11_frostAt, zm_X12_frostAt, zm_X11_word, zm_X12_word, zm_X1_daysRuledOtherwise, zm_X1_trialOfNow, zm_X12_tries, zm_X12_back, zm_X11_bare, zm_X1_firstDayRuledBy, zm_X12_bare, zm_X12_firstOf, zm_X11_rules, zm_X12_rules, zm_X11_harm, zm_X12_harm, zm_X11_hooks, zm_X1_waysToHaveLain, zm_X12_hooks, zm_X11_surely, zm_X12_surely, zm_X11_never, zm_X12_never, zm_X11_rounds, zm_X1_roundsTillRest, zm_X1_menWanting, zm_X12_rounds, zm_X11_price, zm_X12_price, zm_X11_drawn, zm_X12_drawn, zm_X11_odds, zm_X12_odds, zm_X11_book, zm_X12_book, zm_X0_readText, zm_X0_judge, zm_X11_told, zm_X12_told, zm_X11_sentence, zm_X8_open, zm_X8_readCond, zm_X8_readAll, zm_X8_readOne, zm_X10_isSign, zm_X10_refuse, zm_X12_sentence, zm_X12_operand, zm_X12_isWord, zm_X12_isSign, zm_X12_leafOf, zm_X12_bad, zm_X11_said, zm_X12_said, zm_X11_image, zm_X12_image, zm_X2_take, zm_X7_copyFrom, zm_X11_restore, zm_X12_restore, zm_X11_count, zm_X12_count]
end
section
set_option maxRecDepth 20000 in
theorem zo_X11_init_0 : ∀ en ∈ ([(0, .aload_n 0, []), (1, .invokespecial 1, [0]), (4, .aload_n 0, []), (5, .new 7, [10, 11]), (8, .dup, []), (9, .invokespecial 9, [9999]), (12, .putfield 10, [11, 0]), (15, .aload_n 0, []), (16, .new 16, [3, 16]), (19, .dup, []), (20, .invokespecial 18, [1, 1]), (23, .putfield 19, [11, 1]), (26, .aload_n 0, []), (27, .new 23, [4, 4]), (30, .dup, []), (31, .aload_n 0, []), (32, .getfield 10, [11, 0]), (35, .invokespecial 25, [1, 5]), (38, .putfield 28, [11, 2]), (41, .aload_n 0, []), (42, .new 32, [9, 13]), (45, .dup, []), (46, .aload_n 0, []), (47, .getfield 19, [11, 1]), (50, .invokespecial 34, [1, 6]), (53, .putfield 37, [11, 3]), (56, .aload_n 0, []), (57, .new 41, [6, 3]), (60, .dup, []), (61, .aload_n 0, [])] : List zE), z_en zTB zNT vwCl zTF zDF zP ⟨"HeldCoats", "<init>", "()V"⟩ prog_1_method_1_code en := List.forall_mem_cons.mpr ⟨ze_s (by decide +kernel) rfl, List.forall_mem_cons.mpr ⟨ze_oi (by decide +kernel) zw_31 zw_32 zw_33, List.forall_mem_cons.mpr ⟨ze_s (by decide +kernel) rfl, List.forall_mem_cons.mpr ⟨ze_new (by decide +kernel) zK_10 zw_34 zw_35 zw_2 zD_10 zDD_10, List.forall_mem_cons.mpr ⟨ze_s (by decide +kernel) rfl, List.forall_mem_cons.mpr ⟨ze_xi (by decide +kernel), List.forall_mem_cons.mpr ⟨ze_put (by decide +kernel) zK_11 (by decide) zw_531 (Or.inr ⟨rfl, rfl, rfl⟩), List.forall_mem_cons.mpr ⟨ze_s (by decide +kernel) rfl, List.forall_mem_cons.mpr ⟨ze_new (by decide +kernel) zK_3 zw_140 zw_141 zw_7 zD_3 zDD_3, List.forall_mem_cons.mpr ⟨ze_s (by decide +kernel) rfl, List.forall_mem_cons.mpr ⟨ze_ci (by decide +kernel) (by rfl) zY_X3_init (Or.inl zw_142) zw_143 rfl, List.forall_mem_cons.mpr ⟨ze_put (by decide +kernel) zK_11 (by decide) zw_532 (Or.inr ⟨rfl, rfl, rfl⟩), List.forall_mem_cons.mpr ⟨ze_s (by decide +kernel) rfl, List.forall_mem_cons.mpr ⟨ze_new (by decide +kernel) zK_4 zw_270 zw_271 zw_9 zD_4 zDD_4, List.forall_mem_cons.mpr ⟨ze_s (by decide +kernel) rfl, List.forall_mem_cons.mpr ⟨ze_s (by decide +kernel) rfl, List.forall_mem_cons.mpr ⟨ze_get (by decide +kernel) zK_11 (by decide) zw_531, List.forall_mem_cons.mpr ⟨ze_ci (by decide +kernel) (by rfl) zY_X4_init (Or.inl zw_272) zw_273 rfl, List.forall_mem_cons.mpr ⟨ze_put (by decide +kernel) zK_11 (by decide) zw_533 (Or.inr ⟨rfl, rfl, rfl⟩), List.forall_mem_cons.mpr ⟨ze_s (by decide +kernel) rfl, List.forall_mem_cons.mpr ⟨ze_new (by decide +kernel) zK_9 zw_293 zw_294 zw_10 zD_9 zDD_9, List.forall_mem_cons.mpr ⟨ze_s (by decide +kernel) rfl, List.forall_mem_cons.mpr ⟨ze_s (by decide +kernel) rfl, List.forall_mem_cons.mpr ⟨ze_get (by decide +kernel) zK_11 (by decide) zw_532, List.forall_mem_cons.mpr ⟨ze_ci (by decide +kernel) (by rfl) zY_X9_init (Or.inl zw_295) zw_296 rfl, List.forall_mem_cons.mpr ⟨ze_put (by decide +kernel) zK_11 (by decide) zw_534 (Or.inr ⟨rfl, rfl, rfl⟩), List.forall_mem_cons.mpr ⟨ze_s (by decide +kernel) rfl, List.forall_mem_cons.mpr ⟨ze_new (by decide +kernel) zK_6 zw_355 zw_356 zw_11 zD_6 zDD_6, List.forall_mem_cons.mpr ⟨ze_s (by decide +kernel) rfl, List.forall_mem_cons.mpr ⟨ze_s (by decide +kernel) rfl, fun _ h => absurd h List.not_mem_nil⟩⟩⟩⟩⟩⟩⟩⟩⟩⟩⟩⟩⟩⟩⟩⟩⟩⟩⟩⟩⟩⟩⟩⟩⟩⟩⟩⟩⟩⟩
set_option maxRecDepth 20000 in
theorem zo_X11_init_1 : ∀ en ∈ ([(62, .getfield 19, [11, 1]), (65, .invokespecial 43, [1, 7]), (68, .putfield 44, [11, 4]), (71, .aload_n 0, []), (72, .new 48, [7, 6]), (75, .dup, []), (76, .invokespecial 50, [1, 8]), (79, .putfield 51, [11, 5]), (82, .aload_n 0, []), (83, .new 55, [8, 3]), (86, .dup, []), (87, .aload_n 0, []), (88, .getfield 10, [11, 0]), (91, .invokespecial 57, [1, 9]), (94, .putfield 58, [11, 6]), (97, .aload_n 0, []), (98, .new 62, [0, 5]), (101, .dup, []), (102, .invokespecial 64, [1, 10]), (105, .putfield 65, [11, 7]), (108, .aload_n 0, []), (109, .new 69, [1, 14]), (112, .dup, []), (113, .aload_n 0, []), (114, .getfield 19, [11, 1]), (117, .aload_n 0, []), (118, .getfield 37, [11, 3]), (121, .invokespecial 71, [1, 11]), (124, .putfield 74, [11, 8]), (127, .aload_n 0, [])] : List zE), z_en zTB zNT vwCl zTF zDF zP ⟨"HeldCoats", "<init>", "()V"⟩ prog_1_method_1_code en := List.forall_mem_cons.mpr ⟨ze_get (by decide +kernel) zK_11 (by decide) zw_532, List.forall_mem_cons.mpr ⟨ze_ci (by decide +kernel) (by rfl) zY_X6_init (Or.inl zw_357) zw_358 rfl, List.forall_mem_cons.mpr ⟨ze_put (by decide +kernel) zK_11 (by decide) zw_535 (Or.inr ⟨rfl, rfl, rfl⟩), List.forall_mem_cons.mpr ⟨ze_s (by decide +kernel) rfl, List.forall_mem_cons.mpr ⟨ze_new (by decide +kernel) zK_7 zw_375 zw_376 zw_12 zD_7 zDD_7, List.forall_mem_cons.mpr ⟨ze_s (by decide +kernel) rfl, List.forall_mem_cons.mpr ⟨ze_ci (by decide +kernel) (by rfl) zY_X7_init (Or.inr ⟨"HeldCoats", by decide⟩) zw_378 rfl, List.forall_mem_cons.mpr ⟨ze_put (by decide +kernel) zK_11 (by decide) zw_536 (Or.inr ⟨rfl, rfl, rfl⟩), List.forall_mem_cons.mpr ⟨ze_s (by decide +kernel) rfl, List.forall_mem_cons.mpr ⟨ze_new (by decide +kernel) zK_8 zw_402 zw_403 zw_13 zD_8 zDD_8, List.forall_mem_cons.mpr ⟨ze_s (by decide +kernel) rfl, List.forall_mem_cons.mpr ⟨ze_s (by decide +kernel) rfl, List.forall_mem_cons.mpr ⟨ze_get (by decide +kernel) zK_11 (by decide) zw_531, List.forall_mem_cons.mpr ⟨ze_ci (by decide +kernel) (by rfl) zY_X8_init (Or.inl zw_404) zw_405 rfl, List.forall_mem_cons.mpr ⟨ze_put (by decide +kernel) zK_11 (by decide) zw_537 (Or.inr ⟨rfl, rfl, rfl⟩), List.forall_mem_cons.mpr ⟨ze_s (by decide +kernel) rfl, List.forall_mem_cons.mpr ⟨ze_new (by decide +kernel) zK_0 zw_423 zw_424 zw_14 zD_0 zDD_0, List.forall_mem_cons.mpr ⟨ze_s (by decide +kernel) rfl, List.forall_mem_cons.mpr ⟨ze_ci (by decide +kernel) (by rfl) zY_X0_init (Or.inr ⟨"HeldCoats", by decide⟩) zw_426 rfl, List.forall_mem_cons.mpr ⟨ze_put (by decide +kernel) zK_11 (by decide) zw_538 (Or.inr ⟨rfl, rfl, rfl⟩), List.forall_mem_cons.mpr ⟨ze_s (by decide +kernel) rfl, List.forall_mem_cons.mpr ⟨ze_new (by decide +kernel) zK_1 zw_446 zw_447 zw_15 zD_1 zDD_1, List.forall_mem_cons.mpr ⟨ze_s (by decide +kernel) rfl, List.forall_mem_cons.mpr ⟨ze_s (by decide +kernel) rfl, List.forall_mem_cons.mpr ⟨ze_get (by decide +kernel) zK_11 (by decide) zw_532, List.forall_mem_cons.mpr ⟨ze_s (by decide +kernel) rfl, List.forall_mem_cons.mpr ⟨ze_get (by decide +kernel) zK_11 (by decide) zw_534, List.forall_mem_cons.mpr ⟨ze_ci (by decide +kernel) (by rfl) zY_X1_init (Or.inl zw_448) zw_449 rfl, List.forall_mem_cons.mpr ⟨ze_put (by decide +kernel) zK_11 (by decide) zw_539 (Or.inr ⟨rfl, rfl, rfl⟩), List.forall_mem_cons.mpr ⟨ze_s (by decide +kernel) rfl, fun _ h => absurd h List.not_mem_nil⟩⟩⟩⟩⟩⟩⟩⟩⟩⟩⟩⟩⟩⟩⟩⟩⟩⟩⟩⟩⟩⟩⟩⟩⟩⟩⟩⟩⟩⟩
set_option maxRecDepth 20000 in
theorem zo_X11_init_2 : ∀ en ∈ ([(128, .iconst 2, []), (129, .anewarray 78, [5]), (132, .putfield 80, [11, 9]), (135, .iconst 0, []), (136, .istore_n 1, []), (137, .iload_n 1, []), (138, .iconst 2, []), (139, .if_icmp .ge 22, []), (142, .aload_n 0, []), (143, .getfield 80, [11, 9]), (146, .iload_n 1, []), (147, .new 78, [2, 4]), (150, .dup, []), (151, .invokespecial 84, [1, 12]), (154, .aastore, []), (155, .iinc 1 1, []), (158, .goto (-21), []), (161, .return_, [])] : List zE), z_en zTB zNT vwCl zTF zDF zP ⟨"HeldCoats", "<init>", "()V"⟩ prog_1_method_1_code en := List.forall_mem_cons.mpr ⟨ze_s (by decide +kernel) rfl, List.forall_mem_cons.mpr ⟨ze_newr (by decide +kernel) zw_504 (Or.inr ⟨rfl, rfl⟩), List.forall_mem_cons.mpr ⟨ze_put (by decide +kernel) zK_11 (by decide) zw_540 (Or.inr ⟨rfl, rfl, rfl⟩), List.forall_mem_cons.mpr ⟨ze_s (by decide +kernel) rfl, List.forall_mem_cons.mpr ⟨ze_s (by decide +kernel) rfl, List.forall_mem_cons.mpr ⟨ze_s (by decide +kernel) rfl, List.forall_mem_cons.mpr ⟨ze_s (by decide +kernel) rfl, List.forall_mem_cons.mpr ⟨ze_s (by decide +kernel) rfl, List.forall_mem_cons.mpr ⟨ze_s (by decide +kernel) rfl, List.forall_mem_cons.mpr ⟨ze_get (by decide +kernel) zK_11 (by decide) zw_540, List.forall_mem_cons.mpr ⟨ze_s (by decide +kernel) rfl, List.forall_mem_cons.mpr ⟨ze_new (by decide +kernel) zK_2 zw_504 zw_506 zw_16 zD_2 zDD_2, List.forall_mem_cons.mpr ⟨ze_s (by decide +kernel) rfl, List.forall_mem_cons.mpr ⟨ze_ci (by decide +kernel) (by rfl) zY_X2_init (Or.inr ⟨"HeldCoats", by decide⟩) zw_508 rfl, List.forall_mem_cons.mpr ⟨ze_s (by decide +kernel) rfl, List.forall_mem_cons.mpr ⟨ze_s (by decide +kernel) rfl, List.forall_mem_cons.mpr ⟨ze_s (by decide +kernel) rfl, List.forall_mem_cons.mpr ⟨ze_s (by decide +kernel) rfl, fun _ h => absurd h List.not_mem_nil⟩⟩⟩⟩⟩⟩⟩⟩⟩⟩⟩⟩⟩⟩⟩⟩⟩⟩
theorem zo_X11_init : z_Mok zTB zNT vwCl zTF zDF zP zm_X11_init := ⟨by decide +kernel, List.forall_mem_append.mpr ⟨zo_X11_init_0, List.forall_mem_append.mpr ⟨zo_X11_init_1, zo_X11_init_2⟩⟩⟩
set_option maxRecDepth 20000 in
theorem zo_X3_init_0 : ∀ en ∈ ([(0, .aload_n 0, []), (1, .invokespecial 3, [0]), (4, .aload_n 0, []), (5, .bipush 8, []), (7, .newarray .int, []), (9, .putfield 9, [3, 8]), (12, .aload_n 0, []), (13, .bipush 6, []), (15, .newarray .int, []), (17, .putfield 15, [3, 9]), (20, .aload_n 0, []), (21, .bipush 8, []), (23, .newarray .int, []), (25, .putfield 18, [3, 10]), (28, .aload_n 0, []), (29, .bipush 8, []), (31, .newarray .int, []), (33, .putfield 21, [3, 11]), (36, .aload_n 0, []), (37, .bipush 8, []), (39, .newarray .int, []), (41, .putfield 24, [3, 12]), (44, .aload_n 0, []), (45, .bipush 8, []), (47, .newarray .int, []), (49, .putfield 27, [3, 13]), (52, .aload_n 0, []), (53, .bipush 8, []), (55, .newarray .int, []), (57, .putfield 30, [3, 14])] : List zE), z_en zTB zNT vwCl zTF zDF zP ⟨"HeldCoats$Law", "<init>", "()V"⟩ prog_5_method_1_code en := List.forall_mem_cons.mpr ⟨ze_s (by decide +kernel) rfl, List.forall_mem_cons.mpr ⟨ze_oi (by decide +kernel) zw_145 zw_32 zw_33, List.forall_mem_cons.mpr ⟨ze_s (by decide +kernel) rfl, List.forall_mem_cons.mpr ⟨ze_s (by decide +kernel) rfl, List.forall_mem_cons.mpr ⟨ze_newa (by decide +kernel) zw_137, List.forall_mem_cons.mpr ⟨ze_put (by decide +kernel) zK_3 (by decide) zw_206 (Or.inr ⟨rfl, rfl, rfl⟩), List.forall_mem_cons.mpr ⟨ze_s (by decide +kernel) rfl, List.forall_mem_cons.mpr ⟨ze_s (by decide +kernel) rfl, List.forall_mem_cons.mpr ⟨ze_newa (by decide +kernel) zw_137, List.forall_mem_cons.mpr ⟨ze_put (by decide +kernel) zK_3 (by decide) zw_212 (Or.inr ⟨rfl, rfl, rfl⟩), List.forall_mem_cons.mpr ⟨ze_s (by decide +kernel) rfl, List.forall_mem_cons.mpr ⟨ze_s (by decide +kernel) rfl, List.forall_mem_cons.mpr ⟨ze_newa (by decide +kernel) zw_137, List.forall_mem_cons.mpr ⟨ze_put (by decide +kernel) zK_3 (by decide) zw_217 (Or.inr ⟨rfl, rfl, rfl⟩), List.forall_mem_cons.mpr ⟨ze_s (by decide +kernel) rfl, List.forall_mem_cons.mpr ⟨ze_s (by decide +kernel) rfl, List.forall_mem_cons.mpr ⟨ze_newa (by decide +kernel) zw_137, List.forall_mem_cons.mpr ⟨ze_put (by decide +kernel) zK_3 (by decide) zw_222 (Or.inr ⟨rfl, rfl, rfl⟩), List.forall_mem_cons.mpr ⟨ze_s (by decide +kernel) rfl, List.forall_mem_cons.mpr ⟨ze_s (by decide +kernel) rfl, List.forall_mem_cons.mpr ⟨ze_newa (by decide +kernel) zw_137, List.forall_mem_cons.mpr ⟨ze_put (by decide +kernel) zK_3 (by decide) zw_227 (Or.inr ⟨rfl, rfl, rfl⟩), List.forall_mem_cons.mpr ⟨ze_s (by decide +kernel) rfl, List.forall_mem_cons.mpr ⟨ze_s (by decide +kernel) rfl, List.forall_mem_cons.mpr ⟨ze_newa (by decide +kernel) zw_137, List.forall_mem_cons.mpr ⟨ze_put (by decide +kernel) zK_3 (by decide) zw_230 (Or.inr ⟨rfl, rfl, rfl⟩), List.forall_mem_cons.mpr ⟨ze_s (by decide +kernel) rfl, List.forall_mem_cons.mpr ⟨ze_s (by decide +kernel) rfl, List.forall_mem_cons.mpr ⟨ze_newa (by decide +kernel) zw_137, List.forall_mem_cons.mpr ⟨ze_put (by decide +kernel) zK_3 (by decide) zw_232 (Or.inr ⟨rfl, rfl, rfl⟩), fun _ h => absurd h List.not_mem_nil⟩⟩⟩⟩⟩⟩⟩⟩⟩⟩⟩⟩⟩⟩⟩⟩⟩⟩⟩⟩⟩⟩⟩⟩⟩⟩⟩⟩⟩⟩
set_option maxRecDepth 20000 in
theorem zo_X3_init_1 : ∀ en ∈ ([(60, .aload_n 0, []), (61, .new 33, [5, 4]), (64, .dup, []), (65, .invokespecial 35, [1, 2]), (68, .putfield 36, [3, 15]), (71, .aload_n 0, []), (72, .invokevirtual 40, [1, 3, 3]), (75, .return_, [])] : List zE), z_en zTB zNT vwCl zTF zDF zP ⟨"HeldCoats$Law", "<init>", "()V"⟩ prog_5_method_1_code en := List.forall_mem_cons.mpr ⟨ze_s (by decide +kernel) rfl, List.forall_mem_cons.mpr ⟨ze_new (by decide +kernel) zK_5 zw_146 zw_147 zw_8 zD_5 zDD_5, List.forall_mem_cons.mpr ⟨ze_s (by decide +kernel) rfl, List.forall_mem_cons.mpr ⟨ze_ci (by decide +kernel) (by rfl) zY_X5_init (Or.inr ⟨"HeldCoats", by decide⟩) zw_149 rfl, List.forall_mem_cons.mpr ⟨ze_put (by decide +kernel) zK_3 (by decide) zw_234 (Or.inr ⟨rfl, rfl, rfl⟩), List.forall_mem_cons.mpr ⟨ze_s (by decide +kernel) rfl, List.forall_mem_cons.mpr ⟨ze_cv (by decide +kernel) (by rfl) zY_X3_clear (Or.inl zw_165) zw_166 zw_167 rfl, List.forall_mem_cons.mpr ⟨ze_s (by decide +kernel) rfl, fun _ h => absurd h List.not_mem_nil⟩⟩⟩⟩⟩⟩⟩⟩
theorem zo_X3_init : z_Mok zTB zNT vwCl zTF zDF zP zm_X3_init := ⟨by decide +kernel, List.forall_mem_append.mpr ⟨zo_X3_init_0, zo_X3_init_1⟩⟩
set_option maxRecDepth 20000 in
theorem zo_X5_init_0 : ∀ en ∈ ([(0, .aload_n 0, []), (1, .invokespecial 3, [0]), (4, .aload_n 0, []), (5, .bipush 22, []), (7, .newarray .long, []), (9, .putfield 9, [5, 0]), (12, .aload_n 0, []), (13, .bipush 22, []), (15, .newarray .int, []), (17, .putfield 15, [5, 1]), (20, .aload_n 0, []), (21, .bipush 22, []), (23, .newarray .int, []), (25, .putfield 19, [5, 2]), (28, .return_, [])] : List zE), z_en zTB zNT vwCl zTF zDF zP ⟨"HeldCoats$Names", "<init>", "()V"⟩ prog_7_method_1_code en := List.forall_mem_cons.mpr ⟨ze_s (by decide +kernel) rfl, List.forall_mem_cons.mpr ⟨ze_oi (by decide +kernel) zw_151 zw_32 zw_33, List.forall_mem_cons.mpr ⟨ze_s (by decide +kernel) rfl, List.forall_mem_cons.mpr ⟨ze_s (by decide +kernel) rfl, List.forall_mem_cons.mpr ⟨ze_newa (by decide +kernel) zw_138, List.forall_mem_cons.mpr ⟨ze_put (by decide +kernel) zK_5 (by decide) zw_152 (Or.inr ⟨rfl, rfl, rfl⟩), List.forall_mem_cons.mpr ⟨ze_s (by decide +kernel) rfl, List.forall_mem_cons.mpr ⟨ze_s (by decide +kernel) rfl, List.forall_mem_cons.mpr ⟨ze_newa (by decide +kernel) zw_137, List.forall_mem_cons.mpr ⟨ze_put (by decide +kernel) zK_5 (by decide) zw_153 (Or.inr ⟨rfl, rfl, rfl⟩), List.forall_mem_cons.mpr ⟨ze_s (by decide +kernel) rfl, List.forall_mem_cons.mpr ⟨ze_s (by decide +kernel) rfl, List.forall_mem_cons.mpr ⟨ze_newa (by decide +kernel) zw_137, List.forall_mem_cons.mpr ⟨ze_put (by decide +kernel) zK_5 (by decide) zw_154 (Or.inr ⟨rfl, rfl, rfl⟩), List.forall_mem_cons.mpr ⟨ze_s (by decide +kernel) rfl, fun _ h => absurd h List.not_mem_nil⟩⟩⟩⟩⟩⟩⟩⟩⟩⟩⟩⟩⟩⟩⟩
theorem zo_X5_init : z_Mok zTB zNT vwCl zTF zDF zP zm_X5_init := ⟨by decide +kernel, zo_X5_init_0⟩
set_option maxRecDepth 20000 in
theorem zo_X3_clear_0 : ∀ en ∈ ([(0, .aload_n 0, []), (1, .iconst 0, []), (2, .putfield 43, [3, 0]), (5, .aload_n 0, []), (6, .iconst 0, []), (7, .putfield 47, [3, 1]), (10, .aload_n 0, []), (11, .iconst 0, []), (12, .putfield 50, [3, 2]), (15, .aload_n 0, []), (16, .iconst 0, []), (17, .putfield 53, [3, 3]), (20, .aload_n 0, []), (21, .iconst 0, []), (22, .putfield 56, [3, 4]), (25, .aload_n 0, []), (26, .bipush 9, []), (28, .putfield 59, [3, 5]), (31, .aload_n 0, []), (32, .iconst 1, []), (33, .putfield 62, [3, 6]), (36, .aload_n 0, []), (37, .sipush 200, []), (40, .putfield 65, [3, 7]), (43, .aload_n 0, []), (44, .getfield 36, [3, 15]), (47, .invokevirtual 68, [1, 4, 5]), (50, .return_, [])] : List zE), z_en zTB zNT vwCl zTF zDF zP ⟨"HeldCoats$Law", "clear", "()V"⟩ prog_5_method_2_code en := List.forall_mem_cons.mpr ⟨ze_s (by decide +kernel) rfl, List.forall_mem_cons.mpr ⟨ze_s (by decide +kernel) rfl, List.forall_mem_cons.mpr ⟨ze_put (by decide +kernel) zK_3 (by decide) zw_173 (Or.inl rfl), List.forall_mem_cons.mpr ⟨ze_s (by decide +kernel) rfl, List.forall_mem_cons.mpr ⟨ze_s (by decide +kernel) rfl, List.forall_mem_cons.mpr ⟨ze_put (by decide +kernel) zK_3 (by decide) zw_179 (Or.inl rfl), List.forall_mem_cons.mpr ⟨ze_s (by decide +kernel) rfl, List.forall_mem_cons.mpr ⟨ze_s (by decide +kernel) rfl, List.forall_mem_cons.mpr ⟨ze_put (by decide +kernel) zK_3 (by decide) zw_184 (Or.inl rfl), List.forall_mem_cons.mpr ⟨ze_s (by decide +kernel) rfl, List.forall_mem_cons.mpr ⟨ze_s (by decide +kernel) rfl, List.forall_mem_cons.mpr ⟨ze_put (by decide +kernel) zK_3 (by decide) zw_189 (Or.inl rfl), List.forall_mem_cons.mpr ⟨ze_s (by decide +kernel) rfl, List.forall_mem_cons.mpr ⟨ze_s (by decide +kernel) rfl, List.forall_mem_cons.mpr ⟨ze_put (by decide +kernel) zK_3 (by decide) zw_191 (Or.inl rfl), List.forall_mem_cons.mpr ⟨ze_s (by decide +kernel) rfl, List.forall_mem_cons.mpr ⟨ze_s (by decide +kernel) rfl, List.forall_mem_cons.mpr ⟨ze_put (by decide +kernel) zK_3 (by decide) zw_194 (Or.inl rfl), List.forall_mem_cons.mpr ⟨ze_s (by decide +kernel) rfl, List.forall_mem_cons.mpr ⟨ze_s (by decide +kernel) rfl, List.forall_mem_cons.mpr ⟨ze_put (by decide +kernel) zK_3 (by decide) zw_198 (Or.inl rfl), List.forall_mem_cons.mpr ⟨ze_s (by decide +kernel) rfl, List.forall_mem_cons.mpr ⟨ze_s (by decide +kernel) rfl, List.forall_mem_cons.mpr ⟨ze_put (by decide +kernel) zK_3 (by decide) zw_202 (Or.inl rfl), List.forall_mem_cons.mpr ⟨ze_s (by decide +kernel) rfl, List.forall_mem_cons.mpr ⟨ze_get (by decide +kernel) zK_3 (by decide) zw_234, List.forall_mem_cons.mpr ⟨ze_cv (by decide +kernel) (by rfl) zY_X5_clear (Or.inl zw_169) zw_170 zw_171 rfl, List.forall_mem_cons.mpr ⟨ze_s (by decide +kernel) rfl, fun _ h => absurd h List.not_mem_nil⟩⟩⟩⟩⟩⟩⟩⟩⟩⟩⟩⟩⟩⟩⟩⟩⟩⟩⟩⟩⟩⟩⟩⟩⟩⟩⟩⟩
theorem zo_X3_clear : z_Mok zTB zNT vwCl zTF zDF zP zm_X3_clear := ⟨by decide +kernel, zo_X3_clear_0⟩
set_option maxRecDepth 20000 in
theorem zo_X5_clear_0 : ∀ en ∈ ([(0, .aload_n 0, []), (1, .iconst 0, []), (2, .putfield 22, [5, 3]), (5, .return_, [])] : List zE), z_en zTB zNT vwCl zTF zDF zP ⟨"HeldCoats$Names", "clear", "()V"⟩ prog_7_method_2_code en := List.forall_mem_cons.mpr ⟨ze_s (by decide +kernel) rfl, List.forall_mem_cons.mpr ⟨ze_s (by decide +kernel) rfl, List.forall_mem_cons.mpr ⟨ze_put (by decide +kernel) zK_5 (by decide) zw_155 (Or.inl rfl), List.forall_mem_cons.mpr ⟨ze_s (by decide +kernel) rfl, fun _ h => absurd h List.not_mem_nil⟩⟩⟩⟩
theorem zo_X5_clear : z_Mok zTB zNT vwCl zTF zDF zP zm_X5_clear := ⟨by decide +kernel, zo_X5_clear_0⟩
set_option maxRecDepth 20000 in
theorem zo_X4_init_0 : ∀ en ∈ ([(0, .aload_n 0, []), (1, .invokespecial 3, [0]), (4, .aload_n 0, []), (5, .new 9, [3, 16]), (8, .dup, []), (9, .invokespecial 11, [1, 1]), (12, .putfield 12, [4, 1]), (15, .aload_n 0, []), (16, .aload_n 1, []), (17, .putfield 18, [4, 0]), (20, .return_, [])] : List zE), z_en zTB zNT vwCl zTF zDF zP ⟨"HeldCoats$LawReader", "<init>", "(LHeldCoats$Tape;)V"⟩ prog_6_method_1_code en := List.forall_mem_cons.mpr ⟨ze_s (by decide +kernel) rfl, List.forall_mem_cons.mpr ⟨ze_oi (by decide +kernel) zw_275 zw_32 zw_33, List.forall_mem_cons.mpr ⟨ze_s (by decide +kernel) rfl, List.forall_mem_cons.mpr ⟨ze_new (by decide +kernel) zK_3 zw_276 zw_141 zw_7 zD_3 zDD_3, List.forall_mem_cons.mpr ⟨ze_s (by decide +kernel) rfl, List.forall_mem_cons.mpr ⟨ze_ci (by decide +kernel) (by rfl) zY_X3_init (Or.inl zw_277) zw_143 rfl, List.forall_mem_cons.mpr ⟨ze_put (by decide +kernel) zK_4 (by decide) zw_279 (Or.inr ⟨rfl, rfl, rfl⟩), List.forall_mem_cons.mpr ⟨ze_s (by decide +kernel) rfl, List.forall_mem_cons.mpr ⟨ze_s (by decide +kernel) rfl, List.forall_mem_cons.mpr ⟨ze_put (by decide +kernel) zK_4 (by decide) zw_278 (Or.inr ⟨rfl, rfl, rfl⟩), List.forall_mem_cons.mpr ⟨ze_s (by decide +kernel) rfl, fun _ h => absurd h List.not_mem_nil⟩⟩⟩⟩⟩⟩⟩⟩⟩⟩⟩
theorem zo_X4_init : z_Mok zTB zNT vwCl zTF zDF zP zm_X4_init := ⟨by decide +kernel, zo_X4_init_0⟩
set_option maxRecDepth 20000 in
theorem zo_X9_init_0 : ∀ en ∈ ([(0, .aload_n 0, []), (1, .invokespecial 3, [0]), (4, .aload_n 0, []), (5, .bipush 8, []), (7, .newarray .int, []), (9, .putfield 9, [9, 5]), (12, .aload_n 0, []), (13, .bipush 8, []), (15, .newarray .int, []), (17, .putfield 15, [9, 6]), (20, .aload_n 0, []), (21, .bipush 8, []), (23, .newarray .int, []), (25, .putfield 18, [9, 7]), (28, .aload_n 0, []), (29, .bipush 8, []), (31, .newarray .int, []), (33, .putfield 21, [9, 8]), (36, .aload_n 0, []), (37, .bipush 8, []), (39, .newarray .int, []), (41, .putfield 24, [9, 9]), (44, .aload_n 0, []), (45, .bipush 6, []), (47, .newarray .int, []), (49, .putfield 27, [9, 10]), (52, .aload_n 0, []), (53, .bipush 6, []), (55, .newarray .int, []), (57, .putfield 30, [9, 11])] : List zE), z_en zTB zNT vwCl zTF zDF zP ⟨"HeldCoats$State", "<init>", "(LHeldCoats$Law;)V"⟩ prog_11_method_1_code en := List.forall_mem_cons.mpr ⟨ze_s (by decide +kernel) rfl, List.forall_mem_cons.mpr ⟨ze_oi (by decide +kernel) zw_298 zw_32 zw_33, List.forall_mem_cons.mpr ⟨ze_s (by decide +kernel) rfl, List.forall_mem_cons.mpr ⟨ze_s (by decide +kernel) rfl, List.forall_mem_cons.mpr ⟨ze_newa (by decide +kernel) zw_137, List.forall_mem_cons.mpr ⟨ze_put (by decide +kernel) zK_9 (by decide) zw_313 (Or.inr ⟨rfl, rfl, rfl⟩), List.forall_mem_cons.mpr ⟨ze_s (by decide +kernel) rfl, List.forall_mem_cons.mpr ⟨ze_s (by decide +kernel) rfl, List.forall_mem_cons.mpr ⟨ze_newa (by decide +kernel) zw_137, List.forall_mem_cons.mpr ⟨ze_put (by decide +kernel) zK_9 (by decide) zw_315 (Or.inr ⟨rfl, rfl, rfl⟩), List.forall_mem_cons.mpr ⟨ze_s (by decide +kernel) rfl, List.forall_mem_cons.mpr ⟨ze_s (by decide +kernel) rfl, List.forall_mem_cons.mpr ⟨ze_newa (by decide +kernel) zw_137, List.forall_mem_cons.mpr ⟨ze_put (by decide +kernel) zK_9 (by decide) zw_317 (Or.inr ⟨rfl, rfl, rfl⟩), List.forall_mem_cons.mpr ⟨ze_s (by decide +kernel) rfl, List.forall_mem_cons.mpr ⟨ze_s (by decide +kernel) rfl, List.forall_mem_cons.mpr ⟨ze_newa (by decide +kernel) zw_137, List.forall_mem_cons.mpr ⟨ze_put (by decide +kernel) zK_9 (by decide) zw_319 (Or.inr ⟨rfl, rfl, rfl⟩), List.forall_mem_cons.mpr ⟨ze_s (by decide +kernel) rfl, List.forall_mem_cons.mpr ⟨ze_s (by decide +kernel) rfl, List.forall_mem_cons.mpr ⟨ze_newa (by decide +kernel) zw_137, List.forall_mem_cons.mpr ⟨ze_put (by decide +kernel) zK_9 (by decide) zw_320 (Or.inr ⟨rfl, rfl, rfl⟩), List.forall_mem_cons.mpr ⟨ze_s (by decide +kernel) rfl, List.forall_mem_cons.mpr ⟨ze_s (by decide +kernel) rfl, List.forall_mem_cons.mpr ⟨ze_newa (by decide +kernel) zw_137, List.forall_mem_cons.mpr ⟨ze_put (by decide +kernel) zK_9 (by decide) zw_323 (Or.inr ⟨rfl, rfl, rfl⟩), List.forall_mem_cons.mpr ⟨ze_s (by decide +kernel) rfl, List.forall_mem_cons.mpr ⟨ze_s (by decide +kernel) rfl, List.forall_mem_cons.mpr ⟨ze_newa (by decide +kernel) zw_137, List.forall_mem_cons.mpr ⟨ze_put (by decide +kernel) zK_9 (by decide) zw_325 (Or.inr ⟨rfl, rfl, rfl⟩), fun _ h => absurd h List.not_mem_nil⟩⟩⟩⟩⟩⟩⟩⟩⟩⟩⟩⟩⟩⟩⟩⟩⟩⟩⟩⟩⟩⟩⟩⟩⟩⟩⟩⟩⟩⟩
set_option maxRecDepth 20000 in
theorem zo_X9_init_1 : ∀ en ∈ ([(60, .aload_n 0, []), (61, .bipush 6, []), (63, .newarray .int, []), (65, .putfield 33, [9, 12]), (68, .aload_n 0, []), (69, .aload_n 1, []), (70, .putfield 36, [9, 0]), (73, .aload_n 0, []), (74, .iconst (-1), []), (75, .putfield 40, [9, 3]), (78, .return_, [])] : List zE), z_en zTB zNT vwCl zTF zDF zP ⟨"HeldCoats$State", "<init>", "(LHeldCoats$Law;)V"⟩ prog_11_method_1_code en := List.forall_mem_cons.mpr ⟨ze_s (by decide +kernel) rfl, List.forall_mem_cons.mpr ⟨ze_s (by decide +kernel) rfl, List.forall_mem_cons.mpr ⟨ze_newa (by decide +kernel) zw_137, List.forall_mem_cons.mpr ⟨ze_put (by decide +kernel) zK_9 (by decide) zw_327 (Or.inr ⟨rfl, rfl, rfl⟩), List.forall_mem_cons.mpr ⟨ze_s (by decide +kernel) rfl, List.forall_mem_cons.mpr ⟨ze_s (by decide +kernel) rfl, List.forall_mem_cons.mpr ⟨ze_put (by decide +kernel) zK_9 (by decide) zw_299 (Or.inr ⟨rfl, rfl, rfl⟩), List.forall_mem_cons.mpr ⟨ze_s (by decide +kernel) rfl, List.forall_mem_cons.mpr ⟨ze_s (by decide +kernel) rfl, List.forall_mem_cons.mpr ⟨ze_put (by decide +kernel) zK_9 (by decide) zw_308 (Or.inl rfl), List.forall_mem_cons.mpr ⟨ze_s (by decide +kernel) rfl, fun _ h => absurd h List.not_mem_nil⟩⟩⟩⟩⟩⟩⟩⟩⟩⟩⟩
theorem zo_X9_init : z_Mok zTB zNT vwCl zTF zDF zP zm_X9_init := ⟨by decide +kernel, List.forall_mem_append.mpr ⟨zo_X9_init_0, zo_X9_init_1⟩⟩
set_option maxRecDepth 20000 in
theorem zo_X6_init_0 : ∀ en ∈ ([(0, .aload_n 0, []), (1, .invokespecial 3, [0]), (4, .aload_n 0, []), (5, .bipush 9, []), (7, .anewarray 9, [4]), (10, .putfield 11, [6, 0]), (13, .iconst 0, []), (14, .istore_n 2, []), (15, .iload_n 2, []), (16, .bipush 8, []), (18, .if_icmp .gt 23, []), (21, .aload_n 0, []), (22, .getfield 11, [6, 0]), (25, .iload_n 2, []), (26, .new 9, [9, 13]), (29, .dup, []), (30, .aload_n 1, []), (31, .invokespecial 17, [1, 6]), (34, .aastore, []), (35, .iinc 2 1, []), (38, .goto (-23), []), (41, .return_, [])] : List zE), z_en zTB zNT vwCl zTF zDF zP ⟨"HeldCoats$Past", "<init>", "(LHeldCoats$Law;)V"⟩ prog_8_method_1_code en := List.forall_mem_cons.mpr ⟨ze_s (by decide +kernel) rfl, List.forall_mem_cons.mpr ⟨ze_oi (by decide +kernel) zw_360 zw_32 zw_33, List.forall_mem_cons.mpr ⟨ze_s (by decide +kernel) rfl, List.forall_mem_cons.mpr ⟨ze_s (by decide +kernel) rfl, List.forall_mem_cons.mpr ⟨ze_newr (by decide +kernel) zw_361 (Or.inl ⟨rfl, rfl⟩), List.forall_mem_cons.mpr ⟨ze_put (by decide +kernel) zK_6 (by decide) zw_364 (Or.inr ⟨rfl, rfl, rfl⟩), List.forall_mem_cons.mpr ⟨ze_s (by decide +kernel) rfl, List.forall_mem_cons.mpr ⟨ze_s (by decide +kernel) rfl, List.forall_mem_cons.mpr ⟨ze_s (by decide +kernel) rfl, List.forall_mem_cons.mpr ⟨ze_s (by decide +kernel) rfl, List.forall_mem_cons.mpr ⟨ze_s (by decide +kernel) rfl, List.forall_mem_cons.mpr ⟨ze_s (by decide +kernel) rfl, List.forall_mem_cons.mpr ⟨ze_get (by decide +kernel) zK_6 (by decide) zw_364, List.forall_mem_cons.mpr ⟨ze_s (by decide +kernel) rfl, List.forall_mem_cons.mpr ⟨ze_new (by decide +kernel) zK_9 zw_361 zw_294 zw_10 zD_9 zDD_9, List.forall_mem_cons.mpr ⟨ze_s (by decide +kernel) rfl, List.forall_mem_cons.mpr ⟨ze_s (by decide +kernel) rfl, List.forall_mem_cons.mpr ⟨ze_ci (by decide +kernel) (by rfl) zY_X9_init (Or.inl zw_363) zw_296 rfl, List.forall_mem_cons.mpr ⟨ze_s (by decide +kernel) rfl, List.forall_mem_cons.mpr ⟨ze_s (by decide +kernel) rfl, List.forall_mem_cons.mpr ⟨ze_s (by decide +kernel) rfl, List.forall_mem_cons.mpr ⟨ze_s (by decide +kernel) rfl, fun _ h => absurd h List.not_mem_nil⟩⟩⟩⟩⟩⟩⟩⟩⟩⟩⟩⟩⟩⟩⟩⟩⟩⟩⟩⟩⟩⟩
theorem zo_X6_init : z_Mok zTB zNT vwCl zTF zDF zP zm_X6_init := ⟨by decide +kernel, zo_X6_init_0⟩
set_option maxRecDepth 20000 in
theorem zo_X7_init_0 : ∀ en ∈ ([(0, .aload_n 0, []), (1, .invokespecial 3, [0]), (4, .aload_n 0, []), (5, .bipush 40, []), (7, .newarray .int, []), (9, .putfield 11, [7, 0]), (12, .aload_n 0, []), (13, .bipush 40, []), (15, .newarray .int, []), (17, .putfield 15, [7, 1]), (20, .aload_n 0, []), (21, .bipush 40, []), (23, .newarray .int, []), (25, .putfield 18, [7, 2]), (28, .aload_n 0, []), (29, .bipush 40, []), (31, .newarray .int, []), (33, .putfield 21, [7, 3]), (36, .return_, [])] : List zE), z_en zTB zNT vwCl zTF zDF zP ⟨"HeldCoats$Sentence", "<init>", "()V"⟩ prog_9_method_1_code en := List.forall_mem_cons.mpr ⟨ze_s (by decide +kernel) rfl, List.forall_mem_cons.mpr ⟨ze_oi (by decide +kernel) zw_380 zw_32 zw_33, List.forall_mem_cons.mpr ⟨ze_s (by decide +kernel) rfl, List.forall_mem_cons.mpr ⟨ze_s (by decide +kernel) rfl, List.forall_mem_cons.mpr ⟨ze_newa (by decide +kernel) zw_137, List.forall_mem_cons.mpr ⟨ze_put (by decide +kernel) zK_7 (by decide) zw_381 (Or.inr ⟨rfl, rfl, rfl⟩), List.forall_mem_cons.mpr ⟨ze_s (by decide +kernel) rfl, List.forall_mem_cons.mpr ⟨ze_s (by decide +kernel) rfl, List.forall_mem_cons.mpr ⟨ze_newa (by decide +kernel) zw_137, List.forall_mem_cons.mpr ⟨ze_put (by decide +kernel) zK_7 (by decide) zw_382 (Or.inr ⟨rfl, rfl, rfl⟩), List.forall_mem_cons.mpr ⟨ze_s (by decide +kernel) rfl, List.forall_mem_cons.mpr ⟨ze_s (by decide +kernel) rfl, List.forall_mem_cons.mpr ⟨ze_newa (by decide +kernel) zw_137, List.forall_mem_cons.mpr ⟨ze_put (by decide +kernel) zK_7 (by decide) zw_383 (Or.inr ⟨rfl, rfl, rfl⟩), List.forall_mem_cons.mpr ⟨ze_s (by decide +kernel) rfl, List.forall_mem_cons.mpr ⟨ze_s (by decide +kernel) rfl, List.forall_mem_cons.mpr ⟨ze_newa (by decide +kernel) zw_137, List.forall_mem_cons.mpr ⟨ze_put (by decide +kernel) zK_7 (by decide) zw_384 (Or.inr ⟨rfl, rfl, rfl⟩), List.forall_mem_cons.mpr ⟨ze_s (by decide +kernel) rfl, fun _ h => absurd h List.not_mem_nil⟩⟩⟩⟩⟩⟩⟩⟩⟩⟩⟩⟩⟩⟩⟩⟩⟩⟩⟩
theorem zo_X7_init : z_Mok zTB zNT vwCl zTF zDF zP zm_X7_init := ⟨by decide +kernel, zo_X7_init_0⟩
set_option maxRecDepth 20000 in
theorem zo_X8_init_0 : ∀ en ∈ ([(0, .aload_n 0, []), (1, .invokespecial 3, [0]), (4, .aload_n 0, []), (5, .new 9, [7, 6]), (8, .dup, []), (9, .invokespecial 11, [1, 8]), (12, .putfield 12, [8, 1]), (15, .aload_n 0, []), (16, .aload_n 1, []), (17, .putfield 18, [8, 0]), (20, .aload_n 0, []), (21, .new 22, [5, 4]), (24, .dup, []), (25, .invokespecial 24, [1, 2]), (28, .putfield 25, [8, 2]), (31, .return_, [])] : List zE), z_en zTB zNT vwCl zTF zDF zP ⟨"HeldCoats$SentenceReader", "<init>", "(LHeldCoats$Tape;)V"⟩ prog_10_method_1_code en := List.forall_mem_cons.mpr ⟨ze_s (by decide +kernel) rfl, List.forall_mem_cons.mpr ⟨ze_oi (by decide +kernel) zw_407 zw_32 zw_33, List.forall_mem_cons.mpr ⟨ze_s (by decide +kernel) rfl, List.forall_mem_cons.mpr ⟨ze_new (by decide +kernel) zK_7 zw_408 zw_376 zw_12 zD_7 zDD_7, List.forall_mem_cons.mpr ⟨ze_s (by decide +kernel) rfl, List.forall_mem_cons.mpr ⟨ze_ci (by decide +kernel) (by rfl) zY_X7_init (Or.inr ⟨"HeldCoats", by decide⟩) zw_378 rfl, List.forall_mem_cons.mpr ⟨ze_put (by decide +kernel) zK_8 (by decide) zw_413 (Or.inr ⟨rfl, rfl, rfl⟩), List.forall_mem_cons.mpr ⟨ze_s (by decide +kernel) rfl, List.forall_mem_cons.mpr ⟨ze_s (by decide +kernel) rfl, List.forall_mem_cons.mpr ⟨ze_put (by decide +kernel) zK_8 (by decide) zw_412 (Or.inr ⟨rfl, rfl, rfl⟩), List.forall_mem_cons.mpr ⟨ze_s (by decide +kernel) rfl, List.forall_mem_cons.mpr ⟨ze_new (by decide +kernel) zK_5 zw_410 zw_147 zw_8 zD_5 zDD_5, List.forall_mem_cons.mpr ⟨ze_s (by decide +kernel) rfl, List.forall_mem_cons.mpr ⟨ze_ci (by decide +kernel) (by rfl) zY_X5_init (Or.inr ⟨"HeldCoats", by decide⟩) zw_149 rfl, List.forall_mem_cons.mpr ⟨ze_put (by decide +kernel) zK_8 (by decide) zw_415 (Or.inl rfl), List.forall_mem_cons.mpr ⟨ze_s (by decide +kernel) rfl, fun _ h => absurd h List.not_mem_nil⟩⟩⟩⟩⟩⟩⟩⟩⟩⟩⟩⟩⟩⟩⟩⟩
theorem zo_X8_init : z_Mok zTB zNT vwCl zTF zDF zP zm_X8_init := ⟨by decide +kernel, zo_X8_init_0⟩
set_option maxRecDepth 20000 in
theorem zo_X0_init_0 : ∀ en ∈ ([(0, .aload_n 0, []), (1, .invokespecial 3, [0]), (4, .aload_n 0, []), (5, .bipush 40, []), (7, .newarray .int, []), (9, .putfield 9, [0, 0]), (12, .aload_n 0, []), (13, .bipush 40, []), (15, .newarray .int, []), (17, .putfield 15, [0, 1]), (20, .aload_n 0, []), (21, .bipush 40, []), (23, .newarray .int, []), (25, .putfield 18, [0, 2]), (28, .aload_n 0, []), (29, .iconst 4, []), (30, .newarray .int, []), (32, .dup, []), (33, .iconst 0, []), (34, .iconst (-1), []), (35, .iastore, []), (36, .dup, []), (37, .iconst 1, []), (38, .iconst (-1), []), (39, .iastore, []), (40, .dup, []), (41, .iconst 2, []), (42, .iconst (-1), []), (43, .iastore, []), (44, .dup, [])] : List zE), z_en zTB zNT vwCl zTF zDF zP ⟨"HeldCoats$Book", "<init>", "()V"⟩ prog_2_method_1_code en := List.forall_mem_cons.mpr ⟨ze_s (by decide +kernel) rfl, List.forall_mem_cons.mpr ⟨ze_oi (by decide +kernel) zw_428 zw_32 zw_33, List.forall_mem_cons.mpr ⟨ze_s (by decide +kernel) rfl, List.forall_mem_cons.mpr ⟨ze_s (by decide +kernel) rfl, List.forall_mem_cons.mpr ⟨ze_newa (by decide +kernel) zw_137, List.forall_mem_cons.mpr ⟨ze_put (by decide +kernel) zK_0 (by decide) zw_429 (Or.inr ⟨rfl, rfl, rfl⟩), List.forall_mem_cons.mpr ⟨ze_s (by decide +kernel) rfl, List.forall_mem_cons.mpr ⟨ze_s (by decide +kernel) rfl, List.forall_mem_cons.mpr ⟨ze_newa (by decide +kernel) zw_137, List.forall_mem_cons.mpr ⟨ze_put (by decide +kernel) zK_0 (by decide) zw_430 (Or.inr ⟨rfl, rfl, rfl⟩), List.forall_mem_cons.mpr ⟨ze_s (by decide +kernel) rfl, List.forall_mem_cons.mpr ⟨ze_s (by decide +kernel) rfl, List.forall_mem_cons.mpr ⟨ze_newa (by decide +kernel) zw_137, List.forall_mem_cons.mpr ⟨ze_put (by decide +kernel) zK_0 (by decide) zw_431 (Or.inr ⟨rfl, rfl, rfl⟩), List.forall_mem_cons.mpr ⟨ze_s (by decide +kernel) rfl, List.forall_mem_cons.mpr ⟨ze_s (by decide +kernel) rfl, List.forall_mem_cons.mpr ⟨ze_newa (by decide +kernel) zw_137, List.forall_mem_cons.mpr ⟨ze_s (by decide +kernel) rfl, List.forall_mem_cons.mpr ⟨ze_s (by decide +kernel) rfl, List.forall_mem_cons.mpr ⟨ze_s (by decide +kernel) rfl, List.forall_mem_cons.mpr ⟨ze_s (by decide +kernel) rfl, List.forall_mem_cons.mpr ⟨ze_s (by decide +kernel) rfl, List.forall_mem_cons.mpr ⟨ze_s (by decide +kernel) rfl, List.forall_mem_cons.mpr ⟨ze_s (by decide +kernel) rfl, List.forall_mem_cons.mpr ⟨ze_s (by decide +kernel) rfl, List.forall_mem_cons.mpr ⟨ze_s (by decide +kernel) rfl, List.forall_mem_cons.mpr ⟨ze_s (by decide +kernel) rfl, List.forall_mem_cons.mpr ⟨ze_s (by decide +kernel) rfl, List.forall_mem_cons.mpr ⟨ze_s (by decide +kernel) rfl, List.forall_mem_cons.mpr ⟨ze_s (by decide +kernel) rfl, fun _ h => absurd h List.not_mem_nil⟩⟩⟩⟩⟩⟩⟩⟩⟩⟩⟩⟩⟩⟩⟩⟩⟩⟩⟩⟩⟩⟩⟩⟩⟩⟩⟩⟩⟩⟩
set_option maxRecDepth 20000 in
theorem zo_X0_init_1 : ∀ en ∈ ([(45, .iconst 3, []), (46, .iconst (-1), []), (47, .iastore, []), (48, .putfield 21, [0, 3]), (51, .return_, [])] : List zE), z_en zTB zNT vwCl zTF zDF zP ⟨"HeldCoats$Book", "<init>", "()V"⟩ prog_2_method_1_code en := List.forall_mem_cons.mpr ⟨ze_s (by decide +kernel) rfl, List.forall_mem_cons.mpr ⟨ze_s (by decide +kernel) rfl, List.forall_mem_cons.mpr ⟨ze_s (by decide +kernel) rfl, List.forall_mem_cons.mpr ⟨ze_put (by decide +kernel) zK_0 (by decide) zw_432 (Or.inr ⟨rfl, rfl, rfl⟩), List.forall_mem_cons.mpr ⟨ze_s (by decide +kernel) rfl, fun _ h => absurd h List.not_mem_nil⟩⟩⟩⟩⟩
theorem zo_X0_init : z_Mok zTB zNT vwCl zTF zDF zP zm_X0_init := ⟨by decide +kernel, List.forall_mem_append.mpr ⟨zo_X0_init_0, zo_X0_init_1⟩⟩
set_option maxRecDepth 20000 in
theorem zo_X1_init_0 : ∀ en ∈ ([(0, .aload_n 0, []), (1, .invokespecial 3, [0]), (4, .aload_n 0, []), (5, .bipush 9, []), (7, .newarray .int, []), (9, .putfield 9, [1, 3]), (12, .aload_n 0, []), (13, .bipush 6, []), (15, .newarray .int, []), (17, .putfield 15, [1, 4]), (20, .aload_n 0, []), (21, .bipush 6, []), (23, .newarray .int, []), (25, .putfield 18, [1, 5]), (28, .aload_n 0, []), (29, .iconst (-1), []), (30, .putfield 21, [1, 6]), (33, .aload_n 0, []), (34, .iconst (-1), []), (35, .putfield 25, [1, 7]), (38, .aload_n 0, []), (39, .iconst (-1), []), (40, .putfield 28, [1, 8]), (43, .aload_n 0, []), (44, .iconst (-1), []), (45, .putfield 31, [1, 9]), (48, .aload_n 0, []), (49, .iconst (-1), []), (50, .putfield 34, [1, 10]), (53, .aload_n 0, [])] : List zE), z_en zTB zNT vwCl zTF zDF zP ⟨"HeldCoats$Counsel", "<init>", "(LHeldCoats$Law;LHeldCoats$State;)V"⟩ prog_3_method_1_code en := List.forall_mem_cons.mpr ⟨ze_s (by decide +kernel) rfl, List.forall_mem_cons.mpr ⟨ze_oi (by decide +kernel) zw_451 zw_32 zw_33, List.forall_mem_cons.mpr ⟨ze_s (by decide +kernel) rfl, List.forall_mem_cons.mpr ⟨ze_s (by decide +kernel) rfl, List.forall_mem_cons.mpr ⟨ze_newa (by decide +kernel) zw_137, List.forall_mem_cons.mpr ⟨ze_put (by decide +kernel) zK_1 (by decide) zw_457 (Or.inr ⟨rfl, rfl, rfl⟩), List.forall_mem_cons.mpr ⟨ze_s (by decide +kernel) rfl, List.forall_mem_cons.mpr ⟨ze_s (by decide +kernel) rfl, List.forall_mem_cons.mpr ⟨ze_newa (by decide +kernel) zw_137, List.forall_mem_cons.mpr ⟨ze_put (by decide +kernel) zK_1 (by decide) zw_458 (Or.inr ⟨rfl, rfl, rfl⟩), List.forall_mem_cons.mpr ⟨ze_s (by decide +kernel) rfl, List.forall_mem_cons.mpr ⟨ze_s (by decide +kernel) rfl, List.forall_mem_cons.mpr ⟨ze_newa (by decide +kernel) zw_137, List.forall_mem_cons.mpr ⟨ze_put (by decide +kernel) zK_1 (by decide) zw_459 (Or.inr ⟨rfl, rfl, rfl⟩), List.forall_mem_cons.mpr ⟨ze_s (by decide +kernel) rfl, List.forall_mem_cons.mpr ⟨ze_s (by decide +kernel) rfl, List.forall_mem_cons.mpr ⟨ze_put (by decide +kernel) zK_1 (by decide) zw_460 (Or.inl rfl), List.forall_mem_cons.mpr ⟨ze_s (by decide +kernel) rfl, List.forall_mem_cons.mpr ⟨ze_s (by decide +kernel) rfl, List.forall_mem_cons.mpr ⟨ze_put (by decide +kernel) zK_1 (by decide) zw_462 (Or.inl rfl), List.forall_mem_cons.mpr ⟨ze_s (by decide +kernel) rfl, List.forall_mem_cons.mpr ⟨ze_s (by decide +kernel) rfl, List.forall_mem_cons.mpr ⟨ze_put (by decide +kernel) zK_1 (by decide) zw_464 (Or.inl rfl), List.forall_mem_cons.mpr ⟨ze_s (by decide +kernel) rfl, List.forall_mem_cons.mpr ⟨ze_s (by decide +kernel) rfl, List.forall_mem_cons.mpr ⟨ze_put (by decide +kernel) zK_1 (by decide) zw_466 (Or.inl rfl), List.forall_mem_cons.mpr ⟨ze_s (by decide +kernel) rfl, List.forall_mem_cons.mpr ⟨ze_s (by decide +kernel) rfl, List.forall_mem_cons.mpr ⟨ze_put (by decide +kernel) zK_1 (by decide) zw_468 (Or.inl rfl), List.forall_mem_cons.mpr ⟨ze_s (by decide +kernel) rfl, fun _ h => absurd h List.not_mem_nil⟩⟩⟩⟩⟩⟩⟩⟩⟩⟩⟩⟩⟩⟩⟩⟩⟩⟩⟩⟩⟩⟩⟩⟩⟩⟩⟩⟩⟩⟩
set_option maxRecDepth 20000 in
theorem zo_X1_init_1 : ∀ en ∈ ([(54, .aload_n 1, []), (55, .putfield 37, [1, 0]), (58, .aload_n 0, []), (59, .aload_n 2, []), (60, .putfield 41, [1, 1]), (63, .aload_n 0, []), (64, .new 45, [9, 13]), (67, .dup, []), (68, .aload_n 1, []), (69, .invokespecial 47, [1, 6]), (72, .putfield 50, [1, 2]), (75, .return_, [])] : List zE), z_en zTB zNT vwCl zTF zDF zP ⟨"HeldCoats$Counsel", "<init>", "(LHeldCoats$Law;LHeldCoats$State;)V"⟩ prog_3_method_1_code en := List.forall_mem_cons.mpr ⟨ze_s (by decide +kernel) rfl, List.forall_mem_cons.mpr ⟨ze_put (by decide +kernel) zK_1 (by decide) zw_454 (Or.inr ⟨rfl, rfl, rfl⟩), List.forall_mem_cons.mpr ⟨ze_s (by decide +kernel) rfl, List.forall_mem_cons.mpr ⟨ze_s (by decide +kernel) rfl, List.forall_mem_cons.mpr ⟨ze_put (by decide +kernel) zK_1 (by decide) zw_455 (Or.inr ⟨rfl, rfl, rfl⟩), List.forall_mem_cons.mpr ⟨ze_s (by decide +kernel) rfl, List.forall_mem_cons.mpr ⟨ze_new (by decide +kernel) zK_9 zw_452 zw_294 zw_10 zD_9 zDD_9, List.forall_mem_cons.mpr ⟨ze_s (by decide +kernel) rfl, List.forall_mem_cons.mpr ⟨ze_s (by decide +kernel) rfl, List.forall_mem_cons.mpr ⟨ze_ci (by decide +kernel) (by rfl) zY_X9_init (Or.inl zw_453) zw_296 rfl, List.forall_mem_cons.mpr ⟨ze_put (by decide +kernel) zK_1 (by decide) zw_456 (Or.inr ⟨rfl, rfl, rfl⟩), List.forall_mem_cons.mpr ⟨ze_s (by decide +kernel) rfl, fun _ h => absurd h List.not_mem_nil⟩⟩⟩⟩⟩⟩⟩⟩⟩⟩⟩⟩
theorem zo_X1_init : z_Mok zTB zNT vwCl zTF zDF zP zm_X1_init := ⟨by decide +kernel, List.forall_mem_append.mpr ⟨zo_X1_init_0, zo_X1_init_1⟩⟩
set_option maxRecDepth 20000 in
theorem zo_X2_init_0 : ∀ en ∈ ([(0, .aload_n 0, []), (1, .invokespecial 1, [0]), (4, .aload_n 0, []), (5, .new 7, [3, 16]), (8, .dup, []), (9, .invokespecial 9, [1, 1]), (12, .putfield 10, [2, 0]), (15, .aload_n 0, []), (16, .new 16, [9, 13]), (19, .dup, []), (20, .aload_n 0, []), (21, .getfield 10, [2, 0]), (24, .invokespecial 18, [1, 6]), (27, .putfield 21, [2, 1]), (30, .aload_n 0, []), (31, .new 25, [7, 6]), (34, .dup, []), (35, .invokespecial 27, [1, 8]), (38, .putfield 28, [2, 2]), (41, .return_, [])] : List zE), z_en zTB zNT vwCl zTF zDF zP ⟨"HeldCoats$Image", "<init>", "()V"⟩ prog_4_method_1_code en := List.forall_mem_cons.mpr ⟨ze_s (by decide +kernel) rfl, List.forall_mem_cons.mpr ⟨ze_oi (by decide +kernel) zw_510 zw_32 zw_33, List.forall_mem_cons.mpr ⟨ze_s (by decide +kernel) rfl, List.forall_mem_cons.mpr ⟨ze_new (by decide +kernel) zK_3 zw_511 zw_141 zw_7 zD_3 zDD_3, List.forall_mem_cons.mpr ⟨ze_s (by decide +kernel) rfl, List.forall_mem_cons.mpr ⟨ze_ci (by decide +kernel) (by rfl) zY_X3_init (Or.inl zw_512) zw_143 rfl, List.forall_mem_cons.mpr ⟨ze_put (by decide +kernel) zK_2 (by decide) zw_517 (Or.inr ⟨rfl, rfl, rfl⟩), List.forall_mem_cons.mpr ⟨ze_s (by decide +kernel) rfl, List.forall_mem_cons.mpr ⟨ze_new (by decide +kernel) zK_9 zw_513 zw_294 zw_10 zD_9 zDD_9, List.forall_mem_cons.mpr ⟨ze_s (by decide +kernel) rfl, List.forall_mem_cons.mpr ⟨ze_s (by decide +kernel) rfl, List.forall_mem_cons.mpr ⟨ze_get (by decide +kernel) zK_2 (by decide) zw_517, List.forall_mem_cons.mpr ⟨ze_ci (by decide +kernel) (by rfl) zY_X9_init (Or.inl zw_514) zw_296 rfl, List.forall_mem_cons.mpr ⟨ze_put (by decide +kernel) zK_2 (by decide) zw_518 (Or.inr ⟨rfl, rfl, rfl⟩), List.forall_mem_cons.mpr ⟨ze_s (by decide +kernel) rfl, List.forall_mem_cons.mpr ⟨ze_new (by decide +kernel) zK_7 zw_515 zw_376 zw_12 zD_7 zDD_7, List.forall_mem_cons.mpr ⟨ze_s (by decide +kernel) rfl, List.forall_mem_cons.mpr ⟨ze_ci (by decide +kernel) (by rfl) zY_X7_init (Or.inr ⟨"HeldCoats", by decide⟩) zw_378 rfl, List.forall_mem_cons.mpr ⟨ze_put (by decide +kernel) zK_2 (by decide) zw_519 (Or.inr ⟨rfl, rfl, rfl⟩), List.forall_mem_cons.mpr ⟨ze_s (by decide +kernel) rfl, fun _ h => absurd h List.not_mem_nil⟩⟩⟩⟩⟩⟩⟩⟩⟩⟩⟩⟩⟩⟩⟩⟩⟩⟩⟩⟩
theorem zo_X2_init : z_Mok zTB zNT vwCl zTF zDF zP zm_X2_init := ⟨by decide +kernel, zo_X2_init_0⟩
set_option maxRecDepth 20000 in
theorem zo_X12_init_0 : ∀ en ∈ ([(0, .aload_n 0, []), (1, .invokespecial 27, [0]), (4, .aload_n 0, []), (5, .sipush 940, []), (8, .newarray .byte, []), (10, .putfield 14, [12, 1]), (13, .aload_n 0, []), (14, .sipush 299, []), (17, .newarray .int, []), (19, .putfield 33, [12, 6]), (22, .aload_n 0, []), (23, .bipush 62, []), (25, .newarray .int, []), (27, .putfield 37, [12, 7]), (30, .aload_n 0, []), (31, .sipush 135, []), (34, .newarray .int, []), (36, .putfield 40, [12, 8]), (39, .aload_n 0, []), (40, .bipush 44, []), (42, .newarray .long, []), (44, .putfield 43, [12, 9]), (47, .aload_n 0, []), (48, .bipush 24, []), (50, .newarray .long, []), (52, .putfield 47, [12, 10]), (55, .aload_n 0, []), (56, .sipush 448, []), (59, .newarray .int, []), (61, .putfield 50, [12, 21])] : List zE), z_en zTB zNT vwCl zTF zDF zP ⟨"HeldCoatsModel", "<init>", "()V"⟩ prog_14_method_12_code en := List.forall_mem_cons.mpr ⟨ze_s (by decide +kernel) rfl, List.forall_mem_cons.mpr ⟨ze_oi (by decide +kernel) zw_1370 zw_32 zw_33, List.forall_mem_cons.mpr ⟨ze_s (by decide +kernel) rfl, List.forall_mem_cons.mpr ⟨ze_s (by decide +kernel) rfl, List.forall_mem_cons.mpr ⟨ze_newa (by decide +kernel) zw_139, List.forall_mem_cons.mpr ⟨ze_put (by decide +kernel) zK_12 (by decide) zw_1400 (Or.inr ⟨rfl, rfl, rfl⟩), List.forall_mem_cons.mpr ⟨ze_s (by decide +kernel) rfl, List.forall_mem_cons.mpr ⟨ze_s (by decide +kernel) rfl, List.forall_mem_cons.mpr ⟨ze_newa (by decide +kernel) zw_137, List.forall_mem_cons.mpr ⟨ze_put (by decide +kernel) zK_12 (by decide) zw_1405 (Or.inr ⟨rfl, rfl, rfl⟩), List.forall_mem_cons.mpr ⟨ze_s (by decide +kernel) rfl, List.forall_mem_cons.mpr ⟨ze_s (by decide +kernel) rfl, List.forall_mem_cons.mpr ⟨ze_newa (by decide +kernel) zw_137, List.forall_mem_cons.mpr ⟨ze_put (by decide +kernel) zK_12 (by decide) zw_1406 (Or.inr ⟨rfl, rfl, rfl⟩), List.forall_mem_cons.mpr ⟨ze_s (by decide +kernel) rfl, List.forall_mem_cons.mpr ⟨ze_s (by decide +kernel) rfl, List.forall_mem_cons.mpr ⟨ze_newa (by decide +kernel) zw_137, List.forall_mem_cons.mpr ⟨ze_put (by decide +kernel) zK_12 (by decide) zw_1407 (Or.inr ⟨rfl, rfl, rfl⟩), List.forall_mem_cons.mpr ⟨ze_s (by decide +kernel) rfl, List.forall_mem_cons.mpr ⟨ze_s (by decide +kernel) rfl, List.forall_mem_cons.mpr ⟨ze_newa (by decide +kernel) zw_138, List.forall_mem_cons.mpr ⟨ze_put (by decide +kernel) zK_12 (by decide) zw_1408 (Or.inr ⟨rfl, rfl, rfl⟩), List.forall_mem_cons.mpr ⟨ze_s (by decide +kernel) rfl, List.forall_mem_cons.mpr ⟨ze_s (by decide +kernel) rfl, List.forall_mem_cons.mpr ⟨ze_newa (by decide +kernel) zw_138, List.forall_mem_cons.mpr ⟨ze_put (by decide +kernel) zK_12 (by decide) zw_1409 (Or.inr ⟨rfl, rfl, rfl⟩), List.forall_mem_cons.mpr ⟨ze_s (by decide +kernel) rfl, List.forall_mem_cons.mpr ⟨ze_s (by decide +kernel) rfl, List.forall_mem_cons.mpr ⟨ze_newa (by decide +kernel) zw_137, List.forall_mem_cons.mpr ⟨ze_put (by decide +kernel) zK_12 (by decide) zw_1420 (Or.inr ⟨rfl, rfl, rfl⟩), fun _ h => absurd h List.not_mem_nil⟩⟩⟩⟩⟩⟩⟩⟩⟩⟩⟩⟩⟩⟩⟩⟩⟩⟩⟩⟩⟩⟩⟩⟩⟩⟩⟩⟩⟩⟩
set_option maxRecDepth 20000 in
theorem zo_X12_init_1 : ∀ en ∈ ([(64, .aload_n 0, []), (65, .bipush 56, []), (67, .newarray .int, []), (69, .putfield 53, [12, 22]), (72, .aload_n 0, []), (73, .bipush 6, []), (75, .newarray .int, []), (77, .putfield 56, [12, 32]), (80, .aload_n 0, []), (81, .iconst 4, []), (82, .newarray .int, []), (84, .putfield 59, [12, 37]), (87, .aload_n 0, []), (88, .bipush 45, []), (90, .newarray .int, []), (92, .putfield 62, [12, 39]), (95, .aload_n 0, []), (96, .bipush 45, []), (98, .newarray .boolean, []), (100, .putfield 65, [12, 45]), (103, .aload_n 0, []), (104, .sipush 598, []), (107, .newarray .int, []), (109, .putfield 69, [12, 46]), (112, .aload_n 0, []), (113, .bipush 44, []), (115, .newarray .long, []), (117, .putfield 72, [12, 47]), (120, .aload_n 0, []), (121, .iconst 2, [])] : List zE), z_en zTB zNT vwCl zTF zDF zP ⟨"HeldCoatsModel", "<init>", "()V"⟩ prog_14_method_12_code en := List.forall_mem_cons.mpr ⟨ze_s (by decide +kernel) rfl, List.forall_mem_cons.mpr ⟨ze_s (by decide +kernel) rfl, List.forall_mem_cons.mpr ⟨ze_newa (by decide +kernel) zw_137, List.forall_mem_cons.mpr ⟨ze_put (by decide +kernel) zK_12 (by decide) zw_1421 (Or.inr ⟨rfl, rfl, rfl⟩), List.forall_mem_cons.mpr ⟨ze_s (by decide +kernel) rfl, List.forall_mem_cons.mpr ⟨ze_s (by decide +kernel) rfl, List.forall_mem_cons.mpr ⟨ze_newa (by decide +kernel) zw_137, List.forall_mem_cons.mpr ⟨ze_put (by decide +kernel) zK_12 (by decide) zw_1431 (Or.inr ⟨rfl, rfl, rfl⟩), List.forall_mem_cons.mpr ⟨ze_s (by decide +kernel) rfl, List.forall_mem_cons.mpr ⟨ze_s (by decide +kernel) rfl, List.forall_mem_cons.mpr ⟨ze_newa (by decide +kernel) zw_137, List.forall_mem_cons.mpr ⟨ze_put (by decide +kernel) zK_12 (by decide) zw_1436 (Or.inr ⟨rfl, rfl, rfl⟩), List.forall_mem_cons.mpr ⟨ze_s (by decide +kernel) rfl, List.forall_mem_cons.mpr ⟨ze_s (by decide +kernel) rfl, List.forall_mem_cons.mpr ⟨ze_newa (by decide +kernel) zw_137, List.forall_mem_cons.mpr ⟨ze_put (by decide +kernel) zK_12 (by decide) zw_1438 (Or.inr ⟨rfl, rfl, rfl⟩), List.forall_mem_cons.mpr ⟨ze_s (by decide +kernel) rfl, List.forall_mem_cons.mpr ⟨ze_s (by decide +kernel) rfl, List.forall_mem_cons.mpr ⟨ze_newa (by decide +kernel) zw_1547, List.forall_mem_cons.mpr ⟨ze_put (by decide +kernel) zK_12 (by decide) zw_1444 (Or.inr ⟨rfl, rfl, rfl⟩), List.forall_mem_cons.mpr ⟨ze_s (by decide +kernel) rfl, List.forall_mem_cons.mpr ⟨ze_s (by decide +kernel) rfl, List.forall_mem_cons.mpr ⟨ze_newa (by decide +kernel) zw_137, List.forall_mem_cons.mpr ⟨ze_put (by decide +kernel) zK_12 (by decide) zw_1445 (Or.inr ⟨rfl, rfl, rfl⟩), List.forall_mem_cons.mpr ⟨ze_s (by decide +kernel) rfl, List.forall_mem_cons.mpr ⟨ze_s (by decide +kernel) rfl, List.forall_mem_cons.mpr ⟨ze_newa (by decide +kernel) zw_138, List.forall_mem_cons.mpr ⟨ze_put (by decide +kernel) zK_12 (by decide) zw_1446 (Or.inr ⟨rfl, rfl, rfl⟩), List.forall_mem_cons.mpr ⟨ze_s (by decide +kernel) rfl, List.forall_mem_cons.mpr ⟨ze_s (by decide +kernel) rfl, fun _ h => absurd h List.not_mem_nil⟩⟩⟩⟩⟩⟩⟩⟩⟩⟩⟩⟩⟩⟩⟩⟩⟩⟩⟩⟩⟩⟩⟩⟩⟩⟩⟩⟩⟩⟩
set_option maxRecDepth 20000 in
theorem zo_X12_init_2 : ∀ en ∈ ([(122, .newarray .boolean, []), (124, .putfield 75, [12, 48]), (127, .aload_n 0, []), (128, .getfield 47, [12, 10]), (131, .iconst 0, []), (132, .ldc2_w 78, []), (135, .lastore, []), (136, .aload_n 0, []), (137, .getfield 47, [12, 10]), (140, .iconst 1, []), (141, .ldc2_w 80, []), (144, .lastore, []), (145, .aload_n 0, []), (146, .getfield 47, [12, 10]), (149, .iconst 2, []), (150, .ldc2_w 82, []), (153, .lastore, []), (154, .aload_n 0, []), (155, .getfield 47, [12, 10]), (158, .iconst 3, []), (159, .ldc2_w 84, []), (162, .lastore, []), (163, .aload_n 0, []), (164, .getfield 47, [12, 10]), (167, .iconst 4, []), (168, .ldc2_w 86, []), (171, .lastore, []), (172, .aload_n 0, []), (173, .getfield 47, [12, 10]), (176, .iconst 5, [])] : List zE), z_en zTB zNT vwCl zTF zDF zP ⟨"HeldCoatsModel", "<init>", "()V"⟩ prog_14_method_12_code en := List.forall_mem_cons.mpr ⟨ze_newa (by decide +kernel) zw_1547, List.forall_mem_cons.mpr ⟨ze_put (by decide +kernel) zK_12 (by decide) zw_1447 (Or.inr ⟨rfl, rfl, rfl⟩), List.forall_mem_cons.mpr ⟨ze_s (by decide +kernel) rfl, List.forall_mem_cons.mpr ⟨ze_get (by decide +kernel) zK_12 (by decide) zw_1409, List.forall_mem_cons.mpr ⟨ze_s (by decide +kernel) rfl, List.forall_mem_cons.mpr ⟨ze_ldc2 (by decide +kernel) zw_1371, List.forall_mem_cons.mpr ⟨ze_s (by decide +kernel) rfl, List.forall_mem_cons.mpr ⟨ze_s (by decide +kernel) rfl, List.forall_mem_cons.mpr ⟨ze_get (by decide +kernel) zK_12 (by decide) zw_1409, List.forall_mem_cons.mpr ⟨ze_s (by decide +kernel) rfl, List.forall_mem_cons.mpr ⟨ze_ldc2 (by decide +kernel) zw_1372, List.forall_mem_cons.mpr ⟨ze_s (by decide +kernel) rfl, List.forall_mem_cons.mpr ⟨ze_s (by decide +kernel) rfl, List.forall_mem_cons.mpr ⟨ze_get (by decide +kernel) zK_12 (by decide) zw_1409, List.forall_mem_cons.mpr ⟨ze_s (by decide +kernel) rfl, List.forall_mem_cons.mpr ⟨ze_ldc2 (by decide +kernel) zw_1373, List.forall_mem_cons.mpr ⟨ze_s (by decide +kernel) rfl, List.forall_mem_cons.mpr ⟨ze_s (by decide +kernel) rfl, List.forall_mem_cons.mpr ⟨ze_get (by decide +kernel) zK_12 (by decide) zw_1409, List.forall_mem_cons.mpr ⟨ze_s (by decide +kernel) rfl, List.forall_mem_cons.mpr ⟨ze_ldc2 (by decide +kernel) zw_1374, List.forall_mem_cons.mpr ⟨ze_s (by decide +kernel) rfl, List.forall_mem_cons.mpr ⟨ze_s (by decide +kernel) rfl, List.forall_mem_cons.mpr ⟨ze_get (by decide +kernel) zK_12 (by decide) zw_1409, List.forall_mem_cons.mpr ⟨ze_s (by decide +kernel) rfl, List.forall_mem_cons.mpr ⟨ze_ldc2 (by decide +kernel) zw_1375, List.forall_mem_cons.mpr ⟨ze_s (by decide +kernel) rfl, List.forall_mem_cons.mpr ⟨ze_s (by decide +kernel) rfl, List.forall_mem_cons.mpr ⟨ze_get (by decide +kernel) zK_12 (by decide) zw_1409, List.forall_mem_cons.mpr ⟨ze_s (by decide +kernel) rfl, fun _ h => absurd h List.not_mem_nil⟩⟩⟩⟩⟩⟩⟩⟩⟩⟩⟩⟩⟩⟩⟩⟩⟩⟩⟩⟩⟩⟩⟩⟩⟩⟩⟩⟩⟩⟩
set_option maxRecDepth 20000 in
theorem zo_X12_init_3 : ∀ en ∈ ([(177, .ldc2_w 88, []), (180, .lastore, []), (181, .aload_n 0, []), (182, .getfield 47, [12, 10]), (185, .bipush 6, []), (187, .ldc2_w 90, []), (190, .lastore, []), (191, .aload_n 0, []), (192, .getfield 47, [12, 10]), (195, .bipush 7, []), (197, .ldc2_w 92, []), (200, .lastore, []), (201, .aload_n 0, []), (202, .getfield 47, [12, 10]), (205, .bipush 8, []), (207, .ldc2_w 94, []), (210, .lastore, []), (211, .aload_n 0, []), (212, .getfield 47, [12, 10]), (215, .bipush 9, []), (217, .ldc2_w 96, []), (220, .lastore, []), (221, .aload_n 0, []), (222, .getfield 47, [12, 10]), (225, .bipush 10, []), (227, .ldc2_w 98, []), (230, .lastore, []), (231, .aload_n 0, []), (232, .getfield 47, [12, 10]), (235, .bipush 11, [])] : List zE), z_en zTB zNT vwCl zTF zDF zP ⟨"HeldCoatsModel", "<init>", "()V"⟩ prog_14_method_12_code en := List.forall_mem_cons.mpr ⟨ze_ldc2 (by decide +kernel) zw_1376, List.forall_mem_cons.mpr ⟨ze_s (by decide +kernel) rfl, List.forall_mem_cons.mpr ⟨ze_s (by decide +kernel) rfl, List.forall_mem_cons.mpr ⟨ze_get (by decide +kernel) zK_12 (by decide) zw_1409, List.forall_mem_cons.mpr ⟨ze_s (by decide +kernel) rfl, List.forall_mem_cons.mpr ⟨ze_ldc2 (by decide +kernel) zw_1377, List.forall_mem_cons.mpr ⟨ze_s (by decide +kernel) rfl, List.forall_mem_cons.mpr ⟨ze_s (by decide +kernel) rfl, List.forall_mem_cons.mpr ⟨ze_get (by decide +kernel) zK_12 (by decide) zw_1409, List.forall_mem_cons.mpr ⟨ze_s (by decide +kernel) rfl, List.forall_mem_cons.mpr ⟨ze_ldc2 (by decide +kernel) zw_1378, List.forall_mem_cons.mpr ⟨ze_s (by decide +kernel) rfl, List.forall_mem_cons.mpr ⟨ze_s (by decide +kernel) rfl, List.forall_mem_cons.mpr ⟨ze_get (by decide +kernel) zK_12 (by decide) zw_1409, List.forall_mem_cons.mpr ⟨ze_s (by decide +kernel) rfl, List.forall_mem_cons.mpr ⟨ze_ldc2 (by decide +kernel) zw_1379, List.forall_mem_cons.mpr ⟨ze_s (by decide +kernel) rfl, List.forall_mem_cons.mpr ⟨ze_s (by decide +kernel) rfl, List.forall_mem_cons.mpr ⟨ze_get (by decide +kernel) zK_12 (by decide) zw_1409, List.forall_mem_cons.mpr ⟨ze_s (by decide +kernel) rfl, List.forall_mem_cons.mpr ⟨ze_ldc2 (by decide +kernel) zw_1380, List.forall_mem_cons.mpr ⟨ze_s (by decide +kernel) rfl, List.forall_mem_cons.mpr ⟨ze_s (by decide +kernel) rfl, List.forall_mem_cons.mpr ⟨ze_get (by decide +kernel) zK_12 (by decide) zw_1409, List.forall_mem_cons.mpr ⟨ze_s (by decide +kernel) rfl, List.forall_mem_cons.mpr ⟨ze_ldc2 (by decide +kernel) zw_1381, List.forall_mem_cons.mpr ⟨ze_s (by decide +kernel) rfl, List.forall_mem_cons.mpr ⟨ze_s (by decide +kernel) rfl, List.forall_mem_cons.mpr ⟨ze_get (by decide +kernel) zK_12 (by decide) zw_1409, List.forall_mem_cons.mpr ⟨ze_s (by decide +kernel) rfl, fun _ h => absurd h List.not_mem_nil⟩⟩⟩⟩⟩⟩⟩⟩⟩⟩⟩⟩⟩⟩⟩⟩⟩⟩⟩⟩⟩⟩⟩⟩⟩⟩⟩⟩⟩⟩
set_option maxRecDepth 20000 in
theorem zo_X12_init_4 : ∀ en ∈ ([(237, .ldc2_w 100, []), (240, .lastore, []), (241, .aload_n 0, []), (242, .getfield 47, [12, 10]), (245, .bipush 12, []), (247, .ldc2_w 102, []), (250, .lastore, []), (251, .aload_n 0, []), (252, .getfield 47, [12, 10]), (255, .bipush 13, []), (257, .ldc2_w 104, []), (260, .lastore, []), (261, .aload_n 0, []), (262, .getfield 47, [12, 10]), (265, .bipush 14, []), (267, .ldc2_w 106, []), (270, .lastore, []), (271, .aload_n 0, []), (272, .getfield 47, [12, 10]), (275, .bipush 15, []), (277, .ldc2_w 108, []), (280, .lastore, []), (281, .aload_n 0, []), (282, .getfield 47, [12, 10]), (285, .bipush 16, []), (287, .ldc2_w 110, []), (290, .lastore, []), (291, .aload_n 0, []), (292, .getfield 47, [12, 10]), (295, .bipush 17, [])] : List zE), z_en zTB zNT vwCl zTF zDF zP ⟨"HeldCoatsModel", "<init>", "()V"⟩ prog_14_method_12_code en := List.forall_mem_cons.mpr ⟨ze_ldc2 (by decide +kernel) zw_1382, List.forall_mem_cons.mpr ⟨ze_s (by decide +kernel) rfl, List.forall_mem_cons.mpr ⟨ze_s (by decide +kernel) rfl, List.forall_mem_cons.mpr ⟨ze_get (by decide +kernel) zK_12 (by decide) zw_1409, List.forall_mem_cons.mpr ⟨ze_s (by decide +kernel) rfl, List.forall_mem_cons.mpr ⟨ze_ldc2 (by decide +kernel) zw_1383, List.forall_mem_cons.mpr ⟨ze_s (by decide +kernel) rfl, List.forall_mem_cons.mpr ⟨ze_s (by decide +kernel) rfl, List.forall_mem_cons.mpr ⟨ze_get (by decide +kernel) zK_12 (by decide) zw_1409, List.forall_mem_cons.mpr ⟨ze_s (by decide +kernel) rfl, List.forall_mem_cons.mpr ⟨ze_ldc2 (by decide +kernel) zw_1384, List.forall_mem_cons.mpr ⟨ze_s (by decide +kernel) rfl, List.forall_mem_cons.mpr ⟨ze_s (by decide +kernel) rfl, List.forall_mem_cons.mpr ⟨ze_get (by decide +kernel) zK_12 (by decide) zw_1409, List.forall_mem_cons.mpr ⟨ze_s (by decide +kernel) rfl, List.forall_mem_cons.mpr ⟨ze_ldc2 (by decide +kernel) zw_1385, List.forall_mem_cons.mpr ⟨ze_s (by decide +kernel) rfl, List.forall_mem_cons.mpr ⟨ze_s (by decide +kernel) rfl, List.forall_mem_cons.mpr ⟨ze_get (by decide +kernel) zK_12 (by decide) zw_1409, List.forall_mem_cons.mpr ⟨ze_s (by decide +kernel) rfl, List.forall_mem_cons.mpr ⟨ze_ldc2 (by decide +kernel) zw_1386, List.forall_mem_cons.mpr ⟨ze_s (by decide +kernel) rfl, List.forall_mem_cons.mpr ⟨ze_s (by decide +kernel) rfl, List.forall_mem_cons.mpr ⟨ze_get (by decide +kernel) zK_12 (by decide) zw_1409, List.forall_mem_cons.mpr ⟨ze_s (by decide +kernel) rfl, List.forall_mem_cons.mpr ⟨ze_ldc2 (by decide +kernel) zw_1387, List.forall_mem_cons.mpr ⟨ze_s (by decide +kernel) rfl, List.forall_mem_cons.mpr ⟨ze_s (by decide +kernel) rfl, List.forall_mem_cons.mpr ⟨ze_get (by decide +kernel) zK_12 (by decide) zw_1409, List.forall_mem_cons.mpr ⟨ze_s (by decide +kernel) rfl, fun _ h => absurd h List.not_mem_nil⟩⟩⟩⟩⟩⟩⟩⟩⟩⟩⟩⟩⟩⟩⟩⟩⟩⟩⟩⟩⟩⟩⟩⟩⟩⟩⟩⟩⟩⟩
set_option maxRecDepth 20000 in
theorem zo_X12_init_5 : ∀ en ∈ ([(297, .ldc2_w 112, []), (300, .lastore, []), (301, .aload_n 0, []), (302, .getfield 47, [12, 10]), (305, .bipush 18, []), (307, .ldc2_w 114, []), (310, .lastore, []), (311, .aload_n 0, []), (312, .getfield 47, [12, 10]), (315, .bipush 19, []), (317, .ldc2_w 116, []), (320, .lastore, []), (321, .aload_n 0, []), (322, .getfield 47, [12, 10]), (325, .bipush 20, []), (327, .ldc2_w 118, []), (330, .lastore, []), (331, .aload_n 0, []), (332, .getfield 47, [12, 10]), (335, .bipush 21, []), (337, .ldc2_w 120, []), (340, .lastore, []), (341, .aload_n 0, []), (342, .getfield 47, [12, 10]), (345, .bipush 22, []), (347, .ldc2_w 122, []), (350, .lastore, []), (351, .aload_n 0, []), (352, .getfield 47, [12, 10]), (355, .bipush 23, [])] : List zE), z_en zTB zNT vwCl zTF zDF zP ⟨"HeldCoatsModel", "<init>", "()V"⟩ prog_14_method_12_code en := List.forall_mem_cons.mpr ⟨ze_ldc2 (by decide +kernel) zw_1388, List.forall_mem_cons.mpr ⟨ze_s (by decide +kernel) rfl, List.forall_mem_cons.mpr ⟨ze_s (by decide +kernel) rfl, List.forall_mem_cons.mpr ⟨ze_get (by decide +kernel) zK_12 (by decide) zw_1409, List.forall_mem_cons.mpr ⟨ze_s (by decide +kernel) rfl, List.forall_mem_cons.mpr ⟨ze_ldc2 (by decide +kernel) zw_1389, List.forall_mem_cons.mpr ⟨ze_s (by decide +kernel) rfl, List.forall_mem_cons.mpr ⟨ze_s (by decide +kernel) rfl, List.forall_mem_cons.mpr ⟨ze_get (by decide +kernel) zK_12 (by decide) zw_1409, List.forall_mem_cons.mpr ⟨ze_s (by decide +kernel) rfl, List.forall_mem_cons.mpr ⟨ze_ldc2 (by decide +kernel) zw_1390, List.forall_mem_cons.mpr ⟨ze_s (by decide +kernel) rfl, List.forall_mem_cons.mpr ⟨ze_s (by decide +kernel) rfl, List.forall_mem_cons.mpr ⟨ze_get (by decide +kernel) zK_12 (by decide) zw_1409, List.forall_mem_cons.mpr ⟨ze_s (by decide +kernel) rfl, List.forall_mem_cons.mpr ⟨ze_ldc2 (by decide +kernel) zw_1391, List.forall_mem_cons.mpr ⟨ze_s (by decide +kernel) rfl, List.forall_mem_cons.mpr ⟨ze_s (by decide +kernel) rfl, List.forall_mem_cons.mpr ⟨ze_get (by decide +kernel) zK_12 (by decide) zw_1409, List.forall_mem_cons.mpr ⟨ze_s (by decide +kernel) rfl, List.forall_mem_cons.mpr ⟨ze_ldc2 (by decide +kernel) zw_1392, List.forall_mem_cons.mpr ⟨ze_s (by decide +kernel) rfl, List.forall_mem_cons.mpr ⟨ze_s (by decide +kernel) rfl, List.forall_mem_cons.mpr ⟨ze_get (by decide +kernel) zK_12 (by decide) zw_1409, List.forall_mem_cons.mpr ⟨ze_s (by decide +kernel) rfl, List.forall_mem_cons.mpr ⟨ze_ldc2 (by decide +kernel) zw_1393, List.forall_mem_cons.mpr ⟨ze_s (by decide +kernel) rfl, List.forall_mem_cons.mpr ⟨ze_s (by decide +kernel) rfl, List.forall_mem_cons.mpr ⟨ze_get (by decide +kernel) zK_12 (by decide) zw_1409, List.forall_mem_cons.mpr ⟨ze_s (by decide +kernel) rfl, fun _ h => absurd h List.not_mem_nil⟩⟩⟩⟩⟩⟩⟩⟩⟩⟩⟩⟩⟩⟩⟩⟩⟩⟩⟩⟩⟩⟩⟩⟩⟩⟩⟩⟩⟩⟩
set_option maxRecDepth 20000 in
theorem zo_X12_init_6 : ∀ en ∈ ([(357, .ldc2_w 124, []), (360, .lastore, []), (361, .aload_n 0, []), (362, .invokevirtual 126, [1, 14, 12]), (365, .iconst 0, []), (366, .istore_n 1, []), (367, .iload_n 1, []), (368, .bipush 62, []), (370, .if_icmp .ge 21, []), (373, .aload_n 0, []), (374, .getfield 33, [12, 6]), (377, .iload_n 1, []), (378, .aload_n 0, []), (379, .getfield 37, [12, 7]), (382, .iload_n 1, []), (383, .iaload, []), (384, .iastore, []), (385, .iinc 1 1, []), (388, .goto (-21), []), (391, .return_, [])] : List zE), z_en zTB zNT vwCl zTF zDF zP ⟨"HeldCoatsModel", "<init>", "()V"⟩ prog_14_method_12_code en := List.forall_mem_cons.mpr ⟨ze_ldc2 (by decide +kernel) zw_1394, List.forall_mem_cons.mpr ⟨ze_s (by decide +kernel) rfl, List.forall_mem_cons.mpr ⟨ze_s (by decide +kernel) rfl, List.forall_mem_cons.mpr ⟨ze_cv (by decide +kernel) (by rfl) zY_X12_clears (Or.inl zw_1395) zw_1397 zs_41 rfl, List.forall_mem_cons.mpr ⟨ze_s (by decide +kernel) rfl, List.forall_mem_cons.mpr ⟨ze_s (by decide +kernel) rfl, List.forall_mem_cons.mpr ⟨ze_s (by decide +kernel) rfl, List.forall_mem_cons.mpr ⟨ze_s (by decide +kernel) rfl, List.forall_mem_cons.mpr ⟨ze_s (by decide +kernel) rfl, List.forall_mem_cons.mpr ⟨ze_s (by decide +kernel) rfl, List.forall_mem_cons.mpr ⟨ze_get (by decide +kernel) zK_12 (by decide) zw_1405, List.forall_mem_cons.mpr ⟨ze_s (by decide +kernel) rfl, List.forall_mem_cons.mpr ⟨ze_s (by decide +kernel) rfl, List.forall_mem_cons.mpr ⟨ze_get (by decide +kernel) zK_12 (by decide) zw_1406, List.forall_mem_cons.mpr ⟨ze_s (by decide +kernel) rfl, List.forall_mem_cons.mpr ⟨ze_s (by decide +kernel) rfl, List.forall_mem_cons.mpr ⟨ze_s (by decide +kernel) rfl, List.forall_mem_cons.mpr ⟨ze_s (by decide +kernel) rfl, List.forall_mem_cons.mpr ⟨ze_s (by decide +kernel) rfl, List.forall_mem_cons.mpr ⟨ze_s (by decide +kernel) rfl, fun _ h => absurd h List.not_mem_nil⟩⟩⟩⟩⟩⟩⟩⟩⟩⟩⟩⟩⟩⟩⟩⟩⟩⟩⟩⟩
theorem zo_X12_init : z_Mok zTB zNT vwCl zTF zDF zP zm_X12_init := ⟨by decide +kernel, List.forall_mem_append.mpr ⟨zo_X12_init_0, List.forall_mem_append.mpr ⟨zo_X12_init_1, List.forall_mem_append.mpr ⟨zo_X12_init_2, List.forall_mem_append.mpr ⟨zo_X12_init_3, List.forall_mem_append.mpr ⟨zo_X12_init_4, List.forall_mem_append.mpr ⟨zo_X12_init_5, zo_X12_init_6⟩⟩⟩⟩⟩⟩⟩
set_option maxRecDepth 20000 in
theorem zo_X12_clears_0 : ∀ en ∈ ([(0, .iconst 0, []), (1, .istore_n 1, []), (2, .iload_n 1, []), (3, .bipush 62, []), (5, .if_icmp .ge 16, []), (8, .aload_n 0, []), (9, .getfield 37, [12, 7]), (12, .iload_n 1, []), (13, .iconst 0, []), (14, .iastore, []), (15, .iinc 1 1, []), (18, .goto (-16), []), (21, .aload_n 0, []), (22, .getfield 37, [12, 7]), (25, .iconst 4, []), (26, .bipush 9, []), (28, .iastore, []), (29, .aload_n 0, []), (30, .getfield 37, [12, 7]), (33, .iconst 5, []), (34, .iconst 1, []), (35, .iastore, []), (36, .aload_n 0, []), (37, .getfield 37, [12, 7]), (40, .bipush 6, []), (42, .sipush 200, []), (45, .iastore, []), (46, .return_, [])] : List zE), z_en zTB zNT vwCl zTF zDF zP ⟨"HeldCoatsModel", "clears", "()V"⟩ prog_14_method_13_code en := List.forall_mem_cons.mpr ⟨ze_s (by decide +kernel) rfl, List.forall_mem_cons.mpr ⟨ze_s (by decide +kernel) rfl, List.forall_mem_cons.mpr ⟨ze_s (by decide +kernel) rfl, List.forall_mem_cons.mpr ⟨ze_s (by decide +kernel) rfl, List.forall_mem_cons.mpr ⟨ze_s (by decide +kernel) rfl, List.forall_mem_cons.mpr ⟨ze_s (by decide +kernel) rfl, List.forall_mem_cons.mpr ⟨ze_get (by decide +kernel) zK_12 (by decide) zw_1406, List.forall_mem_cons.mpr ⟨ze_s (by decide +kernel) rfl, List.forall_mem_cons.mpr ⟨ze_s (by decide +kernel) rfl, List.forall_mem_cons.mpr ⟨ze_s (by decide +kernel) rfl, List.forall_mem_cons.mpr ⟨ze_s (by decide +kernel) rfl, List.forall_mem_cons.mpr ⟨ze_s (by decide +kernel) rfl, List.forall_mem_cons.mpr ⟨ze_s (by decide +kernel) rfl, List.forall_mem_cons.mpr ⟨ze_get (by decide +kernel) zK_12 (by decide) zw_1406, List.forall_mem_cons.mpr ⟨ze_s (by decide +kernel) rfl, List.forall_mem_cons.mpr ⟨ze_s (by decide +kernel) rfl, List.forall_mem_cons.mpr ⟨ze_s (by decide +kernel) rfl, List.forall_mem_cons.mpr ⟨ze_s (by decide +kernel) rfl, List.forall_mem_cons.mpr ⟨ze_get (by decide +kernel) zK_12 (by decide) zw_1406, List.forall_mem_cons.mpr ⟨ze_s (by decide +kernel) rfl, List.forall_mem_cons.mpr ⟨ze_s (by decide +kernel) rfl, List.forall_mem_cons.mpr ⟨ze_s (by decide +kernel) rfl, List.forall_mem_cons.mpr ⟨ze_s (by decide +kernel) rfl, List.forall_mem_cons.mpr ⟨ze_get (by decide +kernel) zK_12 (by decide) zw_1406, List.forall_mem_cons.mpr ⟨ze_s (by decide +kernel) rfl, List.forall_mem_cons.mpr ⟨ze_s (by decide +kernel) rfl, List.forall_mem_cons.mpr ⟨ze_s (by decide +kernel) rfl, List.forall_mem_cons.mpr ⟨ze_s (by decide +kernel) rfl, fun _ h => absurd h List.not_mem_nil⟩⟩⟩⟩⟩⟩⟩⟩⟩⟩⟩⟩⟩⟩⟩⟩⟩⟩⟩⟩⟩⟩⟩⟩⟩⟩⟩⟩
theorem zo_X12_clears : z_Mok zTB zNT vwCl zTF zDF zP zm_X12_clears := ⟨by decide +kernel, zo_X12_clears_0⟩
set_option maxRecDepth 20000 in
theorem zo_X11_feed_0 : ∀ en ∈ ([(0, .aload_n 0, []), (1, .getfield 10, [11, 0]), (4, .getfield 85, [10, 2]), (7, .sipush 920, []), (10, .if_icmp .le 5, []), (15, .aload_n 0, []), (16, .getfield 10, [11, 0]), (19, .iload_n 1, []), (20, .invokevirtual 89, [1, 16, 10]), (23, .aload_n 0, []), (24, .getfield 10, [11, 0]), (27, .iload_n 2, []), (28, .invokevirtual 89, [1, 16, 10]), (31, .aload_n 0, []), (32, .getfield 10, [11, 0]), (35, .iload_n 3, []), (36, .invokevirtual 89, [1, 16, 10]), (39, .aload_n 0, []), (40, .getfield 10, [11, 0]), (43, .iload 4, []), (45, .invokevirtual 89, [1, 16, 10]), (48, .aload_n 0, []), (49, .getfield 10, [11, 0]), (52, .iload 5, []), (54, .invokevirtual 89, [1, 16, 10]), (57, .aload_n 0, []), (58, .getfield 10, [11, 0]), (61, .getfield 85, [10, 2]), (64, .ireturn, [])] : List zE), z_en zTB zNT vwCl zTF zDF zP ⟨"HeldCoats", "feed", "(IIIII)I"⟩ prog_1_method_2_code en := List.forall_mem_cons.mpr ⟨ze_s (by decide +kernel) rfl, List.forall_mem_cons.mpr ⟨ze_get (by decide +kernel) zK_11 (by decide) zw_531, List.forall_mem_cons.mpr ⟨ze_get (by decide +kernel) zK_10 (by decide) zw_93, List.forall_mem_cons.mpr ⟨ze_s (by decide +kernel) rfl, List.forall_mem_cons.mpr ⟨ze_s (by decide +kernel) rfl, List.forall_mem_cons.mpr ⟨ze_s (by decide +kernel) rfl, List.forall_mem_cons.mpr ⟨ze_get (by decide +kernel) zK_11 (by decide) zw_531, List.forall_mem_cons.mpr ⟨ze_s (by decide +kernel) rfl, List.forall_mem_cons.mpr ⟨ze_cv (by decide +kernel) (by rfl) zY_X10_addNumber (Or.inl zw_569) zw_570 zw_571 rfl, List.forall_mem_cons.mpr ⟨ze_s (by decide +kernel) rfl, List.forall_mem_cons.mpr ⟨ze_get (by decide +kernel) zK_11 (by decide) zw_531, List.forall_mem_cons.mpr ⟨ze_s (by decide +kernel) rfl, List.forall_mem_cons.mpr ⟨ze_cv (by decide +kernel) (by rfl) zY_X10_addNumber (Or.inl zw_569) zw_570 zw_571 rfl, List.forall_mem_cons.mpr ⟨ze_s (by decide +kernel) rfl, List.forall_mem_cons.mpr ⟨ze_get (by decide +kernel) zK_11 (by decide) zw_531, List.forall_mem_cons.mpr ⟨ze_s (by decide +kernel) rfl, List.forall_mem_cons.mpr ⟨ze_cv (by decide +kernel) (by rfl) zY_X10_addNumber (Or.inl zw_569) zw_570 zw_571 rfl, List.forall_mem_cons.mpr ⟨ze_s (by decide +kernel) rfl, List.forall_mem_cons.mpr ⟨ze_get (by decide +kernel) zK_11 (by decide) zw_531, List.forall_mem_cons.mpr ⟨ze_s (by decide +kernel) rfl, List.forall_mem_cons.mpr ⟨ze_cv (by decide +kernel) (by rfl) zY_X10_addNumber (Or.inl zw_569) zw_570 zw_571 rfl, List.forall_mem_cons.mpr ⟨ze_s (by decide +kernel) rfl, List.forall_mem_cons.mpr ⟨ze_get (by decide +kernel) zK_11 (by decide) zw_531, List.forall_mem_cons.mpr ⟨ze_s (by decide +kernel) rfl, List.forall_mem_cons.mpr ⟨ze_cv (by decide +kernel) (by rfl) zY_X10_addNumber (Or.inl zw_569) zw_570 zw_571 rfl, List.forall_mem_cons.mpr ⟨ze_s (by decide +kernel) rfl, List.forall_mem_cons.mpr ⟨ze_get (by decide +kernel) zK_11 (by decide) zw_531, List.forall_mem_cons.mpr ⟨ze_get (by decide +kernel) zK_10 (by decide) zw_93, List.forall_mem_cons.mpr ⟨ze_s (by decide +kernel) rfl, fun _ h => absurd h List.not_mem_nil⟩⟩⟩⟩⟩⟩⟩⟩⟩⟩⟩⟩⟩⟩⟩⟩⟩⟩⟩⟩⟩⟩⟩⟩⟩⟩⟩⟩⟩
theorem zo_X11_feed : z_Mok zTB zNT vwCl zTF zDF zP zm_X11_feed := ⟨by decide +kernel, zo_X11_feed_0⟩
set_option maxRecDepth 20000 in
theorem zo_X10_addNumber_0 : ∀ en ∈ ([(0, .bipush 24, []), (2, .istore_n 2, []), (3, .iload_n 2, []), (4, .ifCond .lt 45, []), (7, .aload_n 0, []), (8, .getfield 33, [10, 2]), (11, .sipush 940, []), (14, .if_icmp .ge 29, []), (17, .aload_n 0, []), (18, .getfield 9, [10, 0]), (21, .aload_n 0, []), (22, .getfield 33, [10, 2]), (25, .iload_n 1, []), (26, .iload_n 2, []), (27, .iushr, []), (28, .sipush 255, []), (31, .iand, []), (32, .iastore, []), (33, .aload_n 0, []), (34, .dup, []), (35, .getfield 33, [10, 2]), (38, .iconst 1, []), (39, .iadd, []), (40, .putfield 33, [10, 2]), (43, .iinc 2 (-8), []), (46, .goto (-43), []), (49, .return_, [])] : List zE), z_en zTB zNT vwCl zTF zDF zP ⟨"HeldCoats$Tape", "addNumber", "(I)V"⟩ prog_12_method_2_code en := List.forall_mem_cons.mpr ⟨ze_s (by decide +kernel) rfl, List.forall_mem_cons.mpr ⟨ze_s (by decide +kernel) rfl, List.forall_mem_cons.mpr ⟨ze_s (by decide +kernel) rfl, List.forall_mem_cons.mpr ⟨ze_s (by decide +kernel) rfl, List.forall_mem_cons.mpr ⟨ze_s (by decide +kernel) rfl, List.forall_mem_cons.mpr ⟨ze_get (by decide +kernel) zK_10 (by decide) zw_94, List.forall_mem_cons.mpr ⟨ze_s (by decide +kernel) rfl, List.forall_mem_cons.mpr ⟨ze_s (by decide +kernel) rfl, List.forall_mem_cons.mpr ⟨ze_s (by decide +kernel) rfl, List.forall_mem_cons.mpr ⟨ze_get (by decide +kernel) zK_10 (by decide) zw_90, List.forall_mem_cons.mpr ⟨ze_s (by decide +kernel) rfl, List.forall_mem_cons.mpr ⟨ze_get (by decide +kernel) zK_10 (by decide) zw_94, List.forall_mem_cons.mpr ⟨ze_s (by decide +kernel) rfl, List.forall_mem_cons.mpr ⟨ze_s (by decide +kernel) rfl, List.forall_mem_cons.mpr ⟨ze_s (by decide +kernel) rfl, List.forall_mem_cons.mpr ⟨ze_s (by decide +kernel) rfl, List.forall_mem_cons.mpr ⟨ze_s (by decide +kernel) rfl, List.forall_mem_cons.mpr ⟨ze_s (by decide +kernel) rfl, List.forall_mem_cons.mpr ⟨ze_s (by decide +kernel) rfl, List.forall_mem_cons.mpr ⟨ze_s (by decide +kernel) rfl, List.forall_mem_cons.mpr ⟨ze_get (by decide +kernel) zK_10 (by decide) zw_94, List.forall_mem_cons.mpr ⟨ze_s (by decide +kernel) rfl, List.forall_mem_cons.mpr ⟨ze_s (by decide +kernel) rfl, List.forall_mem_cons.mpr ⟨ze_put (by decide +kernel) zK_10 (by decide) zw_94 (Or.inl rfl), List.forall_mem_cons.mpr ⟨ze_s (by decide +kernel) rfl, List.forall_mem_cons.mpr ⟨ze_s (by decide +kernel) rfl, List.forall_mem_cons.mpr ⟨ze_s (by decide +kernel) rfl, fun _ h => absurd h List.not_mem_nil⟩⟩⟩⟩⟩⟩⟩⟩⟩⟩⟩⟩⟩⟩⟩⟩⟩⟩⟩⟩⟩⟩⟩⟩⟩⟩⟩
theorem zo_X10_addNumber : z_Mok zTB zNT vwCl zTF zDF zP zm_X10_addNumber := ⟨by decide +kernel, zo_X10_addNumber_0⟩
set_option maxRecDepth 20000 in
theorem zo_X12_feed_0 : ∀ en ∈ ([(0, .aload_n 0, []), (1, .iconst 0, []), (2, .putfield 1, [12, 0]), (5, .aload_n 0, []), (6, .getfield 7, [12, 2]), (9, .bipush 20, []), (11, .iadd, []), (12, .sipush 940, []), (15, .if_icmp .le 5, []), (20, .aload_n 0, []), (21, .iload_n 1, []), (22, .invokevirtual 10, [1, 18, 12]), (25, .aload_n 0, []), (26, .iload_n 2, []), (27, .invokevirtual 10, [1, 18, 12]), (30, .aload_n 0, []), (31, .iload_n 3, []), (32, .invokevirtual 10, [1, 18, 12]), (35, .aload_n 0, []), (36, .iload 4, []), (38, .invokevirtual 10, [1, 18, 12]), (41, .aload_n 0, []), (42, .iload 5, []), (44, .invokevirtual 10, [1, 18, 12]), (47, .aload_n 0, []), (48, .getfield 7, [12, 2]), (51, .ireturn, [])] : List zE), z_en zTB zNT vwCl zTF zDF zP ⟨"HeldCoatsModel", "feed", "(IIIII)I"⟩ prog_14_method_3_code en := List.forall_mem_cons.mpr ⟨ze_s (by decide +kernel) rfl, List.forall_mem_cons.mpr ⟨ze_s (by decide +kernel) rfl, List.forall_mem_cons.mpr ⟨ze_put (by decide +kernel) zK_12 (by decide) zw_1399 (Or.inl rfl), List.forall_mem_cons.mpr ⟨ze_s (by decide +kernel) rfl, List.forall_mem_cons.mpr ⟨ze_get (by decide +kernel) zK_12 (by decide) zw_1401, List.forall_mem_cons.mpr ⟨ze_s (by decide +kernel) rfl, List.forall_mem_cons.mpr ⟨ze_s (by decide +kernel) rfl, List.forall_mem_cons.mpr ⟨ze_s (by decide +kernel) rfl, List.forall_mem_cons.mpr ⟨ze_s (by decide +kernel) rfl, List.forall_mem_cons.mpr ⟨ze_s (by decide +kernel) rfl, List.forall_mem_cons.mpr ⟨ze_s (by decide +kernel) rfl, List.forall_mem_cons.mpr ⟨ze_cv (by decide +kernel) (by rfl) zY_X12_four (Or.inl zw_1357) zw_1359 zs_40 rfl, List.forall_mem_cons.mpr ⟨ze_s (by decide +kernel) rfl, List.forall_mem_cons.mpr ⟨ze_s (by decide +kernel) rfl, List.forall_mem_cons.mpr ⟨ze_cv (by decide +kernel) (by rfl) zY_X12_four (Or.inl zw_1357) zw_1359 zs_40 rfl, List.forall_mem_cons.mpr ⟨ze_s (by decide +kernel) rfl, List.forall_mem_cons.mpr ⟨ze_s (by decide +kernel) rfl, List.forall_mem_cons.mpr ⟨ze_cv (by decide +kernel) (by rfl) zY_X12_four (Or.inl zw_1357) zw_1359 zs_40 rfl, List.forall_mem_cons.mpr ⟨ze_s (by decide +kernel) rfl, List.forall_mem_cons.mpr ⟨ze_s (by decide +kernel) rfl, List.forall_mem_cons.mpr ⟨ze_cv (by decide +kernel) (by rfl) zY_X12_four (Or.inl zw_1357) zw_1359 zs_40 rfl, List.forall_mem_cons.mpr ⟨ze_s (by decide +kernel) rfl, List.forall_mem_cons.mpr ⟨ze_s (by decide +kernel) rfl, List.forall_mem_cons.mpr ⟨ze_cv (by decide +kernel) (by rfl) zY_X12_four (Or.inl zw_1357) zw_1359 zs_40 rfl, List.forall_mem_cons.mpr ⟨ze_s (by decide +kernel) rfl, List.forall_mem_cons.mpr ⟨ze_get (by decide +kernel) zK_12 (by decide) zw_1401, List.forall_mem_cons.mpr ⟨ze_s (by decide +kernel) rfl, fun _ h => absurd h List.not_mem_nil⟩⟩⟩⟩⟩⟩⟩⟩⟩⟩⟩⟩⟩⟩⟩⟩⟩⟩⟩⟩⟩⟩⟩⟩⟩⟩⟩
theorem zo_X12_feed : z_Mok zTB zNT vwCl zTF zDF zP zm_X12_feed := ⟨by decide +kernel, zo_X12_feed_0⟩
set_option maxRecDepth 20000 in
theorem zo_X12_four_0 : ∀ en ∈ ([(0, .bipush 24, []), (2, .istore_n 2, []), (3, .iload_n 2, []), (4, .ifCond .lt 32, []), (7, .aload_n 0, []), (8, .getfield 14, [12, 1]), (11, .aload_n 0, []), (12, .getfield 7, [12, 2]), (15, .iload_n 1, []), (16, .iload_n 2, []), (17, .ishr, []), (18, .i2b, []), (19, .bastore, []), (20, .aload_n 0, []), (21, .dup, []), (22, .getfield 7, [12, 2]), (25, .iconst 1, []), (26, .iadd, []), (27, .putfield 7, [12, 2]), (30, .iinc 2 (-8), []), (33, .goto (-30), []), (36, .return_, [])] : List zE), z_en zTB zNT vwCl zTF zDF zP ⟨"HeldCoatsModel", "four", "(I)V"⟩ prog_14_method_4_code en := List.forall_mem_cons.mpr ⟨ze_s (by decide +kernel) rfl, List.forall_mem_cons.mpr ⟨ze_s (by decide +kernel) rfl, List.forall_mem_cons.mpr ⟨ze_s (by decide +kernel) rfl, List.forall_mem_cons.mpr ⟨ze_s (by decide +kernel) rfl, List.forall_mem_cons.mpr ⟨ze_s (by decide +kernel) rfl, List.forall_mem_cons.mpr ⟨ze_get (by decide +kernel) zK_12 (by decide) zw_1400, List.forall_mem_cons.mpr ⟨ze_s (by decide +kernel) rfl, List.forall_mem_cons.mpr ⟨ze_get (by decide +kernel) zK_12 (by decide) zw_1401, List.forall_mem_cons.mpr ⟨ze_s (by decide +kernel) rfl, List.forall_mem_cons.mpr ⟨ze_s (by decide +kernel) rfl, List.forall_mem_cons.mpr ⟨ze_s (by decide +kernel) rfl, List.forall_mem_cons.mpr ⟨ze_s (by decide +kernel) rfl, List.forall_mem_cons.mpr ⟨ze_s (by decide +kernel) rfl, List.forall_mem_cons.mpr ⟨ze_s (by decide +kernel) rfl, List.forall_mem_cons.mpr ⟨ze_s (by decide +kernel) rfl, List.forall_mem_cons.mpr ⟨ze_get (by decide +kernel) zK_12 (by decide) zw_1401, List.forall_mem_cons.mpr ⟨ze_s (by decide +kernel) rfl, List.forall_mem_cons.mpr ⟨ze_s (by decide +kernel) rfl, List.forall_mem_cons.mpr ⟨ze_put (by decide +kernel) zK_12 (by decide) zw_1401 (Or.inl rfl), List.forall_mem_cons.mpr ⟨ze_s (by decide +kernel) rfl, List.forall_mem_cons.mpr ⟨ze_s (by decide +kernel) rfl, List.forall_mem_cons.mpr ⟨ze_s (by decide +kernel) rfl, fun _ h => absurd h List.not_mem_nil⟩⟩⟩⟩⟩⟩⟩⟩⟩⟩⟩⟩⟩⟩⟩⟩⟩⟩⟩⟩⟩⟩
theorem zo_X12_four : z_Mok zTB zNT vwCl zTF zDF zP zm_X12_four := ⟨by decide +kernel, zo_X12_four_0⟩
set_option maxRecDepth 20000 in
theorem zo_X11_end_0 : ∀ en ∈ ([(0, .iload_n 1, []), (1, .ifCond .lt 14, []), (4, .iload_n 1, []), (5, .aload_n 0, []), (6, .getfield 10, [11, 0]), (9, .getfield 85, [10, 2]), (12, .if_icmp .le 5, []), (15, .iconst 0, []), (16, .ireturn, []), (17, .aload_n 0, []), (18, .getfield 10, [11, 0]), (21, .iload_n 1, []), (22, .putfield 85, [10, 2]), (25, .iconst 1, []), (26, .ireturn, [])] : List zE), z_en zTB zNT vwCl zTF zDF zP ⟨"HeldCoats", "end", "(I)Z"⟩ prog_1_method_3_code en := List.forall_mem_cons.mpr ⟨ze_s (by decide +kernel) rfl, List.forall_mem_cons.mpr ⟨ze_s (by decide +kernel) rfl, List.forall_mem_cons.mpr ⟨ze_s (by decide +kernel) rfl, List.forall_mem_cons.mpr ⟨ze_s (by decide +kernel) rfl, List.forall_mem_cons.mpr ⟨ze_get (by decide +kernel) zK_11 (by decide) zw_531, List.forall_mem_cons.mpr ⟨ze_get (by decide +kernel) zK_10 (by decide) zw_93, List.forall_mem_cons.mpr ⟨ze_s (by decide +kernel) rfl, List.forall_mem_cons.mpr ⟨ze_s (by decide +kernel) rfl, List.forall_mem_cons.mpr ⟨ze_s (by decide +kernel) rfl, List.forall_mem_cons.mpr ⟨ze_s (by decide +kernel) rfl, List.forall_mem_cons.mpr ⟨ze_get (by decide +kernel) zK_11 (by decide) zw_531, List.forall_mem_cons.mpr ⟨ze_s (by decide +kernel) rfl, List.forall_mem_cons.mpr ⟨ze_put (by decide +kernel) zK_10 (by decide) zw_93 (Or.inl rfl), List.forall_mem_cons.mpr ⟨ze_s (by decide +kernel) rfl, List.forall_mem_cons.mpr ⟨ze_s (by decide +kernel) rfl, fun _ h => absurd h List.not_mem_nil⟩⟩⟩⟩⟩⟩⟩⟩⟩⟩⟩⟩⟩⟩⟩
theorem zo_X11_end : z_Mok zTB zNT vwCl zTF zDF zP zm_X11_end := ⟨by decide +kernel, zo_X11_end_0⟩
set_option maxRecDepth 20000 in
theorem zo_X12_end_0 : ∀ en ∈ ([(0, .aload_n 0, []), (1, .iconst 0, []), (2, .putfield 1, [12, 0]), (5, .iload_n 1, []), (6, .ifCond .lt 11, []), (9, .iload_n 1, []), (10, .aload_n 0, []), (11, .getfield 7, [12, 2]), (14, .if_icmp .le 5, []), (17, .iconst 0, []), (18, .ireturn, []), (19, .aload_n 0, []), (20, .iload_n 1, []), (21, .putfield 7, [12, 2]), (24, .iconst 1, []), (25, .ireturn, [])] : List zE), z_en zTB zNT vwCl zTF zDF zP ⟨"HeldCoatsModel", "end", "(I)Z"⟩ prog_14_method_5_code en := List.forall_mem_cons.mpr ⟨ze_s (by decide +kernel) rfl, List.forall_mem_cons.mpr ⟨ze_s (by decide +kernel) rfl, List.forall_mem_cons.mpr ⟨ze_put (by decide +kernel) zK_12 (by decide) zw_1399 (Or.inl rfl), List.forall_mem_cons.mpr ⟨ze_s (by decide +kernel) rfl, List.forall_mem_cons.mpr ⟨ze_s (by decide +kernel) rfl, List.forall_mem_cons.mpr ⟨ze_s (by decide +kernel) rfl, List.forall_mem_cons.mpr ⟨ze_s (by decide +kernel) rfl, List.forall_mem_cons.mpr ⟨ze_get (by decide +kernel) zK_12 (by decide) zw_1401, List.forall_mem_cons.mpr ⟨ze_s (by decide +kernel) rfl, List.forall_mem_cons.mpr ⟨ze_s (by decide +kernel) rfl, List.forall_mem_cons.mpr ⟨ze_s (by decide +kernel) rfl, List.forall_mem_cons.mpr ⟨ze_s (by decide +kernel) rfl, List.forall_mem_cons.mpr ⟨ze_s (by decide +kernel) rfl, List.forall_mem_cons.mpr ⟨ze_put (by decide +kernel) zK_12 (by decide) zw_1401 (Or.inl rfl), List.forall_mem_cons.mpr ⟨ze_s (by decide +kernel) rfl, List.forall_mem_cons.mpr ⟨ze_s (by decide +kernel) rfl, fun _ h => absurd h List.not_mem_nil⟩⟩⟩⟩⟩⟩⟩⟩⟩⟩⟩⟩⟩⟩⟩⟩
theorem zo_X12_end : z_Mok zTB zNT vwCl zTF zDF zP zm_X12_end := ⟨by decide +kernel, zo_X12_end_0⟩
set_option maxRecDepth 20000 in
theorem zo_X11_capital_0 : ∀ en ∈ ([(0, .aload_n 0, []), (1, .getfield 28, [11, 2]), (4, .invokevirtual 93, [1, 22, 4]), (7, .istore_n 1, []), (8, .aload_n 0, []), (9, .invokevirtual 97, [1, 28, 11]), (12, .iload_n 1, []), (13, .ifCond .ne 13, []), (26, .aload_n 0, []), (27, .getfield 19, [11, 1]), (30, .aload_n 0, []), (31, .getfield 28, [11, 2]), (34, .getfield 103, [4, 1]), (37, .invokevirtual 106, [1, 29, 3]), (40, .aload_n 0, []), (41, .getfield 37, [11, 3]), (44, .invokevirtual 109, [1, 31, 9]), (47, .aload_n 0, []), (48, .getfield 51, [11, 5]), (51, .invokevirtual 112, [1, 33, 7]), (54, .aload_n 0, []), (55, .getfield 44, [11, 4]), (58, .invokevirtual 115, [1, 34, 6]), (61, .aload_n 0, []), (62, .getfield 28, [11, 2]), (65, .getfield 116, [4, 2]), (68, .ireturn, [])] : List zE), z_en zTB zNT vwCl zTF zDF zP ⟨"HeldCoats", "capital", "()I"⟩ prog_1_method_4_code en := List.forall_mem_cons.mpr ⟨ze_s (by decide +kernel) rfl, List.forall_mem_cons.mpr ⟨ze_get (by decide +kernel) zK_11 (by decide) zw_533, List.forall_mem_cons.mpr ⟨ze_cv (by decide +kernel) (by rfl) zY_X4_readText (Or.inl zw_581) zw_582 zw_583 rfl, List.forall_mem_cons.mpr ⟨ze_s (by decide +kernel) rfl, List.forall_mem_cons.mpr ⟨ze_s (by decide +kernel) rfl, List.forall_mem_cons.mpr ⟨ze_cv (by decide +kernel) (by rfl) zY_X11_closeTape (Or.inl zw_680) zw_682 zs_11 rfl, List.forall_mem_cons.mpr ⟨ze_s (by decide +kernel) rfl, List.forall_mem_cons.mpr ⟨ze_s (by decide +kernel) rfl, List.forall_mem_cons.mpr ⟨ze_s (by decide +kernel) rfl, List.forall_mem_cons.mpr ⟨ze_get (by decide +kernel) zK_11 (by decide) zw_532, List.forall_mem_cons.mpr ⟨ze_s (by decide +kernel) rfl, List.forall_mem_cons.mpr ⟨ze_get (by decide +kernel) zK_11 (by decide) zw_533, List.forall_mem_cons.mpr ⟨ze_get (by decide +kernel) zK_4 (by decide) zw_280, List.forall_mem_cons.mpr ⟨ze_cv (by decide +kernel) (by rfl) zY_X3_copyFrom (Or.inl zw_684) zw_685 zw_686 rfl, List.forall_mem_cons.mpr ⟨ze_s (by decide +kernel) rfl, List.forall_mem_cons.mpr ⟨ze_get (by decide +kernel) zK_11 (by decide) zw_534, List.forall_mem_cons.mpr ⟨ze_cv (by decide +kernel) (by rfl) zY_X9_begin (Or.inl zw_696) zw_697 zw_698 rfl, List.forall_mem_cons.mpr ⟨ze_s (by decide +kernel) rfl, List.forall_mem_cons.mpr ⟨ze_get (by decide +kernel) zK_11 (by decide) zw_536, List.forall_mem_cons.mpr ⟨ze_cv (by decide +kernel) (by rfl) zY_X7_clear (Or.inl zw_703) zw_704 zw_705 rfl, List.forall_mem_cons.mpr ⟨ze_s (by decide +kernel) rfl, List.forall_mem_cons.mpr ⟨ze_get (by decide +kernel) zK_11 (by decide) zw_535, List.forall_mem_cons.mpr ⟨ze_cv (by decide +kernel) (by rfl) zY_X6_clear (Or.inl zw_707) zw_708 zw_709 rfl, List.forall_mem_cons.mpr ⟨ze_s (by decide +kernel) rfl, List.forall_mem_cons.mpr ⟨ze_get (by decide +kernel) zK_11 (by decide) zw_533, List.forall_mem_cons.mpr ⟨ze_get (by decide +kernel) zK_4 (by decide) zw_282, List.forall_mem_cons.mpr ⟨ze_s (by decide +kernel) rfl, fun _ h => absurd h List.not_mem_nil⟩⟩⟩⟩⟩⟩⟩⟩⟩⟩⟩⟩⟩⟩⟩⟩⟩⟩⟩⟩⟩⟩⟩⟩⟩⟩⟩
theorem zo_X11_capital : z_Mok zTB zNT vwCl zTF zDF zP zm_X11_capital := ⟨by decide +kernel, zo_X11_capital_0⟩
set_option maxRecDepth 20000 in
theorem zo_X4_readText_0 : ∀ en ∈ ([(0, .aload_n 0, []), (1, .getfield 12, [4, 1]), (4, .invokevirtual 22, [1, 3, 3]), (7, .aload_n 0, []), (8, .iconst 0, []), (9, .putfield 25, [4, 2]), (12, .aload_n 0, []), (13, .iconst 0, []), (14, .putfield 29, [4, 3]), (17, .aload_n 0, []), (18, .getfield 18, [4, 0]), (21, .sipush 900, []), (24, .invokevirtual 32, [1, 23, 10]), (27, .aload_n 0, []), (28, .getfield 25, [4, 2]), (31, .sipush 900, []), (34, .if_icmp .ge 47, []), (37, .aload_n 0, []), (38, .getfield 18, [4, 0]), (41, .getfield 38, [10, 6]), (44, .ifCond .eq 37, []), (81, .aload_n 0, []), (82, .getfield 18, [4, 0]), (85, .invokevirtual 49, [1, 27, 10]), (88, .ireturn, [])] : List zE), z_en zTB zNT vwCl zTF zDF zP ⟨"HeldCoats$LawReader", "readText", "()Z"⟩ prog_6_method_2_code en := List.forall_mem_cons.mpr ⟨ze_s (by decide +kernel) rfl, List.forall_mem_cons.mpr ⟨ze_get (by decide +kernel) zK_4 (by decide) zw_279, List.forall_mem_cons.mpr ⟨ze_cv (by decide +kernel) (by rfl) zY_X3_clear (Or.inl zw_585) zw_166 zw_167 rfl, List.forall_mem_cons.mpr ⟨ze_s (by decide +kernel) rfl, List.forall_mem_cons.mpr ⟨ze_s (by decide +kernel) rfl, List.forall_mem_cons.mpr ⟨ze_put (by decide +kernel) zK_4 (by decide) zw_281 (Or.inl rfl), List.forall_mem_cons.mpr ⟨ze_s (by decide +kernel) rfl, List.forall_mem_cons.mpr ⟨ze_s (by decide +kernel) rfl, List.forall_mem_cons.mpr ⟨ze_put (by decide +kernel) zK_4 (by decide) zw_283 (Or.inl rfl), List.forall_mem_cons.mpr ⟨ze_s (by decide +kernel) rfl, List.forall_mem_cons.mpr ⟨ze_get (by decide +kernel) zK_4 (by decide) zw_278, List.forall_mem_cons.mpr ⟨ze_s (by decide +kernel) rfl, List.forall_mem_cons.mpr ⟨ze_cv (by decide +kernel) (by rfl) zY_X10_open (Or.inl zw_586) zw_587 zw_588 rfl, List.forall_mem_cons.mpr ⟨ze_s (by decide +kernel) rfl, List.forall_mem_cons.mpr ⟨ze_get (by decide +kernel) zK_4 (by decide) zw_281, List.forall_mem_cons.mpr ⟨ze_s (by decide +kernel) rfl, List.forall_mem_cons.mpr ⟨ze_s (by decide +kernel) rfl, List.forall_mem_cons.mpr ⟨ze_s (by decide +kernel) rfl, List.forall_mem_cons.mpr ⟨ze_get (by decide +kernel) zK_4 (by decide) zw_278, List.forall_mem_cons.mpr ⟨ze_get (by decide +kernel) zK_10 (by decide) zw_100, List.forall_mem_cons.mpr ⟨ze_s (by decide +kernel) rfl, List.forall_mem_cons.mpr ⟨ze_s (by decide +kernel) rfl, List.forall_mem_cons.mpr ⟨ze_get (by decide +kernel) zK_4 (by decide) zw_278, List.forall_mem_cons.mpr ⟨ze_cv (by decide +kernel) (by rfl) zY_X10_isOver (Or.inl zw_676) zw_677 zw_678 rfl, List.forall_mem_cons.mpr ⟨ze_s (by decide +kernel) rfl, fun _ h => absurd h List.not_mem_nil⟩⟩⟩⟩⟩⟩⟩⟩⟩⟩⟩⟩⟩⟩⟩⟩⟩⟩⟩⟩⟩⟩⟩⟩⟩
theorem zo_X4_readText : z_Mok zTB zNT vwCl zTF zDF zP zm_X4_readText := ⟨by decide +kernel, zo_X4_readText_0⟩
set_option maxRecDepth 20000 in
theorem zo_X10_open_0 : ∀ en ∈ ([(0, .aload_n 0, []), (1, .iload_n 1, []), (2, .putfield 37, [10, 3]), (5, .aload_n 0, []), (6, .iconst 0, []), (7, .putfield 40, [10, 5]), (10, .aload_n 0, []), (11, .iconst 0, []), (12, .putfield 43, [10, 9]), (15, .aload_n 0, []), (16, .iconst 0, []), (17, .putfield 46, [10, 10]), (20, .aload_n 0, []), (21, .invokevirtual 49, [1, 24, 10]), (24, .return_, [])] : List zE), z_en zTB zNT vwCl zTF zDF zP ⟨"HeldCoats$Tape", "open", "(I)V"⟩ prog_12_method_3_code en := List.forall_mem_cons.mpr ⟨ze_s (by decide +kernel) rfl, List.forall_mem_cons.mpr ⟨ze_s (by decide +kernel) rfl, List.forall_mem_cons.mpr ⟨ze_put (by decide +kernel) zK_10 (by decide) zw_96 (Or.inl rfl), List.forall_mem_cons.mpr ⟨ze_s (by decide +kernel) rfl, List.forall_mem_cons.mpr ⟨ze_s (by decide +kernel) rfl, List.forall_mem_cons.mpr ⟨ze_put (by decide +kernel) zK_10 (by decide) zw_98 (Or.inl rfl), List.forall_mem_cons.mpr ⟨ze_s (by decide +kernel) rfl, List.forall_mem_cons.mpr ⟨ze_s (by decide +kernel) rfl, List.forall_mem_cons.mpr ⟨ze_put (by decide +kernel) zK_10 (by decide) zw_109 (Or.inl rfl), List.forall_mem_cons.mpr ⟨ze_s (by decide +kernel) rfl, List.forall_mem_cons.mpr ⟨ze_s (by decide +kernel) rfl, List.forall_mem_cons.mpr ⟨ze_put (by decide +kernel) zK_10 (by decide) zw_112 (Or.inl rfl), List.forall_mem_cons.mpr ⟨ze_s (by decide +kernel) rfl, List.forall_mem_cons.mpr ⟨ze_cv (by decide +kernel) (by rfl) zY_X10_advance (Or.inl zw_590) zw_591 zw_592 rfl, List.forall_mem_cons.mpr ⟨ze_s (by decide +kernel) rfl, fun _ h => absurd h List.not_mem_nil⟩⟩⟩⟩⟩⟩⟩⟩⟩⟩⟩⟩⟩⟩⟩
theorem zo_X10_open : z_Mok zTB zNT vwCl zTF zDF zP zm_X10_open := ⟨by decide +kernel, zo_X10_open_0⟩
set_option maxRecDepth 20000 in
theorem zo_X10_advance_0 : ∀ en ∈ ([(0, .aload_n 0, []), (1, .aload_n 0, []), (2, .aload_n 0, []), (3, .getfield 40, [10, 5]), (6, .invokevirtual 52, [1, 25, 10]), (9, .putfield 56, [10, 4]), (12, .aload_n 0, []), (13, .getfield 56, [10, 4]), (16, .aload_n 0, []), (17, .getfield 33, [10, 2]), (20, .if_icmp .ge 14, []), (34, .aload_n 0, []), (35, .invokevirtual 59, [1, 26, 10]), (38, .return_, [])] : List zE), z_en zTB zNT vwCl zTF zDF zP ⟨"HeldCoats$Tape", "advance", "()V"⟩ prog_12_method_4_code en := List.forall_mem_cons.mpr ⟨ze_s (by decide +kernel) rfl, List.forall_mem_cons.mpr ⟨ze_s (by decide +kernel) rfl, List.forall_mem_cons.mpr ⟨ze_s (by decide +kernel) rfl, List.forall_mem_cons.mpr ⟨ze_get (by decide +kernel) zK_10 (by decide) zw_98, List.forall_mem_cons.mpr ⟨ze_cv (by decide +kernel) (by rfl) zY_X10_firstUnblank (Or.inl zw_594) zw_596 zs_0 rfl, List.forall_mem_cons.mpr ⟨ze_put (by decide +kernel) zK_10 (by decide) zw_97 (Or.inl rfl), List.forall_mem_cons.mpr ⟨ze_s (by decide +kernel) rfl, List.forall_mem_cons.mpr ⟨ze_get (by decide +kernel) zK_10 (by decide) zw_97, List.forall_mem_cons.mpr ⟨ze_s (by decide +kernel) rfl, List.forall_mem_cons.mpr ⟨ze_get (by decide +kernel) zK_10 (by decide) zw_94, List.forall_mem_cons.mpr ⟨ze_s (by decide +kernel) rfl, List.forall_mem_cons.mpr ⟨ze_s (by decide +kernel) rfl, List.forall_mem_cons.mpr ⟨ze_cv (by decide +kernel) (by rfl) zY_X10_stopAtEnd (Or.inl zw_598) zw_600 zs_1 rfl, List.forall_mem_cons.mpr ⟨ze_s (by decide +kernel) rfl, fun _ h => absurd h List.not_mem_nil⟩⟩⟩⟩⟩⟩⟩⟩⟩⟩⟩⟩⟩⟩
theorem zo_X10_advance : z_Mok zTB zNT vwCl zTF zDF zP zm_X10_advance := ⟨by decide +kernel, zo_X10_advance_0⟩
set_option maxRecDepth 20000 in
theorem zo_X10_firstUnblank_0 : ∀ en ∈ ([(0, .iload_n 1, []), (1, .istore_n 2, []), (2, .iload_n 2, []), (3, .aload_n 0, []), (4, .getfield 33, [10, 2]), (7, .if_icmp .ge 33, []), (40, .aload_n 0, []), (41, .getfield 33, [10, 2]), (44, .ireturn, [])] : List zE), z_en zTB zNT vwCl zTF zDF zP ⟨"HeldCoats$Tape", "firstUnblank", "(I)I"⟩ prog_12_method_5_code en := List.forall_mem_cons.mpr ⟨ze_s (by decide +kernel) rfl, List.forall_mem_cons.mpr ⟨ze_s (by decide +kernel) rfl, List.forall_mem_cons.mpr ⟨ze_s (by decide +kernel) rfl, List.forall_mem_cons.mpr ⟨ze_s (by decide +kernel) rfl, List.forall_mem_cons.mpr ⟨ze_get (by decide +kernel) zK_10 (by decide) zw_94, List.forall_mem_cons.mpr ⟨ze_s (by decide +kernel) rfl, List.forall_mem_cons.mpr ⟨ze_s (by decide +kernel) rfl, List.forall_mem_cons.mpr ⟨ze_get (by decide +kernel) zK_10 (by decide) zw_94, List.forall_mem_cons.mpr ⟨ze_s (by decide +kernel) rfl, fun _ h => absurd h List.not_mem_nil⟩⟩⟩⟩⟩⟩⟩⟩⟩
theorem zo_X10_firstUnblank : z_Mok zTB zNT vwCl zTF zDF zP zm_X10_firstUnblank := ⟨by decide +kernel, zo_X10_firstUnblank_0⟩
set_option maxRecDepth 20000 in
theorem zo_X10_stopAtEnd_0 : ∀ en ∈ ([(0, .aload_n 0, []), (1, .aload_n 0, []), (2, .getfield 33, [10, 2]), (5, .aload_n 0, []), (6, .getfield 37, [10, 3]), (9, .if_icmp .le 7, []), (16, .iconst 0, []), (17, .putfield 69, [10, 6]), (20, .aload_n 0, []), (21, .aload_n 0, []), (22, .getfield 33, [10, 2]), (25, .aload_n 0, []), (26, .getfield 37, [10, 3]), (29, .if_icmp .le 10, []), (39, .aload_n 0, []), (40, .getfield 33, [10, 2]), (43, .putfield 56, [10, 4]), (46, .aload_n 0, []), (47, .aload_n 0, []), (48, .getfield 56, [10, 4]), (51, .putfield 40, [10, 5]), (54, .return_, [])] : List zE), z_en zTB zNT vwCl zTF zDF zP ⟨"HeldCoats$Tape", "stopAtEnd", "()V"⟩ prog_12_method_6_code en := List.forall_mem_cons.mpr ⟨ze_s (by decide +kernel) rfl, List.forall_mem_cons.mpr ⟨ze_s (by decide +kernel) rfl, List.forall_mem_cons.mpr ⟨ze_get (by decide +kernel) zK_10 (by decide) zw_94, List.forall_mem_cons.mpr ⟨ze_s (by decide +kernel) rfl, List.forall_mem_cons.mpr ⟨ze_get (by decide +kernel) zK_10 (by decide) zw_96, List.forall_mem_cons.mpr ⟨ze_s (by decide +kernel) rfl, List.forall_mem_cons.mpr ⟨ze_s (by decide +kernel) rfl, List.forall_mem_cons.mpr ⟨ze_put (by decide +kernel) zK_10 (by decide) zw_101 (Or.inl rfl), List.forall_mem_cons.mpr ⟨ze_s (by decide +kernel) rfl, List.forall_mem_cons.mpr ⟨ze_s (by decide +kernel) rfl, List.forall_mem_cons.mpr ⟨ze_get (by decide +kernel) zK_10 (by decide) zw_94, List.forall_mem_cons.mpr ⟨ze_s (by decide +kernel) rfl, List.forall_mem_cons.mpr ⟨ze_get (by decide +kernel) zK_10 (by decide) zw_96, List.forall_mem_cons.mpr ⟨ze_s (by decide +kernel) rfl, List.forall_mem_cons.mpr ⟨ze_s (by decide +kernel) rfl, List.forall_mem_cons.mpr ⟨ze_get (by decide +kernel) zK_10 (by decide) zw_94, List.forall_mem_cons.mpr ⟨ze_put (by decide +kernel) zK_10 (by decide) zw_97 (Or.inl rfl), List.forall_mem_cons.mpr ⟨ze_s (by decide +kernel) rfl, List.forall_mem_cons.mpr ⟨ze_s (by decide +kernel) rfl, List.forall_mem_cons.mpr ⟨ze_get (by decide +kernel) zK_10 (by decide) zw_97, List.forall_mem_cons.mpr ⟨ze_put (by decide +kernel) zK_10 (by decide) zw_98 (Or.inl rfl), List.forall_mem_cons.mpr ⟨ze_s (by decide +kernel) rfl, fun _ h => absurd h List.not_mem_nil⟩⟩⟩⟩⟩⟩⟩⟩⟩⟩⟩⟩⟩⟩⟩⟩⟩⟩⟩⟩⟩⟩
theorem zo_X10_stopAtEnd : z_Mok zTB zNT vwCl zTF zDF zP zm_X10_stopAtEnd := ⟨by decide +kernel, zo_X10_stopAtEnd_0⟩
set_option maxRecDepth 20000 in
theorem zo_X10_isOver_0 : ∀ en ∈ ([(0, .aload_n 0, []), (1, .getfield 69, [10, 6]), (4, .ifCond .eq 11, []), (15, .iconst 1, []), (16, .goto 4, []), (20, .ireturn, [])] : List zE), z_en zTB zNT vwCl zTF zDF zP ⟨"HeldCoats$Tape", "isOver", "()Z"⟩ prog_12_method_11_code en := List.forall_mem_cons.mpr ⟨ze_s (by decide +kernel) rfl, List.forall_mem_cons.mpr ⟨ze_get (by decide +kernel) zK_10 (by decide) zw_101, List.forall_mem_cons.mpr ⟨ze_s (by decide +kernel) rfl, List.forall_mem_cons.mpr ⟨ze_s (by decide +kernel) rfl, List.forall_mem_cons.mpr ⟨ze_s (by decide +kernel) rfl, List.forall_mem_cons.mpr ⟨ze_s (by decide +kernel) rfl, fun _ h => absurd h List.not_mem_nil⟩⟩⟩⟩⟩⟩
theorem zo_X10_isOver : z_Mok zTB zNT vwCl zTF zDF zP zm_X10_isOver := ⟨by decide +kernel, zo_X10_isOver_0⟩
set_option maxRecDepth 20000 in
theorem zo_X11_closeTape_0 : ∀ en ∈ ([(0, .aload_n 0, []), (1, .getfield 10, [11, 0]), (4, .iconst 0, []), (5, .putfield 85, [10, 2]), (8, .aload_n 0, []), (9, .aload_n 0, []), (10, .getfield 10, [11, 0]), (13, .getfield 396, [10, 9]), (16, .putfield 119, [11, 10]), (19, .return_, [])] : List zE), z_en zTB zNT vwCl zTF zDF zP ⟨"HeldCoats", "closeTape", "()V"⟩ prog_1_method_43_code en := List.forall_mem_cons.mpr ⟨ze_s (by decide +kernel) rfl, List.forall_mem_cons.mpr ⟨ze_get (by decide +kernel) zK_11 (by decide) zw_531, List.forall_mem_cons.mpr ⟨ze_s (by decide +kernel) rfl, List.forall_mem_cons.mpr ⟨ze_put (by decide +kernel) zK_10 (by decide) zw_93 (Or.inl rfl), List.forall_mem_cons.mpr ⟨ze_s (by decide +kernel) rfl, List.forall_mem_cons.mpr ⟨ze_s (by decide +kernel) rfl, List.forall_mem_cons.mpr ⟨ze_get (by decide +kernel) zK_11 (by decide) zw_531, List.forall_mem_cons.mpr ⟨ze_get (by decide +kernel) zK_10 (by decide) zw_111, List.forall_mem_cons.mpr ⟨ze_put (by decide +kernel) zK_11 (by decide) zw_541 (Or.inl rfl), List.forall_mem_cons.mpr ⟨ze_s (by decide +kernel) rfl, fun _ h => absurd h List.not_mem_nil⟩⟩⟩⟩⟩⟩⟩⟩⟩⟩
theorem zo_X11_closeTape : z_Mok zTB zNT vwCl zTF zDF zP zm_X11_closeTape := ⟨by decide +kernel, zo_X11_closeTape_0⟩
set_option maxRecDepth 20000 in
theorem zo_X3_copyFrom_0 : ∀ en ∈ ([(0, .aload_n 0, []), (1, .aload_n 1, []), (2, .getfield 43, [3, 0]), (5, .putfield 43, [3, 0]), (8, .aload_n 0, []), (9, .aload_n 1, []), (10, .getfield 47, [3, 1]), (13, .putfield 47, [3, 1]), (16, .aload_n 0, []), (17, .aload_n 1, []), (18, .getfield 50, [3, 2]), (21, .putfield 50, [3, 2]), (24, .aload_n 0, []), (25, .aload_n 1, []), (26, .getfield 53, [3, 3]), (29, .putfield 53, [3, 3]), (32, .aload_n 0, []), (33, .aload_n 1, []), (34, .getfield 56, [3, 4]), (37, .putfield 56, [3, 4]), (40, .aload_n 0, []), (41, .aload_n 1, []), (42, .getfield 59, [3, 5]), (45, .putfield 59, [3, 5]), (48, .aload_n 0, []), (49, .aload_n 1, []), (50, .getfield 62, [3, 6]), (53, .putfield 62, [3, 6]), (56, .aload_n 0, []), (57, .aload_n 1, [])] : List zE), z_en zTB zNT vwCl zTF zDF zP ⟨"HeldCoats$Law", "copyFrom", "(LHeldCoats$Law;)V"⟩ prog_5_method_3_code en := List.forall_mem_cons.mpr ⟨ze_s (by decide +kernel) rfl, List.forall_mem_cons.mpr ⟨ze_s (by decide +kernel) rfl, List.forall_mem_cons.mpr ⟨ze_get (by decide +kernel) zK_3 (by decide) zw_173, List.forall_mem_cons.mpr ⟨ze_put (by decide +kernel) zK_3 (by decide) zw_173 (Or.inl rfl), List.forall_mem_cons.mpr ⟨ze_s (by decide +kernel) rfl, List.forall_mem_cons.mpr ⟨ze_s (by decide +kernel) rfl, List.forall_mem_cons.mpr ⟨ze_get (by decide +kernel) zK_3 (by decide) zw_179, List.forall_mem_cons.mpr ⟨ze_put (by decide +kernel) zK_3 (by decide) zw_179 (Or.inl rfl), List.forall_mem_cons.mpr ⟨ze_s (by decide +kernel) rfl, List.forall_mem_cons.mpr ⟨ze_s (by decide +kernel) rfl, List.forall_mem_cons.mpr ⟨ze_get (by decide +kernel) zK_3 (by decide) zw_184, List.forall_mem_cons.mpr ⟨ze_put (by decide +kernel) zK_3 (by decide) zw_184 (Or.inl rfl), List.forall_mem_cons.mpr ⟨ze_s (by decide +kernel) rfl, List.forall_mem_cons.mpr ⟨ze_s (by decide +kernel) rfl, List.forall_mem_cons.mpr ⟨ze_get (by decide +kernel) zK_3 (by decide) zw_189, List.forall_mem_cons.mpr ⟨ze_put (by decide +kernel) zK_3 (by decide) zw_189 (Or.inl rfl), List.forall_mem_cons.mpr ⟨ze_s (by decide +kernel) rfl, List.forall_mem_cons.mpr ⟨ze_s (by decide +kernel) rfl, List.forall_mem_cons.mpr ⟨ze_get (by decide +kernel) zK_3 (by decide) zw_191, List.forall_mem_cons.mpr ⟨ze_put (by decide +kernel) zK_3 (by decide) zw_191 (Or.inl rfl), List.forall_mem_cons.mpr ⟨ze_s (by decide +kernel) rfl, List.forall_mem_cons.mpr ⟨ze_s (by decide +kernel) rfl, List.forall_mem_cons.mpr ⟨ze_get (by decide +kernel) zK_3 (by decide) zw_194, List.forall_mem_cons.mpr ⟨ze_put (by decide +kernel) zK_3 (by decide) zw_194 (Or.inl rfl), List.forall_mem_cons.mpr ⟨ze_s (by decide +kernel) rfl, List.forall_mem_cons.mpr ⟨ze_s (by decide +kernel) rfl, List.forall_mem_cons.mpr ⟨ze_get (by decide +kernel) zK_3 (by decide) zw_198, List.forall_mem_cons.mpr ⟨ze_put (by decide +kernel) zK_3 (by decide) zw_198 (Or.inl rfl), List.forall_mem_cons.mpr ⟨ze_s (by decide +kernel) rfl, List.forall_mem_cons.mpr ⟨ze_s (by decide +kernel) rfl, fun _ h => absurd h List.not_mem_nil⟩⟩⟩⟩⟩⟩⟩⟩⟩⟩⟩⟩⟩⟩⟩⟩⟩⟩⟩⟩⟩⟩⟩⟩⟩⟩⟩⟩⟩⟩
set_option maxRecDepth 20000 in
theorem zo_X3_copyFrom_1 : ∀ en ∈ ([(58, .getfield 65, [3, 7]), (61, .putfield 65, [3, 7]), (64, .aload_n 1, []), (65, .getfield 9, [3, 8]), (68, .iconst 0, []), (69, .aload_n 0, []), (70, .getfield 9, [3, 8]), (73, .iconst 0, []), (74, .bipush 8, []), (76, .invokestatic 69, [0]), (79, .aload_n 1, []), (80, .getfield 15, [3, 9]), (83, .iconst 0, []), (84, .aload_n 0, []), (85, .getfield 15, [3, 9]), (88, .iconst 0, []), (89, .bipush 6, []), (91, .invokestatic 69, [0]), (94, .aload_n 1, []), (95, .getfield 18, [3, 10]), (98, .iconst 0, []), (99, .aload_n 0, []), (100, .getfield 18, [3, 10]), (103, .iconst 0, []), (104, .bipush 8, []), (106, .invokestatic 69, [0]), (109, .aload_n 1, []), (110, .getfield 21, [3, 11]), (113, .iconst 0, []), (114, .aload_n 0, [])] : List zE), z_en zTB zNT vwCl zTF zDF zP ⟨"HeldCoats$Law", "copyFrom", "(LHeldCoats$Law;)V"⟩ prog_5_method_3_code en := List.forall_mem_cons.mpr ⟨ze_get (by decide +kernel) zK_3 (by decide) zw_202, List.forall_mem_cons.mpr ⟨ze_put (by decide +kernel) zK_3 (by decide) zw_202 (Or.inl rfl), List.forall_mem_cons.mpr ⟨ze_s (by decide +kernel) rfl, List.forall_mem_cons.mpr ⟨ze_get (by decide +kernel) zK_3 (by decide) zw_206, List.forall_mem_cons.mpr ⟨ze_s (by decide +kernel) rfl, List.forall_mem_cons.mpr ⟨ze_s (by decide +kernel) rfl, List.forall_mem_cons.mpr ⟨ze_get (by decide +kernel) zK_3 (by decide) zw_206, List.forall_mem_cons.mpr ⟨ze_s (by decide +kernel) rfl, List.forall_mem_cons.mpr ⟨ze_s (by decide +kernel) rfl, List.forall_mem_cons.mpr ⟨ze_cp (by decide +kernel) zw_688 zw_690 zw_689 zw_18, List.forall_mem_cons.mpr ⟨ze_s (by decide +kernel) rfl, List.forall_mem_cons.mpr ⟨ze_get (by decide +kernel) zK_3 (by decide) zw_212, List.forall_mem_cons.mpr ⟨ze_s (by decide +kernel) rfl, List.forall_mem_cons.mpr ⟨ze_s (by decide +kernel) rfl, List.forall_mem_cons.mpr ⟨ze_get (by decide +kernel) zK_3 (by decide) zw_212, List.forall_mem_cons.mpr ⟨ze_s (by decide +kernel) rfl, List.forall_mem_cons.mpr ⟨ze_s (by decide +kernel) rfl, List.forall_mem_cons.mpr ⟨ze_cp (by decide +kernel) zw_688 zw_690 zw_689 zw_18, List.forall_mem_cons.mpr ⟨ze_s (by decide +kernel) rfl, List.forall_mem_cons.mpr ⟨ze_get (by decide +kernel) zK_3 (by decide) zw_217, List.forall_mem_cons.mpr ⟨ze_s (by decide +kernel) rfl, List.forall_mem_cons.mpr ⟨ze_s (by decide +kernel) rfl, List.forall_mem_cons.mpr ⟨ze_get (by decide +kernel) zK_3 (by decide) zw_217, List.forall_mem_cons.mpr ⟨ze_s (by decide +kernel) rfl, List.forall_mem_cons.mpr ⟨ze_s (by decide +kernel) rfl, List.forall_mem_cons.mpr ⟨ze_cp (by decide +kernel) zw_688 zw_690 zw_689 zw_18, List.forall_mem_cons.mpr ⟨ze_s (by decide +kernel) rfl, List.forall_mem_cons.mpr ⟨ze_get (by decide +kernel) zK_3 (by decide) zw_222, List.forall_mem_cons.mpr ⟨ze_s (by decide +kernel) rfl, List.forall_mem_cons.mpr ⟨ze_s (by decide +kernel) rfl, fun _ h => absurd h List.not_mem_nil⟩⟩⟩⟩⟩⟩⟩⟩⟩⟩⟩⟩⟩⟩⟩⟩⟩⟩⟩⟩⟩⟩⟩⟩⟩⟩⟩⟩⟩⟩
set_option maxRecDepth 20000 in
theorem zo_X3_copyFrom_2 : ∀ en ∈ ([(115, .getfield 21, [3, 11]), (118, .iconst 0, []), (119, .bipush 8, []), (121, .invokestatic 69, [0]), (124, .aload_n 1, []), (125, .getfield 24, [3, 12]), (128, .iconst 0, []), (129, .aload_n 0, []), (130, .getfield 24, [3, 12]), (133, .iconst 0, []), (134, .bipush 8, []), (136, .invokestatic 69, [0]), (139, .aload_n 1, []), (140, .getfield 27, [3, 13]), (143, .iconst 0, []), (144, .aload_n 0, []), (145, .getfield 27, [3, 13]), (148, .iconst 0, []), (149, .bipush 8, []), (151, .invokestatic 69, [0]), (154, .aload_n 1, []), (155, .getfield 30, [3, 14]), (158, .iconst 0, []), (159, .aload_n 0, []), (160, .getfield 30, [3, 14]), (163, .iconst 0, []), (164, .bipush 8, []), (166, .invokestatic 69, [0]), (169, .aload_n 0, []), (170, .getfield 36, [3, 15])] : List zE), z_en zTB zNT vwCl zTF zDF zP ⟨"HeldCoats$Law", "copyFrom", "(LHeldCoats$Law;)V"⟩ prog_5_method_3_code en := List.forall_mem_cons.mpr ⟨ze_get (by decide +kernel) zK_3 (by decide) zw_222, List.forall_mem_cons.mpr ⟨ze_s (by decide +kernel) rfl, List.forall_mem_cons.mpr ⟨ze_s (by decide +kernel) rfl, List.forall_mem_cons.mpr ⟨ze_cp (by decide +kernel) zw_688 zw_690 zw_689 zw_18, List.forall_mem_cons.mpr ⟨ze_s (by decide +kernel) rfl, List.forall_mem_cons.mpr ⟨ze_get (by decide +kernel) zK_3 (by decide) zw_227, List.forall_mem_cons.mpr ⟨ze_s (by decide +kernel) rfl, List.forall_mem_cons.mpr ⟨ze_s (by decide +kernel) rfl, List.forall_mem_cons.mpr ⟨ze_get (by decide +kernel) zK_3 (by decide) zw_227, List.forall_mem_cons.mpr ⟨ze_s (by decide +kernel) rfl, List.forall_mem_cons.mpr ⟨ze_s (by decide +kernel) rfl, List.forall_mem_cons.mpr ⟨ze_cp (by decide +kernel) zw_688 zw_690 zw_689 zw_18, List.forall_mem_cons.mpr ⟨ze_s (by decide +kernel) rfl, List.forall_mem_cons.mpr ⟨ze_get (by decide +kernel) zK_3 (by decide) zw_230, List.forall_mem_cons.mpr ⟨ze_s (by decide +kernel) rfl, List.forall_mem_cons.mpr ⟨ze_s (by decide +kernel) rfl, List.forall_mem_cons.mpr ⟨ze_get (by decide +kernel) zK_3 (by decide) zw_230, List.forall_mem_cons.mpr ⟨ze_s (by decide +kernel) rfl, List.forall_mem_cons.mpr ⟨ze_s (by decide +kernel) rfl, List.forall_mem_cons.mpr ⟨ze_cp (by decide +kernel) zw_688 zw_690 zw_689 zw_18, List.forall_mem_cons.mpr ⟨ze_s (by decide +kernel) rfl, List.forall_mem_cons.mpr ⟨ze_get (by decide +kernel) zK_3 (by decide) zw_232, List.forall_mem_cons.mpr ⟨ze_s (by decide +kernel) rfl, List.forall_mem_cons.mpr ⟨ze_s (by decide +kernel) rfl, List.forall_mem_cons.mpr ⟨ze_get (by decide +kernel) zK_3 (by decide) zw_232, List.forall_mem_cons.mpr ⟨ze_s (by decide +kernel) rfl, List.forall_mem_cons.mpr ⟨ze_s (by decide +kernel) rfl, List.forall_mem_cons.mpr ⟨ze_cp (by decide +kernel) zw_688 zw_690 zw_689 zw_18, List.forall_mem_cons.mpr ⟨ze_s (by decide +kernel) rfl, List.forall_mem_cons.mpr ⟨ze_get (by decide +kernel) zK_3 (by decide) zw_234, fun _ h => absurd h List.not_mem_nil⟩⟩⟩⟩⟩⟩⟩⟩⟩⟩⟩⟩⟩⟩⟩⟩⟩⟩⟩⟩⟩⟩⟩⟩⟩⟩⟩⟩⟩⟩
set_option maxRecDepth 20000 in
theorem zo_X3_copyFrom_3 : ∀ en ∈ ([(173, .aload_n 1, []), (174, .getfield 36, [3, 15]), (177, .invokevirtual 75, [1, 30, 5]), (180, .return_, [])] : List zE), z_en zTB zNT vwCl zTF zDF zP ⟨"HeldCoats$Law", "copyFrom", "(LHeldCoats$Law;)V"⟩ prog_5_method_3_code en := List.forall_mem_cons.mpr ⟨ze_s (by decide +kernel) rfl, List.forall_mem_cons.mpr ⟨ze_get (by decide +kernel) zK_3 (by decide) zw_234, List.forall_mem_cons.mpr ⟨ze_cv (by decide +kernel) (by rfl) zY_X5_copyFrom (Or.inl zw_691) zw_692 zw_693 rfl, List.forall_mem_cons.mpr ⟨ze_s (by decide +kernel) rfl, fun _ h => absurd h List.not_mem_nil⟩⟩⟩⟩
theorem zo_X3_copyFrom : z_Mok zTB zNT vwCl zTF zDF zP zm_X3_copyFrom := ⟨by decide +kernel, List.forall_mem_append.mpr ⟨zo_X3_copyFrom_0, List.forall_mem_append.mpr ⟨zo_X3_copyFrom_1, List.forall_mem_append.mpr ⟨zo_X3_copyFrom_2, zo_X3_copyFrom_3⟩⟩⟩⟩
set_option maxRecDepth 20000 in
theorem zo_X5_copyFrom_0 : ∀ en ∈ ([(0, .aload_n 1, []), (1, .getfield 9, [5, 0]), (4, .iconst 0, []), (5, .aload_n 0, []), (6, .getfield 9, [5, 0]), (9, .iconst 0, []), (10, .bipush 22, []), (12, .invokestatic 26, [0]), (15, .aload_n 1, []), (16, .getfield 15, [5, 1]), (19, .iconst 0, []), (20, .aload_n 0, []), (21, .getfield 15, [5, 1]), (24, .iconst 0, []), (25, .bipush 22, []), (27, .invokestatic 26, [0]), (30, .aload_n 1, []), (31, .getfield 19, [5, 2]), (34, .iconst 0, []), (35, .aload_n 0, []), (36, .getfield 19, [5, 2]), (39, .iconst 0, []), (40, .bipush 22, []), (42, .invokestatic 26, [0]), (45, .aload_n 0, []), (46, .aload_n 1, []), (47, .getfield 22, [5, 3]), (50, .putfield 22, [5, 3]), (53, .return_, [])] : List zE), z_en zTB zNT vwCl zTF zDF zP ⟨"HeldCoats$Names", "copyFrom", "(LHeldCoats$Names;)V"⟩ prog_7_method_3_code en := List.forall_mem_cons.mpr ⟨ze_s (by decide +kernel) rfl, List.forall_mem_cons.mpr ⟨ze_get (by decide +kernel) zK_5 (by decide) zw_152, List.forall_mem_cons.mpr ⟨ze_s (by decide +kernel) rfl, List.forall_mem_cons.mpr ⟨ze_s (by decide +kernel) rfl, List.forall_mem_cons.mpr ⟨ze_get (by decide +kernel) zK_5 (by decide) zw_152, List.forall_mem_cons.mpr ⟨ze_s (by decide +kernel) rfl, List.forall_mem_cons.mpr ⟨ze_s (by decide +kernel) rfl, List.forall_mem_cons.mpr ⟨ze_cp (by decide +kernel) zw_695 zw_690 zw_689 zw_18, List.forall_mem_cons.mpr ⟨ze_s (by decide +kernel) rfl, List.forall_mem_cons.mpr ⟨ze_get (by decide +kernel) zK_5 (by decide) zw_153, List.forall_mem_cons.mpr ⟨ze_s (by decide +kernel) rfl, List.forall_mem_cons.mpr ⟨ze_s (by decide +kernel) rfl, List.forall_mem_cons.mpr ⟨ze_get (by decide +kernel) zK_5 (by decide) zw_153, List.forall_mem_cons.mpr ⟨ze_s (by decide +kernel) rfl, List.forall_mem_cons.mpr ⟨ze_s (by decide +kernel) rfl, List.forall_mem_cons.mpr ⟨ze_cp (by decide +kernel) zw_695 zw_690 zw_689 zw_18, List.forall_mem_cons.mpr ⟨ze_s (by decide +kernel) rfl, List.forall_mem_cons.mpr ⟨ze_get (by decide +kernel) zK_5 (by decide) zw_154, List.forall_mem_cons.mpr ⟨ze_s (by decide +kernel) rfl, List.forall_mem_cons.mpr ⟨ze_s (by decide +kernel) rfl, List.forall_mem_cons.mpr ⟨ze_get (by decide +kernel) zK_5 (by decide) zw_154, List.forall_mem_cons.mpr ⟨ze_s (by decide +kernel) rfl, List.forall_mem_cons.mpr ⟨ze_s (by decide +kernel) rfl, List.forall_mem_cons.mpr ⟨ze_cp (by decide +kernel) zw_695 zw_690 zw_689 zw_18, List.forall_mem_cons.mpr ⟨ze_s (by decide +kernel) rfl, List.forall_mem_cons.mpr ⟨ze_s (by decide +kernel) rfl, List.forall_mem_cons.mpr ⟨ze_get (by decide +kernel) zK_5 (by decide) zw_155, List.forall_mem_cons.mpr ⟨ze_put (by decide +kernel) zK_5 (by decide) zw_155 (Or.inl rfl), List.forall_mem_cons.mpr ⟨ze_s (by decide +kernel) rfl, fun _ h => absurd h List.not_mem_nil⟩⟩⟩⟩⟩⟩⟩⟩⟩⟩⟩⟩⟩⟩⟩⟩⟩⟩⟩⟩⟩⟩⟩⟩⟩⟩⟩⟩⟩
theorem zo_X5_copyFrom : z_Mok zTB zNT vwCl zTF zDF zP zm_X5_copyFrom := ⟨by decide +kernel, zo_X5_copyFrom_0⟩
set_option maxRecDepth 20000 in
theorem zo_X9_begin_0 : ∀ en ∈ ([(0, .aload_n 0, []), (1, .iconst 0, []), (2, .putfield 44, [9, 1]), (5, .aload_n 0, []), (6, .iconst 0, []), (7, .putfield 47, [9, 2]), (10, .aload_n 0, []), (11, .iconst (-1), []), (12, .putfield 40, [9, 3]), (15, .aload_n 0, []), (16, .iconst 0, []), (17, .putfield 50, [9, 4]), (20, .iconst 0, []), (21, .istore_n 1, []), (22, .iload_n 1, []), (23, .aload_n 0, []), (24, .getfield 36, [9, 0]), (27, .getfield 53, [3, 2]), (30, .if_icmp .ge 61, []), (91, .aload_n 0, []), (92, .getfield 27, [9, 10]), (95, .iconst 0, []), (96, .invokestatic 64, [1, 32]), (99, .aload_n 0, []), (100, .getfield 30, [9, 11]), (103, .iconst 0, []), (104, .invokestatic 64, [1, 32]), (107, .return_, [])] : List zE), z_en zTB zNT vwCl zTF zDF zP ⟨"HeldCoats$State", "begin", "()V"⟩ prog_11_method_2_code en := List.forall_mem_cons.mpr ⟨ze_s (by decide +kernel) rfl, List.forall_mem_cons.mpr ⟨ze_s (by decide +kernel) rfl, List.forall_mem_cons.mpr ⟨ze_put (by decide +kernel) zK_9 (by decide) zw_301 (Or.inl rfl), List.forall_mem_cons.mpr ⟨ze_s (by decide +kernel) rfl, List.forall_mem_cons.mpr ⟨ze_s (by decide +kernel) rfl, List.forall_mem_cons.mpr ⟨ze_put (by decide +kernel) zK_9 (by decide) zw_305 (Or.inl rfl), List.forall_mem_cons.mpr ⟨ze_s (by decide +kernel) rfl, List.forall_mem_cons.mpr ⟨ze_s (by decide +kernel) rfl, List.forall_mem_cons.mpr ⟨ze_put (by decide +kernel) zK_9 (by decide) zw_308 (Or.inl rfl), List.forall_mem_cons.mpr ⟨ze_s (by decide +kernel) rfl, List.forall_mem_cons.mpr ⟨ze_s (by decide +kernel) rfl, List.forall_mem_cons.mpr ⟨ze_put (by decide +kernel) zK_9 (by decide) zw_310 (Or.inl rfl), List.forall_mem_cons.mpr ⟨ze_s (by decide +kernel) rfl, List.forall_mem_cons.mpr ⟨ze_s (by decide +kernel) rfl, List.forall_mem_cons.mpr ⟨ze_s (by decide +kernel) rfl, List.forall_mem_cons.mpr ⟨ze_s (by decide +kernel) rfl, List.forall_mem_cons.mpr ⟨ze_get (by decide +kernel) zK_9 (by decide) zw_299, List.forall_mem_cons.mpr ⟨ze_get (by decide +kernel) zK_3 (by decide) zw_185, List.forall_mem_cons.mpr ⟨ze_s (by decide +kernel) rfl, List.forall_mem_cons.mpr ⟨ze_s (by decide +kernel) rfl, List.forall_mem_cons.mpr ⟨ze_get (by decide +kernel) zK_9 (by decide) zw_323, List.forall_mem_cons.mpr ⟨ze_s (by decide +kernel) rfl, List.forall_mem_cons.mpr ⟨ze_cs (by decide +kernel) (by rfl) zY_J7_fill_53178 (Or.inl zw_700) zw_701, List.forall_mem_cons.mpr ⟨ze_s (by decide +kernel) rfl, List.forall_mem_cons.mpr ⟨ze_get (by decide +kernel) zK_9 (by decide) zw_325, List.forall_mem_cons.mpr ⟨ze_s (by decide +kernel) rfl, List.forall_mem_cons.mpr ⟨ze_cs (by decide +kernel) (by rfl) zY_J7_fill_53178 (Or.inl zw_700) zw_701, List.forall_mem_cons.mpr ⟨ze_s (by decide +kernel) rfl, fun _ h => absurd h List.not_mem_nil⟩⟩⟩⟩⟩⟩⟩⟩⟩⟩⟩⟩⟩⟩⟩⟩⟩⟩⟩⟩⟩⟩⟩⟩⟩⟩⟩⟩
theorem zo_X9_begin : z_Mok zTB zNT vwCl zTF zDF zP zm_X9_begin := ⟨by decide +kernel, zo_X9_begin_0⟩
set_option maxRecDepth 20000 in
theorem zo_J7_fill_53178_0 : ∀ en ∈ ([(0, .iconst 0, []), (1, .istore_n 2, []), (2, .aload_n 0, []), (3, .arraylength, []), (4, .istore_n 3, []), (5, .iload_n 2, []), (6, .iload_n 3, []), (7, .if_icmp .ge 13, []), (10, .aload_n 0, []), (11, .iload_n 2, []), (12, .iload_n 1, []), (13, .iastore, []), (14, .iinc 2 1, []), (17, .goto (-12), []), (20, .return_, [])] : List zE), z_en zTB zNT vwCl zTF zDF zP ⟨"java/util/Arrays", "fill", "([II)V"⟩ prog_29_method_103_code en := List.forall_mem_cons.mpr ⟨ze_s (by decide +kernel) rfl, List.forall_mem_cons.mpr ⟨ze_s (by decide +kernel) rfl, List.forall_mem_cons.mpr ⟨ze_s (by decide +kernel) rfl, List.forall_mem_cons.mpr ⟨ze_s (by decide +kernel) rfl, List.forall_mem_cons.mpr ⟨ze_s (by decide +kernel) rfl, List.forall_mem_cons.mpr ⟨ze_s (by decide +kernel) rfl, List.forall_mem_cons.mpr ⟨ze_s (by decide +kernel) rfl, List.forall_mem_cons.mpr ⟨ze_s (by decide +kernel) rfl, List.forall_mem_cons.mpr ⟨ze_s (by decide +kernel) rfl, List.forall_mem_cons.mpr ⟨ze_s (by decide +kernel) rfl, List.forall_mem_cons.mpr ⟨ze_s (by decide +kernel) rfl, List.forall_mem_cons.mpr ⟨ze_s (by decide +kernel) rfl, List.forall_mem_cons.mpr ⟨ze_s (by decide +kernel) rfl, List.forall_mem_cons.mpr ⟨ze_s (by decide +kernel) rfl, List.forall_mem_cons.mpr ⟨ze_s (by decide +kernel) rfl, fun _ h => absurd h List.not_mem_nil⟩⟩⟩⟩⟩⟩⟩⟩⟩⟩⟩⟩⟩⟩⟩
theorem zo_J7_fill_53178 : z_Mok zTB zNT vwCl zTF zDF zP zm_J7_fill_53178 := ⟨by decide +kernel, zo_J7_fill_53178_0⟩
set_option maxRecDepth 20000 in
theorem zo_X7_clear_0 : ∀ en ∈ ([(0, .aload_n 0, []), (1, .iconst 0, []), (2, .putfield 24, [7, 4]), (5, .aload_n 0, []), (6, .iconst 0, []), (7, .putfield 28, [7, 5]), (10, .return_, [])] : List zE), z_en zTB zNT vwCl zTF zDF zP ⟨"HeldCoats$Sentence", "clear", "()V"⟩ prog_9_method_2_code en := List.forall_mem_cons.mpr ⟨ze_s (by decide +kernel) rfl, List.forall_mem_cons.mpr ⟨ze_s (by decide +kernel) rfl, List.forall_mem_cons.mpr ⟨ze_put (by decide +kernel) zK_7 (by decide) zw_385 (Or.inl rfl), List.forall_mem_cons.mpr ⟨ze_s (by decide +kernel) rfl, List.forall_mem_cons.mpr ⟨ze_s (by decide +kernel) rfl, List.forall_mem_cons.mpr ⟨ze_put (by decide +kernel) zK_7 (by decide) zw_386 (Or.inl rfl), List.forall_mem_cons.mpr ⟨ze_s (by decide +kernel) rfl, fun _ h => absurd h List.not_mem_nil⟩⟩⟩⟩⟩⟩⟩
theorem zo_X7_clear : z_Mok zTB zNT vwCl zTF zDF zP zm_X7_clear := ⟨by decide +kernel, zo_X7_clear_0⟩
set_option maxRecDepth 20000 in
theorem zo_X6_clear_0 : ∀ en ∈ ([(0, .aload_n 0, []), (1, .iconst 0, []), (2, .putfield 20, [6, 2]), (5, .return_, [])] : List zE), z_en zTB zNT vwCl zTF zDF zP ⟨"HeldCoats$Past", "clear", "()V"⟩ prog_8_method_2_code en := List.forall_mem_cons.mpr ⟨ze_s (by decide +kernel) rfl, List.forall_mem_cons.mpr ⟨ze_s (by decide +kernel) rfl, List.forall_mem_cons.mpr ⟨ze_put (by decide +kernel) zK_6 (by decide) zw_366 (Or.inl rfl), List.forall_mem_cons.mpr ⟨ze_s (by decide +kernel) rfl, fun _ h => absurd h List.not_mem_nil⟩⟩⟩⟩
theorem zo_X6_clear : z_Mok zTB zNT vwCl zTF zDF zP zm_X6_clear := ⟨by decide +kernel, zo_X6_clear_0⟩
set_option maxRecDepth 20000 in
theorem zo_X12_capital_0 : ∀ en ∈ ([(0, .aload_n 0, []), (1, .iconst 0, []), (2, .putfield 1, [12, 0]), (5, .aload_n 0, []), (6, .sipush 900, []), (9, .invokevirtual 219, [1, 36, 12]), (12, .aload_n 0, []), (13, .iconst 0, []), (14, .putfield 156, [12, 15]), (17, .aload_n 0, []), (18, .iconst 0, []), (19, .putfield 222, [12, 19]), (22, .aload_n 0, []), (23, .iconst 0, []), (24, .putfield 193, [12, 20]), (27, .aload_n 0, []), (28, .invokevirtual 126, [1, 14, 12]), (31, .aload_n 0, []), (32, .invokevirtual 168, [1, 37, 12]), (35, .aload_n 0, []), (36, .getfield 139, [12, 11]), (39, .ifCond .eq 39, []), (78, .iconst 0, []), (79, .istore_n 1, []), (80, .iload_n 1, []), (81, .sipush 299, []), (84, .if_icmp .ge 31, []), (87, .aload_n 0, []), (88, .getfield 33, [12, 6]), (91, .iload_n 1, [])] : List zE), z_en zTB zNT vwCl zTF zDF zP ⟨"HeldCoatsModel", "capital", "()I"⟩ prog_14_method_32_code en := List.forall_mem_cons.mpr ⟨ze_s (by decide +kernel) rfl, List.forall_mem_cons.mpr ⟨ze_s (by decide +kernel) rfl, List.forall_mem_cons.mpr ⟨ze_put (by decide +kernel) zK_12 (by decide) zw_1399 (Or.inl rfl), List.forall_mem_cons.mpr ⟨ze_s (by decide +kernel) rfl, List.forall_mem_cons.mpr ⟨ze_s (by decide +kernel) rfl, List.forall_mem_cons.mpr ⟨ze_cv (by decide +kernel) (by rfl) zY_X12_taken (Or.inl zw_1552) zw_1554 zs_42 rfl, List.forall_mem_cons.mpr ⟨ze_s (by decide +kernel) rfl, List.forall_mem_cons.mpr ⟨ze_s (by decide +kernel) rfl, List.forall_mem_cons.mpr ⟨ze_put (by decide +kernel) zK_12 (by decide) zw_1414 (Or.inl rfl), List.forall_mem_cons.mpr ⟨ze_s (by decide +kernel) rfl, List.forall_mem_cons.mpr ⟨ze_s (by decide +kernel) rfl, List.forall_mem_cons.mpr ⟨ze_put (by decide +kernel) zK_12 (by decide) zw_1418 (Or.inl rfl), List.forall_mem_cons.mpr ⟨ze_s (by decide +kernel) rfl, List.forall_mem_cons.mpr ⟨ze_s (by decide +kernel) rfl, List.forall_mem_cons.mpr ⟨ze_put (by decide +kernel) zK_12 (by decide) zw_1419 (Or.inl rfl), List.forall_mem_cons.mpr ⟨ze_s (by decide +kernel) rfl, List.forall_mem_cons.mpr ⟨ze_cv (by decide +kernel) (by rfl) zY_X12_clears (Or.inl zw_1395) zw_1397 zs_41 rfl, List.forall_mem_cons.mpr ⟨ze_s (by decide +kernel) rfl, List.forall_mem_cons.mpr ⟨ze_cv (by decide +kernel) (by rfl) zY_X12_next (Or.inl zw_1556) zw_1558 zs_43 rfl, List.forall_mem_cons.mpr ⟨ze_s (by decide +kernel) rfl, List.forall_mem_cons.mpr ⟨ze_get (by decide +kernel) zK_12 (by decide) zw_1410, List.forall_mem_cons.mpr ⟨ze_s (by decide +kernel) rfl, List.forall_mem_cons.mpr ⟨ze_s (by decide +kernel) rfl, List.forall_mem_cons.mpr ⟨ze_s (by decide +kernel) rfl, List.forall_mem_cons.mpr ⟨ze_s (by decide +kernel) rfl, List.forall_mem_cons.mpr ⟨ze_s (by decide +kernel) rfl, List.forall_mem_cons.mpr ⟨ze_s (by decide +kernel) rfl, List.forall_mem_cons.mpr ⟨ze_s (by decide +kernel) rfl, List.forall_mem_cons.mpr ⟨ze_get (by decide +kernel) zK_12 (by decide) zw_1405, List.forall_mem_cons.mpr ⟨ze_s (by decide +kernel) rfl, fun _ h => absurd h List.not_mem_nil⟩⟩⟩⟩⟩⟩⟩⟩⟩⟩⟩⟩⟩⟩⟩⟩⟩⟩⟩⟩⟩⟩⟩⟩⟩⟩⟩⟩⟩⟩
set_option maxRecDepth 20000 in
theorem zo_X12_capital_1 : ∀ en ∈ ([(92, .iload_n 1, []), (93, .bipush 62, []), (95, .if_icmp .ge 12, []), (98, .aload_n 0, []), (99, .getfield 37, [12, 7]), (102, .iload_n 1, []), (103, .iaload, []), (104, .goto 4, []), (107, .iconst 0, []), (108, .iastore, []), (109, .iinc 1 1, []), (112, .goto (-32), []), (115, .iconst 0, []), (116, .istore_n 1, []), (117, .iload_n 1, []), (118, .bipush 22, []), (120, .if_icmp .ge 24, []), (123, .aload_n 0, []), (124, .getfield 43, [12, 9]), (127, .iload_n 1, []), (128, .aload_n 0, []), (129, .getfield 43, [12, 9]), (132, .bipush 22, []), (134, .iload_n 1, []), (135, .iadd, []), (136, .laload, []), (137, .lastore, []), (138, .iinc 1 1, []), (141, .goto (-24), []), (144, .iconst 0, [])] : List zE), z_en zTB zNT vwCl zTF zDF zP ⟨"HeldCoatsModel", "capital", "()I"⟩ prog_14_method_32_code en := List.forall_mem_cons.mpr ⟨ze_s (by decide +kernel) rfl, List.forall_mem_cons.mpr ⟨ze_s (by decide +kernel) rfl, List.forall_mem_cons.mpr ⟨ze_s (by decide +kernel) rfl, List.forall_mem_cons.mpr ⟨ze_s (by decide +kernel) rfl, List.forall_mem_cons.mpr ⟨ze_get (by decide +kernel) zK_12 (by decide) zw_1406, List.forall_mem_cons.mpr ⟨ze_s (by decide +kernel) rfl, List.forall_mem_cons.mpr ⟨ze_s (by decide +kernel) rfl, List.forall_mem_cons.mpr ⟨ze_s (by decide +kernel) rfl, List.forall_mem_cons.mpr ⟨ze_s (by decide +kernel) rfl, List.forall_mem_cons.mpr ⟨ze_s (by decide +kernel) rfl, List.forall_mem_cons.mpr ⟨ze_s (by decide +kernel) rfl, List.forall_mem_cons.mpr ⟨ze_s (by decide +kernel) rfl, List.forall_mem_cons.mpr ⟨ze_s (by decide +kernel) rfl, List.forall_mem_cons.mpr ⟨ze_s (by decide +kernel) rfl, List.forall_mem_cons.mpr ⟨ze_s (by decide +kernel) rfl, List.forall_mem_cons.mpr ⟨ze_s (by decide +kernel) rfl, List.forall_mem_cons.mpr ⟨ze_s (by decide +kernel) rfl, List.forall_mem_cons.mpr ⟨ze_s (by decide +kernel) rfl, List.forall_mem_cons.mpr ⟨ze_get (by decide +kernel) zK_12 (by decide) zw_1408, List.forall_mem_cons.mpr ⟨ze_s (by decide +kernel) rfl, List.forall_mem_cons.mpr ⟨ze_s (by decide +kernel) rfl, List.forall_mem_cons.mpr ⟨ze_get (by decide +kernel) zK_12 (by decide) zw_1408, List.forall_mem_cons.mpr ⟨ze_s (by decide +kernel) rfl, List.forall_mem_cons.mpr ⟨ze_s (by decide +kernel) rfl, List.forall_mem_cons.mpr ⟨ze_s (by decide +kernel) rfl, List.forall_mem_cons.mpr ⟨ze_s (by decide +kernel) rfl, List.forall_mem_cons.mpr ⟨ze_s (by decide +kernel) rfl, List.forall_mem_cons.mpr ⟨ze_s (by decide +kernel) rfl, List.forall_mem_cons.mpr ⟨ze_s (by decide +kernel) rfl, List.forall_mem_cons.mpr ⟨ze_s (by decide +kernel) rfl, fun _ h => absurd h List.not_mem_nil⟩⟩⟩⟩⟩⟩⟩⟩⟩⟩⟩⟩⟩⟩⟩⟩⟩⟩⟩⟩⟩⟩⟩⟩⟩⟩⟩⟩⟩⟩
set_option maxRecDepth 20000 in
theorem zo_X12_capital_2 : ∀ en ∈ ([(145, .istore_n 1, []), (146, .iload_n 1, []), (147, .bipush 8, []), (149, .if_icmp .ge 63, []), (152, .aload_n 0, []), (153, .getfield 33, [12, 6]), (156, .bipush 65, []), (158, .iload_n 1, []), (159, .iadd, []), (160, .aload_n 0, []), (161, .getfield 33, [12, 6]), (164, .bipush 22, []), (166, .iload_n 1, []), (167, .iadd, []), (168, .iaload, []), (169, .iastore, []), (170, .aload_n 0, []), (171, .getfield 33, [12, 6]), (174, .bipush 73, []), (176, .iload_n 1, []), (177, .iadd, []), (178, .aload_n 0, []), (179, .getfield 33, [12, 6]), (182, .bipush 22, []), (184, .iload_n 1, []), (185, .iadd, []), (186, .iaload, []), (187, .iastore, []), (188, .aload_n 0, []), (189, .getfield 33, [12, 6])] : List zE), z_en zTB zNT vwCl zTF zDF zP ⟨"HeldCoatsModel", "capital", "()I"⟩ prog_14_method_32_code en := List.forall_mem_cons.mpr ⟨ze_s (by decide +kernel) rfl, List.forall_mem_cons.mpr ⟨ze_s (by decide +kernel) rfl, List.forall_mem_cons.mpr ⟨ze_s (by decide +kernel) rfl, List.forall_mem_cons.mpr ⟨ze_s (by decide +kernel) rfl, List.forall_mem_cons.mpr ⟨ze_s (by decide +kernel) rfl, List.forall_mem_cons.mpr ⟨ze_get (by decide +kernel) zK_12 (by decide) zw_1405, List.forall_mem_cons.mpr ⟨ze_s (by decide +kernel) rfl, List.forall_mem_cons.mpr ⟨ze_s (by decide +kernel) rfl, List.forall_mem_cons.mpr ⟨ze_s (by decide +kernel) rfl, List.forall_mem_cons.mpr ⟨ze_s (by decide +kernel) rfl, List.forall_mem_cons.mpr ⟨ze_get (by decide +kernel) zK_12 (by decide) zw_1405, List.forall_mem_cons.mpr ⟨ze_s (by decide +kernel) rfl, List.forall_mem_cons.mpr ⟨ze_s (by decide +kernel) rfl, List.forall_mem_cons.mpr ⟨ze_s (by decide +kernel) rfl, List.forall_mem_cons.mpr ⟨ze_s (by decide +kernel) rfl, List.forall_mem_cons.mpr ⟨ze_s (by decide +kernel) rfl, List.forall_mem_cons.mpr ⟨ze_s (by decide +kernel) rfl, List.forall_mem_cons.mpr ⟨ze_get (by decide +kernel) zK_12 (by decide) zw_1405, List.forall_mem_cons.mpr ⟨ze_s (by decide +kernel) rfl, List.forall_mem_cons.mpr ⟨ze_s (by decide +kernel) rfl, List.forall_mem_cons.mpr ⟨ze_s (by decide +kernel) rfl, List.forall_mem_cons.mpr ⟨ze_s (by decide +kernel) rfl, List.forall_mem_cons.mpr ⟨ze_get (by decide +kernel) zK_12 (by decide) zw_1405, List.forall_mem_cons.mpr ⟨ze_s (by decide +kernel) rfl, List.forall_mem_cons.mpr ⟨ze_s (by decide +kernel) rfl, List.forall_mem_cons.mpr ⟨ze_s (by decide +kernel) rfl, List.forall_mem_cons.mpr ⟨ze_s (by decide +kernel) rfl, List.forall_mem_cons.mpr ⟨ze_s (by decide +kernel) rfl, List.forall_mem_cons.mpr ⟨ze_s (by decide +kernel) rfl, List.forall_mem_cons.mpr ⟨ze_get (by decide +kernel) zK_12 (by decide) zw_1405, fun _ h => absurd h List.not_mem_nil⟩⟩⟩⟩⟩⟩⟩⟩⟩⟩⟩⟩⟩⟩⟩⟩⟩⟩⟩⟩⟩⟩⟩⟩⟩⟩⟩⟩⟩⟩
set_option maxRecDepth 20000 in
theorem zo_X12_capital_3 : ∀ en ∈ ([(192, .bipush 81, []), (194, .iload_n 1, []), (195, .iadd, []), (196, .aload_n 0, []), (197, .getfield 33, [12, 6]), (200, .bipush 38, []), (202, .iload_n 1, []), (203, .iadd, []), (204, .iaload, []), (205, .iastore, []), (206, .iinc 1 1, []), (209, .goto (-63), []), (212, .aload_n 0, []), (213, .iconst 0, []), (214, .putfield 231, [12, 23]), (217, .aload_n 0, []), (218, .getfield 222, [12, 19]), (221, .ireturn, [])] : List zE), z_en zTB zNT vwCl zTF zDF zP ⟨"HeldCoatsModel", "capital", "()I"⟩ prog_14_method_32_code en := List.forall_mem_cons.mpr ⟨ze_s (by decide +kernel) rfl, List.forall_mem_cons.mpr ⟨ze_s (by decide +kernel) rfl, List.forall_mem_cons.mpr ⟨ze_s (by decide +kernel) rfl, List.forall_mem_cons.mpr ⟨ze_s (by decide +kernel) rfl, List.forall_mem_cons.mpr ⟨ze_get (by decide +kernel) zK_12 (by decide) zw_1405, List.forall_mem_cons.mpr ⟨ze_s (by decide +kernel) rfl, List.forall_mem_cons.mpr ⟨ze_s (by decide +kernel) rfl, List.forall_mem_cons.mpr ⟨ze_s (by decide +kernel) rfl, List.forall_mem_cons.mpr ⟨ze_s (by decide +kernel) rfl, List.forall_mem_cons.mpr ⟨ze_s (by decide +kernel) rfl, List.forall_mem_cons.mpr ⟨ze_s (by decide +kernel) rfl, List.forall_mem_cons.mpr ⟨ze_s (by decide +kernel) rfl, List.forall_mem_cons.mpr ⟨ze_s (by decide +kernel) rfl, List.forall_mem_cons.mpr ⟨ze_s (by decide +kernel) rfl, List.forall_mem_cons.mpr ⟨ze_put (by decide +kernel) zK_12 (by decide) zw_1422 (Or.inl rfl), List.forall_mem_cons.mpr ⟨ze_s (by decide +kernel) rfl, List.forall_mem_cons.mpr ⟨ze_get (by decide +kernel) zK_12 (by decide) zw_1418, List.forall_mem_cons.mpr ⟨ze_s (by decide +kernel) rfl, fun _ h => absurd h List.not_mem_nil⟩⟩⟩⟩⟩⟩⟩⟩⟩⟩⟩⟩⟩⟩⟩⟩⟩⟩
theorem zo_X12_capital : z_Mok zTB zNT vwCl zTF zDF zP zm_X12_capital := ⟨by decide +kernel, List.forall_mem_append.mpr ⟨zo_X12_capital_0, List.forall_mem_append.mpr ⟨zo_X12_capital_1, List.forall_mem_append.mpr ⟨zo_X12_capital_2, zo_X12_capital_3⟩⟩⟩⟩
set_option maxRecDepth 20000 in
theorem zo_X12_taken_0 : ∀ en ∈ ([(0, .aload_n 0, []), (1, .aload_n 0, []), (2, .getfield 7, [12, 2]), (5, .putfield 18, [12, 3]), (8, .aload_n 0, []), (9, .iconst 0, []), (10, .putfield 7, [12, 2]), (13, .aload_n 0, []), (14, .iconst 0, []), (15, .putfield 21, [12, 4]), (18, .aload_n 0, []), (19, .iload_n 1, []), (20, .putfield 24, [12, 5]), (23, .return_, [])] : List zE), z_en zTB zNT vwCl zTF zDF zP ⟨"HeldCoatsModel", "taken", "(I)V"⟩ prog_14_method_6_code en := List.forall_mem_cons.mpr ⟨ze_s (by decide +kernel) rfl, List.forall_mem_cons.mpr ⟨ze_s (by decide +kernel) rfl, List.forall_mem_cons.mpr ⟨ze_get (by decide +kernel) zK_12 (by decide) zw_1401, List.forall_mem_cons.mpr ⟨ze_put (by decide +kernel) zK_12 (by decide) zw_1402 (Or.inl rfl), List.forall_mem_cons.mpr ⟨ze_s (by decide +kernel) rfl, List.forall_mem_cons.mpr ⟨ze_s (by decide +kernel) rfl, List.forall_mem_cons.mpr ⟨ze_put (by decide +kernel) zK_12 (by decide) zw_1401 (Or.inl rfl), List.forall_mem_cons.mpr ⟨ze_s (by decide +kernel) rfl, List.forall_mem_cons.mpr ⟨ze_s (by decide +kernel) rfl, List.forall_mem_cons.mpr ⟨ze_put (by decide +kernel) zK_12 (by decide) zw_1403 (Or.inl rfl), List.forall_mem_cons.mpr ⟨ze_s (by decide +kernel) rfl, List.forall_mem_cons.mpr ⟨ze_s (by decide +kernel) rfl, List.forall_mem_cons.mpr ⟨ze_put (by decide +kernel) zK_12 (by decide) zw_1404 (Or.inl rfl), List.forall_mem_cons.mpr ⟨ze_s (by decide +kernel) rfl, fun _ h => absurd h List.not_mem_nil⟩⟩⟩⟩⟩⟩⟩⟩⟩⟩⟩⟩⟩⟩
theorem zo_X12_taken : z_Mok zTB zNT vwCl zTF zDF zP zm_X12_taken := ⟨by decide +kernel, zo_X12_taken_0⟩
set_option maxRecDepth 20000 in
theorem zo_X12_next_0 : ∀ en ∈ ([(0, .aload_n 0, []), (1, .invokevirtual 129, [1, 38, 12]), (4, .bipush 32, []), (6, .if_icmp .eq 12, []), (9, .aload_n 0, []), (10, .invokevirtual 129, [1, 38, 12]), (13, .bipush 10, []), (15, .if_icmp .ne 16, []), (31, .aload_n 0, []), (32, .aload_n 0, []), (33, .getfield 21, [12, 4]), (36, .putfield 133, [12, 12]), (39, .aload_n 0, []), (40, .iconst 0, []), (41, .putfield 136, [12, 13]), (44, .aload_n 0, []), (45, .getfield 18, [12, 3]), (48, .aload_n 0, []), (49, .getfield 24, [12, 5]), (52, .if_icmp .le 28, []), (80, .aload_n 0, []), (81, .invokevirtual 129, [1, 38, 12]), (84, .istore_n 1, []), (85, .iload_n 1, []), (86, .ifCond .ge 9, []), (89, .aload_n 0, []), (90, .iconst 0, []), (91, .putfield 139, [12, 11]), (94, .return_, [])] : List zE), z_en zTB zNT vwCl zTF zDF zP ⟨"HeldCoatsModel", "next", "()V"⟩ prog_14_method_17_code en := List.forall_mem_cons.mpr ⟨ze_s (by decide +kernel) rfl, List.forall_mem_cons.mpr ⟨ze_cv (by decide +kernel) (by rfl) zY_X12_peek (Or.inl zw_1560) zw_1562 zs_44 rfl, List.forall_mem_cons.mpr ⟨ze_s (by decide +kernel) rfl, List.forall_mem_cons.mpr ⟨ze_s (by decide +kernel) rfl, List.forall_mem_cons.mpr ⟨ze_s (by decide +kernel) rfl, List.forall_mem_cons.mpr ⟨ze_cv (by decide +kernel) (by rfl) zY_X12_peek (Or.inl zw_1560) zw_1562 zs_44 rfl, List.forall_mem_cons.mpr ⟨ze_s (by decide +kernel) rfl, List.forall_mem_cons.mpr ⟨ze_s (by decide +kernel) rfl, List.forall_mem_cons.mpr ⟨ze_s (by decide +kernel) rfl, List.forall_mem_cons.mpr ⟨ze_s (by decide +kernel) rfl, List.forall_mem_cons.mpr ⟨ze_get (by decide +kernel) zK_12 (by decide) zw_1403, List.forall_mem_cons.mpr ⟨ze_put (by decide +kernel) zK_12 (by decide) zw_1411 (Or.inl rfl), List.forall_mem_cons.mpr ⟨ze_s (by decide +kernel) rfl, List.forall_mem_cons.mpr ⟨ze_s (by decide +kernel) rfl, List.forall_mem_cons.mpr ⟨ze_put (by decide +kernel) zK_12 (by decide) zw_1412 (Or.inl rfl), List.forall_mem_cons.mpr ⟨ze_s (by decide +kernel) rfl, List.forall_mem_cons.mpr ⟨ze_get (by decide +kernel) zK_12 (by decide) zw_1402, List.forall_mem_cons.mpr ⟨ze_s (by decide +kernel) rfl, List.forall_mem_cons.mpr ⟨ze_get (by decide +kernel) zK_12 (by decide) zw_1404, List.forall_mem_cons.mpr ⟨ze_s (by decide +kernel) rfl, List.forall_mem_cons.mpr ⟨ze_s (by decide +kernel) rfl, List.forall_mem_cons.mpr ⟨ze_cv (by decide +kernel) (by rfl) zY_X12_peek (Or.inl zw_1560) zw_1562 zs_44 rfl, List.forall_mem_cons.mpr ⟨ze_s (by decide +kernel) rfl, List.forall_mem_cons.mpr ⟨ze_s (by decide +kernel) rfl, List.forall_mem_cons.mpr ⟨ze_s (by decide +kernel) rfl, List.forall_mem_cons.mpr ⟨ze_s (by decide +kernel) rfl, List.forall_mem_cons.mpr ⟨ze_s (by decide +kernel) rfl, List.forall_mem_cons.mpr ⟨ze_put (by decide +kernel) zK_12 (by decide) zw_1410 (Or.inl rfl), List.forall_mem_cons.mpr ⟨ze_s (by decide +kernel) rfl, fun _ h => absurd h List.not_mem_nil⟩⟩⟩⟩⟩⟩⟩⟩⟩⟩⟩⟩⟩⟩⟩⟩⟩⟩⟩⟩⟩⟩⟩⟩⟩⟩⟩⟩⟩
theorem zo_X12_next : z_Mok zTB zNT vwCl zTF zDF zP zm_X12_next := ⟨by decide +kernel, zo_X12_next_0⟩
set_option maxRecDepth 20000 in
theorem zo_X12_peek_0 : ∀ en ∈ ([(0, .aload_n 0, []), (1, .getfield 21, [12, 4]), (4, .aload_n 0, []), (5, .getfield 18, [12, 3]), (8, .if_icmp .ge 19, []), (27, .iconst (-1), []), (28, .ireturn, [])] : List zE), z_en zTB zNT vwCl zTF zDF zP ⟨"HeldCoatsModel", "peek", "()I"⟩ prog_14_method_14_code en := List.forall_mem_cons.mpr ⟨ze_s (by decide +kernel) rfl, List.forall_mem_cons.mpr ⟨ze_get (by decide +kernel) zK_12 (by decide) zw_1403, List.forall_mem_cons.mpr ⟨ze_s (by decide +kernel) rfl, List.forall_mem_cons.mpr ⟨ze_get (by decide +kernel) zK_12 (by decide) zw_1402, List.forall_mem_cons.mpr ⟨ze_s (by decide +kernel) rfl, List.forall_mem_cons.mpr ⟨ze_s (by decide +kernel) rfl, List.forall_mem_cons.mpr ⟨ze_s (by decide +kernel) rfl, fun _ h => absurd h List.not_mem_nil⟩⟩⟩⟩⟩⟩⟩
theorem zo_X12_peek : z_Mok zTB zNT vwCl zTF zDF zP zm_X12_peek := ⟨by decide +kernel, zo_X12_peek_0⟩
set_option maxRecDepth 20000 in
theorem zo_X11_fault_0 : ∀ en ∈ ([(0, .aload_n 0, []), (1, .getfield 119, [11, 10]), (4, .ireturn, [])] : List zE), z_en zTB zNT vwCl zTF zDF zP ⟨"HeldCoats", "fault", "()I"⟩ prog_1_method_5_code en := List.forall_mem_cons.mpr ⟨ze_s (by decide +kernel) rfl, List.forall_mem_cons.mpr ⟨ze_get (by decide +kernel) zK_11 (by decide) zw_541, List.forall_mem_cons.mpr ⟨ze_s (by decide +kernel) rfl, fun _ h => absurd h List.not_mem_nil⟩⟩⟩
theorem zo_X11_fault : z_Mok zTB zNT vwCl zTF zDF zP zm_X11_fault := ⟨by decide +kernel, zo_X11_fault_0⟩
set_option maxRecDepth 20000 in
theorem zo_X12_fault_0 : ∀ en ∈ ([(0, .aload_n 0, []), (1, .iconst 0, []), (2, .putfield 1, [12, 0]), (5, .aload_n 0, []), (6, .getfield 156, [12, 15]), (9, .ireturn, [])] : List zE), z_en zTB zNT vwCl zTF zDF zP ⟨"HeldCoatsModel", "fault", "()I"⟩ prog_14_method_33_code en := List.forall_mem_cons.mpr ⟨ze_s (by decide +kernel) rfl, List.forall_mem_cons.mpr ⟨ze_s (by decide +kernel) rfl, List.forall_mem_cons.mpr ⟨ze_put (by decide +kernel) zK_12 (by decide) zw_1399 (Or.inl rfl), List.forall_mem_cons.mpr ⟨ze_s (by decide +kernel) rfl, List.forall_mem_cons.mpr ⟨ze_get (by decide +kernel) zK_12 (by decide) zw_1414, List.forall_mem_cons.mpr ⟨ze_s (by decide +kernel) rfl, fun _ h => absurd h List.not_mem_nil⟩⟩⟩⟩⟩⟩
theorem zo_X12_fault : z_Mok zTB zNT vwCl zTF zDF zP zm_X12_fault := ⟨by decide +kernel, zo_X12_fault_0⟩
set_option maxRecDepth 20000 in
theorem zo_X11_seat_0 : ∀ en ∈ ([(0, .aload_n 0, []), (1, .getfield 19, [11, 1]), (4, .iload_n 1, []), (5, .invokevirtual 122, [1, 42, 3]), (8, .ifCond .ne 5, []), (11, .iconst (-1), []), (12, .ireturn, [])] : List zE), z_en zTB zNT vwCl zTF zDF zP ⟨"HeldCoats", "seat", "(II)I"⟩ prog_1_method_6_code en := List.forall_mem_cons.mpr ⟨ze_s (by decide +kernel) rfl, List.forall_mem_cons.mpr ⟨ze_get (by decide +kernel) zK_11 (by decide) zw_532, List.forall_mem_cons.mpr ⟨ze_s (by decide +kernel) rfl, List.forall_mem_cons.mpr ⟨ze_cv (by decide +kernel) (by rfl) zY_X3_hasSeat (Or.inl zw_719) zw_720 zw_721 rfl, List.forall_mem_cons.mpr ⟨ze_s (by decide +kernel) rfl, List.forall_mem_cons.mpr ⟨ze_s (by decide +kernel) rfl, List.forall_mem_cons.mpr ⟨ze_s (by decide +kernel) rfl, fun _ h => absurd h List.not_mem_nil⟩⟩⟩⟩⟩⟩⟩
theorem zo_X11_seat : z_Mok zTB zNT vwCl zTF zDF zP zm_X11_seat := ⟨by decide +kernel, zo_X11_seat_0⟩
set_option maxRecDepth 20000 in
theorem zo_X3_hasSeat_0 : ∀ en ∈ ([(0, .iload_n 1, []), (1, .ifCond .lt 15, []), (4, .iload_n 1, []), (5, .aload_n 0, []), (6, .getfield 43, [3, 0]), (9, .if_icmp .ge 7, []), (16, .iconst 0, []), (17, .ireturn, [])] : List zE), z_en zTB zNT vwCl zTF zDF zP ⟨"HeldCoats$Law", "hasSeat", "(I)Z"⟩ prog_5_method_4_code en := List.forall_mem_cons.mpr ⟨ze_s (by decide +kernel) rfl, List.forall_mem_cons.mpr ⟨ze_s (by decide +kernel) rfl, List.forall_mem_cons.mpr ⟨ze_s (by decide +kernel) rfl, List.forall_mem_cons.mpr ⟨ze_s (by decide +kernel) rfl, List.forall_mem_cons.mpr ⟨ze_get (by decide +kernel) zK_3 (by decide) zw_173, List.forall_mem_cons.mpr ⟨ze_s (by decide +kernel) rfl, List.forall_mem_cons.mpr ⟨ze_s (by decide +kernel) rfl, List.forall_mem_cons.mpr ⟨ze_s (by decide +kernel) rfl, fun _ h => absurd h List.not_mem_nil⟩⟩⟩⟩⟩⟩⟩⟩
theorem zo_X3_hasSeat : z_Mok zTB zNT vwCl zTF zDF zP zm_X3_hasSeat := ⟨by decide +kernel, zo_X3_hasSeat_0⟩
set_option maxRecDepth 20000 in
theorem zo_X12_seat_0 : ∀ en ∈ ([(0, .aload_n 0, []), (1, .iconst 0, []), (2, .putfield 1, [12, 0]), (5, .aload_n 0, []), (6, .iload_n 1, []), (7, .invokevirtual 264, [1, 44, 12]), (10, .ifCond .ne 5, []), (13, .iconst (-1), []), (14, .ireturn, [])] : List zE), z_en zTB zNT vwCl zTF zDF zP ⟨"HeldCoatsModel", "seat", "(II)I"⟩ prog_14_method_49_code en := List.forall_mem_cons.mpr ⟨ze_s (by decide +kernel) rfl, List.forall_mem_cons.mpr ⟨ze_s (by decide +kernel) rfl, List.forall_mem_cons.mpr ⟨ze_put (by decide +kernel) zK_12 (by decide) zw_1399 (Or.inl rfl), List.forall_mem_cons.mpr ⟨ze_s (by decide +kernel) rfl, List.forall_mem_cons.mpr ⟨ze_s (by decide +kernel) rfl, List.forall_mem_cons.mpr ⟨ze_cv (by decide +kernel) (by rfl) zY_X12_isSeat (Or.inl zw_1640) zw_1642 zs_59 rfl, List.forall_mem_cons.mpr ⟨ze_s (by decide +kernel) rfl, List.forall_mem_cons.mpr ⟨ze_s (by decide +kernel) rfl, List.forall_mem_cons.mpr ⟨ze_s (by decide +kernel) rfl, fun _ h => absurd h List.not_mem_nil⟩⟩⟩⟩⟩⟩⟩⟩⟩
theorem zo_X12_seat : z_Mok zTB zNT vwCl zTF zDF zP zm_X12_seat := ⟨by decide +kernel, zo_X12_seat_0⟩
set_option maxRecDepth 20000 in
theorem zo_X12_isSeat_0 : ∀ en ∈ ([(0, .iload_n 1, []), (1, .iconst 0, []), (2, .aload_n 0, []), (3, .getfield 33, [12, 6]), (6, .iconst 0, []), (7, .iaload, []), (8, .iconst 1, []), (9, .isub, []), (10, .invokestatic 171, [1, 45]), (13, .ireturn, [])] : List zE), z_en zTB zNT vwCl zTF zDF zP ⟨"HeldCoatsModel", "isSeat", "(I)Z"⟩ prog_14_method_34_code en := List.forall_mem_cons.mpr ⟨ze_s (by decide +kernel) rfl, List.forall_mem_cons.mpr ⟨ze_s (by decide +kernel) rfl, List.forall_mem_cons.mpr ⟨ze_s (by decide +kernel) rfl, List.forall_mem_cons.mpr ⟨ze_get (by decide +kernel) zK_12 (by decide) zw_1405, List.forall_mem_cons.mpr ⟨ze_s (by decide +kernel) rfl, List.forall_mem_cons.mpr ⟨ze_s (by decide +kernel) rfl, List.forall_mem_cons.mpr ⟨ze_s (by decide +kernel) rfl, List.forall_mem_cons.mpr ⟨ze_s (by decide +kernel) rfl, List.forall_mem_cons.mpr ⟨ze_cs (by decide +kernel) (by rfl) zY_X12_isIn (Or.inl zw_1602) zw_1603, List.forall_mem_cons.mpr ⟨ze_s (by decide +kernel) rfl, fun _ h => absurd h List.not_mem_nil⟩⟩⟩⟩⟩⟩⟩⟩⟩⟩
theorem zo_X12_isSeat : z_Mok zTB zNT vwCl zTF zDF zP zm_X12_isSeat := ⟨by decide +kernel, zo_X12_isSeat_0⟩
set_option maxRecDepth 20000 in
theorem zo_X12_isIn_0 : ∀ en ∈ ([(0, .iload_n 0, []), (1, .iload_n 1, []), (2, .if_icmp .lt 12, []), (5, .iload_n 0, []), (6, .iload_n 2, []), (7, .if_icmp .gt 7, []), (10, .iconst 1, []), (11, .goto 4, []), (14, .iconst 0, []), (15, .ireturn, [])] : List zE), z_en zTB zNT vwCl zTF zDF zP ⟨"HeldCoatsModel", "isIn", "(III)Z"⟩ prog_14_method_7_code en := List.forall_mem_cons.mpr ⟨ze_s (by decide +kernel) rfl, List.forall_mem_cons.mpr ⟨ze_s (by decide +kernel) rfl, List.forall_mem_cons.mpr ⟨ze_s (by decide +kernel) rfl, List.forall_mem_cons.mpr ⟨ze_s (by decide +kernel) rfl, List.forall_mem_cons.mpr ⟨ze_s (by decide +kernel) rfl, List.forall_mem_cons.mpr ⟨ze_s (by decide +kernel) rfl, List.forall_mem_cons.mpr ⟨ze_s (by decide +kernel) rfl, List.forall_mem_cons.mpr ⟨ze_s (by decide +kernel) rfl, List.forall_mem_cons.mpr ⟨ze_s (by decide +kernel) rfl, List.forall_mem_cons.mpr ⟨ze_s (by decide +kernel) rfl, fun _ h => absurd h List.not_mem_nil⟩⟩⟩⟩⟩⟩⟩⟩⟩⟩
theorem zo_X12_isIn : z_Mok zTB zNT vwCl zTF zDF zP zm_X12_isIn := ⟨by decide +kernel, zo_X12_isIn_0⟩
set_option maxRecDepth 20000 in
theorem zo_X11_now_0 : ∀ en ∈ ([(0, .iload_n 1, []), (1, .tableswitch 133 0 7 #[47, 55, 70, 93, 101, 109, 117, 125], [47]), (48, .aload_n 0, []), (49, .getfield 37, [11, 3]), (52, .getfield 188, [9, 1]), (55, .ireturn, []), (56, .aload_n 0, []), (57, .getfield 19, [11, 1]), (60, .aload_n 0, []), (61, .getfield 37, [11, 3]), (64, .getfield 188, [9, 1]), (67, .invokevirtual 191, [1, 48, 3]), (70, .ireturn, []), (71, .aload_n 0, []), (72, .getfield 19, [11, 1]), (75, .aload_n 0, []), (76, .getfield 37, [11, 3]), (79, .getfield 188, [9, 1]), (82, .invokevirtual 194, [1, 50, 3]), (85, .ifCond .eq 7, []), (92, .iconst 0, []), (93, .ireturn, []), (94, .aload_n 0, []), (95, .getfield 37, [11, 3]), (98, .invokevirtual 197, [1, 52, 9]), (101, .ireturn, []), (102, .aload_n 0, []), (103, .getfield 37, [11, 3]), (106, .getfield 201, [9, 2]), (109, .ireturn, [])] : List zE), z_en zTB zNT vwCl zTF zDF zP ⟨"HeldCoats", "now", "(I)I"⟩ prog_1_method_9_code en := List.forall_mem_cons.mpr ⟨ze_s (by decide +kernel) rfl, List.forall_mem_cons.mpr ⟨ze_s (by decide +kernel) rfl, List.forall_mem_cons.mpr ⟨ze_s (by decide +kernel) rfl, List.forall_mem_cons.mpr ⟨ze_get (by decide +kernel) zK_11 (by decide) zw_534, List.forall_mem_cons.mpr ⟨ze_get (by decide +kernel) zK_9 (by decide) zw_304, List.forall_mem_cons.mpr ⟨ze_s (by decide +kernel) rfl, List.forall_mem_cons.mpr ⟨ze_s (by decide +kernel) rfl, List.forall_mem_cons.mpr ⟨ze_get (by decide +kernel) zK_11 (by decide) zw_532, List.forall_mem_cons.mpr ⟨ze_s (by decide +kernel) rfl, List.forall_mem_cons.mpr ⟨ze_get (by decide +kernel) zK_11 (by decide) zw_534, List.forall_mem_cons.mpr ⟨ze_get (by decide +kernel) zK_9 (by decide) zw_304, List.forall_mem_cons.mpr ⟨ze_cv (by decide +kernel) (by rfl) zY_X3_coldOn (Or.inl zw_748) zw_737 zw_738 rfl, List.forall_mem_cons.mpr ⟨ze_s (by decide +kernel) rfl, List.forall_mem_cons.mpr ⟨ze_s (by decide +kernel) rfl, List.forall_mem_cons.mpr ⟨ze_get (by decide +kernel) zK_11 (by decide) zw_532, List.forall_mem_cons.mpr ⟨ze_s (by decide +kernel) rfl, List.forall_mem_cons.mpr ⟨ze_get (by decide +kernel) zK_11 (by decide) zw_534, List.forall_mem_cons.mpr ⟨ze_get (by decide +kernel) zK_9 (by decide) zw_304, List.forall_mem_cons.mpr ⟨ze_cv (by decide +kernel) (by rfl) zY_X3_isSummer (Or.inl zw_749) zw_733 zw_734 rfl, List.forall_mem_cons.mpr ⟨ze_s (by decide +kernel) rfl, List.forall_mem_cons.mpr ⟨ze_s (by decide +kernel) rfl, List.forall_mem_cons.mpr ⟨ze_s (by decide +kernel) rfl, List.forall_mem_cons.mpr ⟨ze_s (by decide +kernel) rfl, List.forall_mem_cons.mpr ⟨ze_get (by decide +kernel) zK_11 (by decide) zw_534, List.forall_mem_cons.mpr ⟨ze_cv (by decide +kernel) (by rfl) zY_X9_ruler (Or.inl zw_750) zw_751 zw_752 rfl, List.forall_mem_cons.mpr ⟨ze_s (by decide +kernel) rfl, List.forall_mem_cons.mpr ⟨ze_s (by decide +kernel) rfl, List.forall_mem_cons.mpr ⟨ze_get (by decide +kernel) zK_11 (by decide) zw_534, List.forall_mem_cons.mpr ⟨ze_get (by decide +kernel) zK_9 (by decide) zw_307, List.forall_mem_cons.mpr ⟨ze_s (by decide +kernel) rfl, fun _ h => absurd h List.not_mem_nil⟩⟩⟩⟩⟩⟩⟩⟩⟩⟩⟩⟩⟩⟩⟩⟩⟩⟩⟩⟩⟩⟩⟩⟩⟩⟩⟩⟩⟩⟩
set_option maxRecDepth 20000 in
theorem zo_X11_now_1 : ∀ en ∈ ([(110, .aload_n 0, []), (111, .getfield 37, [11, 3]), (114, .getfield 204, [9, 3]), (117, .ireturn, []), (118, .aload_n 0, []), (119, .getfield 37, [11, 3]), (122, .getfield 207, [9, 4]), (125, .ireturn, []), (126, .aload_n 0, []), (127, .getfield 37, [11, 3]), (130, .invokevirtual 210, [1, 56, 9]), (133, .ireturn, []), (134, .iconst (-1), []), (135, .ireturn, [])] : List zE), z_en zTB zNT vwCl zTF zDF zP ⟨"HeldCoats", "now", "(I)I"⟩ prog_1_method_9_code en := List.forall_mem_cons.mpr ⟨ze_s (by decide +kernel) rfl, List.forall_mem_cons.mpr ⟨ze_get (by decide +kernel) zK_11 (by decide) zw_534, List.forall_mem_cons.mpr ⟨ze_get (by decide +kernel) zK_9 (by decide) zw_309, List.forall_mem_cons.mpr ⟨ze_s (by decide +kernel) rfl, List.forall_mem_cons.mpr ⟨ze_s (by decide +kernel) rfl, List.forall_mem_cons.mpr ⟨ze_get (by decide +kernel) zK_11 (by decide) zw_534, List.forall_mem_cons.mpr ⟨ze_get (by decide +kernel) zK_9 (by decide) zw_312, List.forall_mem_cons.mpr ⟨ze_s (by decide +kernel) rfl, List.forall_mem_cons.mpr ⟨ze_s (by decide +kernel) rfl, List.forall_mem_cons.mpr ⟨ze_get (by decide +kernel) zK_11 (by decide) zw_534, List.forall_mem_cons.mpr ⟨ze_cv (by decide +kernel) (by rfl) zY_X9_eaten (Or.inl zw_762) zw_763 zw_764 rfl, List.forall_mem_cons.mpr ⟨ze_s (by decide +kernel) rfl, List.forall_mem_cons.mpr ⟨ze_s (by decide +kernel) rfl, List.forall_mem_cons.mpr ⟨ze_s (by decide +kernel) rfl, fun _ h => absurd h List.not_mem_nil⟩⟩⟩⟩⟩⟩⟩⟩⟩⟩⟩⟩⟩⟩
theorem zo_X11_now : z_Mok zTB zNT vwCl zTF zDF zP zm_X11_now := ⟨by decide +kernel, List.forall_mem_append.mpr ⟨zo_X11_now_0, zo_X11_now_1⟩⟩
set_option maxRecDepth 20000 in
theorem zo_X12_now_0 : ∀ en ∈ ([(0, .aload_n 0, []), (1, .iconst 0, []), (2, .putfield 1, [12, 0]), (5, .iload_n 1, []), (6, .tableswitch 117 0 7 #[46, 54, 66, 79, 84, 92, 102, 110], [46]), (52, .aload_n 0, []), (53, .getfield 33, [12, 6]), (56, .bipush 62, []), (58, .iaload, []), (59, .ireturn, []), (60, .aload_n 0, []), (61, .aload_n 0, []), (62, .getfield 33, [12, 6]), (65, .bipush 62, []), (67, .iaload, []), (68, .invokevirtual 234, [1, 49, 12]), (71, .ireturn, []), (72, .aload_n 0, []), (73, .invokevirtual 241, [1, 51, 12]), (76, .ifCond .eq 7, []), (83, .iconst 0, []), (84, .ireturn, []), (85, .aload_n 0, []), (86, .invokevirtual 283, [1, 54, 12]), (89, .ireturn, []), (90, .aload_n 0, []), (91, .getfield 33, [12, 6]), (94, .bipush 63, []), (96, .iaload, []), (97, .ireturn, [])] : List zE), z_en zTB zNT vwCl zTF zDF zP ⟨"HeldCoatsModel", "now", "(I)I"⟩ prog_14_method_52_code en := List.forall_mem_cons.mpr ⟨ze_s (by decide +kernel) rfl, List.forall_mem_cons.mpr ⟨ze_s (by decide +kernel) rfl, List.forall_mem_cons.mpr ⟨ze_put (by decide +kernel) zK_12 (by decide) zw_1399 (Or.inl rfl), List.forall_mem_cons.mpr ⟨ze_s (by decide +kernel) rfl, List.forall_mem_cons.mpr ⟨ze_s (by decide +kernel) rfl, List.forall_mem_cons.mpr ⟨ze_s (by decide +kernel) rfl, List.forall_mem_cons.mpr ⟨ze_get (by decide +kernel) zK_12 (by decide) zw_1405, List.forall_mem_cons.mpr ⟨ze_s (by decide +kernel) rfl, List.forall_mem_cons.mpr ⟨ze_s (by decide +kernel) rfl, List.forall_mem_cons.mpr ⟨ze_s (by decide +kernel) rfl, List.forall_mem_cons.mpr ⟨ze_s (by decide +kernel) rfl, List.forall_mem_cons.mpr ⟨ze_s (by decide +kernel) rfl, List.forall_mem_cons.mpr ⟨ze_get (by decide +kernel) zK_12 (by decide) zw_1405, List.forall_mem_cons.mpr ⟨ze_s (by decide +kernel) rfl, List.forall_mem_cons.mpr ⟨ze_s (by decide +kernel) rfl, List.forall_mem_cons.mpr ⟨ze_cv (by decide +kernel) (by rfl) zY_X12_coldOn (Or.inl zw_1656) zw_1658 zs_63 rfl, List.forall_mem_cons.mpr ⟨ze_s (by decide +kernel) rfl, List.forall_mem_cons.mpr ⟨ze_s (by decide +kernel) rfl, List.forall_mem_cons.mpr ⟨ze_cv (by decide +kernel) (by rfl) zY_X12_isSummer (Or.inl zw_1652) zw_1654 zs_62 rfl, List.forall_mem_cons.mpr ⟨ze_s (by decide +kernel) rfl, List.forall_mem_cons.mpr ⟨ze_s (by decide +kernel) rfl, List.forall_mem_cons.mpr ⟨ze_s (by decide +kernel) rfl, List.forall_mem_cons.mpr ⟨ze_s (by decide +kernel) rfl, List.forall_mem_cons.mpr ⟨ze_cv (by decide +kernel) (by rfl) zY_X12_ruler (Or.inl zw_1707) zw_1709 zs_72 rfl, List.forall_mem_cons.mpr ⟨ze_s (by decide +kernel) rfl, List.forall_mem_cons.mpr ⟨ze_s (by decide +kernel) rfl, List.forall_mem_cons.mpr ⟨ze_get (by decide +kernel) zK_12 (by decide) zw_1405, List.forall_mem_cons.mpr ⟨ze_s (by decide +kernel) rfl, List.forall_mem_cons.mpr ⟨ze_s (by decide +kernel) rfl, List.forall_mem_cons.mpr ⟨ze_s (by decide +kernel) rfl, fun _ h => absurd h List.not_mem_nil⟩⟩⟩⟩⟩⟩⟩⟩⟩⟩⟩⟩⟩⟩⟩⟩⟩⟩⟩⟩⟩⟩⟩⟩⟩⟩⟩⟩⟩⟩
set_option maxRecDepth 20000 in
theorem zo_X12_now_1 : ∀ en ∈ ([(98, .aload_n 0, []), (99, .getfield 33, [12, 6]), (102, .bipush 64, []), (104, .iaload, []), (105, .iconst 1, []), (106, .isub, []), (107, .ireturn, []), (108, .aload_n 0, []), (109, .getfield 33, [12, 6]), (112, .bipush 117, []), (114, .iaload, []), (115, .ireturn, []), (116, .aload_n 0, []), (117, .bipush 30, []), (119, .invokevirtual 253, [1, 58, 12]), (122, .ireturn, []), (123, .iconst (-1), []), (124, .ireturn, [])] : List zE), z_en zTB zNT vwCl zTF zDF zP ⟨"HeldCoatsModel", "now", "(I)I"⟩ prog_14_method_52_code en := List.forall_mem_cons.mpr ⟨ze_s (by decide +kernel) rfl, List.forall_mem_cons.mpr ⟨ze_get (by decide +kernel) zK_12 (by decide) zw_1405, List.forall_mem_cons.mpr ⟨ze_s (by decide +kernel) rfl, List.forall_mem_cons.mpr ⟨ze_s (by decide +kernel) rfl, List.forall_mem_cons.mpr ⟨ze_s (by decide +kernel) rfl, List.forall_mem_cons.mpr ⟨ze_s (by decide +kernel) rfl, List.forall_mem_cons.mpr ⟨ze_s (by decide +kernel) rfl, List.forall_mem_cons.mpr ⟨ze_s (by decide +kernel) rfl, List.forall_mem_cons.mpr ⟨ze_get (by decide +kernel) zK_12 (by decide) zw_1405, List.forall_mem_cons.mpr ⟨ze_s (by decide +kernel) rfl, List.forall_mem_cons.mpr ⟨ze_s (by decide +kernel) rfl, List.forall_mem_cons.mpr ⟨ze_s (by decide +kernel) rfl, List.forall_mem_cons.mpr ⟨ze_s (by decide +kernel) rfl, List.forall_mem_cons.mpr ⟨ze_s (by decide +kernel) rfl, List.forall_mem_cons.mpr ⟨ze_cv (by decide +kernel) (by rfl) zY_X12_coatsAt (Or.inl zw_1680) zw_1682 zs_68 rfl, List.forall_mem_cons.mpr ⟨ze_s (by decide +kernel) rfl, List.forall_mem_cons.mpr ⟨ze_s (by decide +kernel) rfl, List.forall_mem_cons.mpr ⟨ze_s (by decide +kernel) rfl, fun _ h => absurd h List.not_mem_nil⟩⟩⟩⟩⟩⟩⟩⟩⟩⟩⟩⟩⟩⟩⟩⟩⟩⟩
theorem zo_X12_now : z_Mok zTB zNT vwCl zTF zDF zP zm_X12_now := ⟨by decide +kernel, List.forall_mem_append.mpr ⟨zo_X12_now_0, zo_X12_now_1⟩⟩
set_option maxRecDepth 20000 in
theorem zo_X3_coldOn_0 : ∀ en ∈ ([(0, .iconst (-1), []), (1, .istore_n 2, []), (2, .iconst 0, []), (3, .istore_n 3, []), (4, .iconst 0, []), (5, .istore 4, []), (7, .iload 4, []), (9, .aload_n 0, []), (10, .getfield 53, [3, 3]), (13, .if_icmp .ge 47, []), (60, .iload_n 3, []), (61, .ireturn, [])] : List zE), z_en zTB zNT vwCl zTF zDF zP ⟨"HeldCoats$Law", "coldOn", "(I)I"⟩ prog_5_method_8_code en := List.forall_mem_cons.mpr ⟨ze_s (by decide +kernel) rfl, List.forall_mem_cons.mpr ⟨ze_s (by decide +kernel) rfl, List.forall_mem_cons.mpr ⟨ze_s (by decide +kernel) rfl, List.forall_mem_cons.mpr ⟨ze_s (by decide +kernel) rfl, List.forall_mem_cons.mpr ⟨ze_s (by decide +kernel) rfl, List.forall_mem_cons.mpr ⟨ze_s (by decide +kernel) rfl, List.forall_mem_cons.mpr ⟨ze_s (by decide +kernel) rfl, List.forall_mem_cons.mpr ⟨ze_s (by decide +kernel) rfl, List.forall_mem_cons.mpr ⟨ze_get (by decide +kernel) zK_3 (by decide) zw_189, List.forall_mem_cons.mpr ⟨ze_s (by decide +kernel) rfl, List.forall_mem_cons.mpr ⟨ze_s (by decide +kernel) rfl, List.forall_mem_cons.mpr ⟨ze_s (by decide +kernel) rfl, fun _ h => absurd h List.not_mem_nil⟩⟩⟩⟩⟩⟩⟩⟩⟩⟩⟩⟩
theorem zo_X3_coldOn : z_Mok zTB zNT vwCl zTF zDF zP zm_X3_coldOn := ⟨by decide +kernel, zo_X3_coldOn_0⟩
set_option maxRecDepth 20000 in
theorem zo_X12_coldOn_0 : ∀ en ∈ ([(0, .iconst (-1), []), (1, .istore_n 2, []), (2, .iconst 0, []), (3, .istore_n 3, []), (4, .iconst 0, []), (5, .istore 4, []), (7, .iload 4, []), (9, .aload_n 0, []), (10, .getfield 33, [12, 6]), (13, .bipush 7, []), (15, .iaload, []), (16, .if_icmp .ge 62, []), (78, .iload_n 3, []), (79, .ireturn, [])] : List zE), z_en zTB zNT vwCl zTF zDF zP ⟨"HeldCoatsModel", "coldOn", "(I)I"⟩ prog_14_method_38_code en := List.forall_mem_cons.mpr ⟨ze_s (by decide +kernel) rfl, List.forall_mem_cons.mpr ⟨ze_s (by decide +kernel) rfl, List.forall_mem_cons.mpr ⟨ze_s (by decide +kernel) rfl, List.forall_mem_cons.mpr ⟨ze_s (by decide +kernel) rfl, List.forall_mem_cons.mpr ⟨ze_s (by decide +kernel) rfl, List.forall_mem_cons.mpr ⟨ze_s (by decide +kernel) rfl, List.forall_mem_cons.mpr ⟨ze_s (by decide +kernel) rfl, List.forall_mem_cons.mpr ⟨ze_s (by decide +kernel) rfl, List.forall_mem_cons.mpr ⟨ze_get (by decide +kernel) zK_12 (by decide) zw_1405, List.forall_mem_cons.mpr ⟨ze_s (by decide +kernel) rfl, List.forall_mem_cons.mpr ⟨ze_s (by decide +kernel) rfl, List.forall_mem_cons.mpr ⟨ze_s (by decide +kernel) rfl, List.forall_mem_cons.mpr ⟨ze_s (by decide +kernel) rfl, List.forall_mem_cons.mpr ⟨ze_s (by decide +kernel) rfl, fun _ h => absurd h List.not_mem_nil⟩⟩⟩⟩⟩⟩⟩⟩⟩⟩⟩⟩⟩⟩
theorem zo_X12_coldOn : z_Mok zTB zNT vwCl zTF zDF zP zm_X12_coldOn := ⟨by decide +kernel, zo_X12_coldOn_0⟩
set_option maxRecDepth 20000 in
theorem zo_X3_isSummer_0 : ∀ en ∈ ([(0, .aload_n 0, []), (1, .iload_n 1, []), (2, .invokevirtual 79, [1, 48, 3]), (5, .aload_n 0, []), (6, .getfield 56, [3, 4]), (9, .if_icmp .ge 7, []), (16, .iconst 0, []), (17, .ireturn, [])] : List zE), z_en zTB zNT vwCl zTF zDF zP ⟨"HeldCoats$Law", "isSummer", "(I)Z"⟩ prog_5_method_9_code en := List.forall_mem_cons.mpr ⟨ze_s (by decide +kernel) rfl, List.forall_mem_cons.mpr ⟨ze_s (by decide +kernel) rfl, List.forall_mem_cons.mpr ⟨ze_cv (by decide +kernel) (by rfl) zY_X3_coldOn (Or.inl zw_736) zw_737 zw_738 rfl, List.forall_mem_cons.mpr ⟨ze_s (by decide +kernel) rfl, List.forall_mem_cons.mpr ⟨ze_get (by decide +kernel) zK_3 (by decide) zw_191, List.forall_mem_cons.mpr ⟨ze_s (by decide +kernel) rfl, List.forall_mem_cons.mpr ⟨ze_s (by decide +kernel) rfl, List.forall_mem_cons.mpr ⟨ze_s (by decide +kernel) rfl, fun _ h => absurd h List.not_mem_nil⟩⟩⟩⟩⟩⟩⟩⟩
theorem zo_X3_isSummer : z_Mok zTB zNT vwCl zTF zDF zP zm_X3_isSummer := ⟨by decide +kernel, zo_X3_isSummer_0⟩
set_option maxRecDepth 20000 in
theorem zo_X12_isSummer_0 : ∀ en ∈ ([(0, .aload_n 0, []), (1, .aload_n 0, []), (2, .getfield 33, [12, 6]), (5, .bipush 62, []), (7, .iaload, []), (8, .invokevirtual 234, [1, 49, 12]), (11, .aload_n 0, []), (12, .getfield 33, [12, 6]), (15, .iconst 3, []), (16, .iaload, []), (17, .if_icmp .ge 7, []), (24, .iconst 0, []), (25, .ireturn, [])] : List zE), z_en zTB zNT vwCl zTF zDF zP ⟨"HeldCoatsModel", "isSummer", "()Z"⟩ prog_14_method_39_code en := List.forall_mem_cons.mpr ⟨ze_s (by decide +kernel) rfl, List.forall_mem_cons.mpr ⟨ze_s (by decide +kernel) rfl, List.forall_mem_cons.mpr ⟨ze_get (by decide +kernel) zK_12 (by decide) zw_1405, List.forall_mem_cons.mpr ⟨ze_s (by decide +kernel) rfl, List.forall_mem_cons.mpr ⟨ze_s (by decide +kernel) rfl, List.forall_mem_cons.mpr ⟨ze_cv (by decide +kernel) (by rfl) zY_X12_coldOn (Or.inl zw_1656) zw_1658 zs_63 rfl, List.forall_mem_cons.mpr ⟨ze_s (by decide +kernel) rfl, List.forall_mem_cons.mpr ⟨ze_get (by decide +kernel) zK_12 (by decide) zw_1405, List.forall_mem_cons.mpr ⟨ze_s (by decide +kernel) rfl, List.forall_mem_cons.mpr ⟨ze_s (by decide +kernel) rfl, List.forall_mem_cons.mpr ⟨ze_s (by decide +kernel) rfl, List.forall_mem_cons.mpr ⟨ze_s (by decide +kernel) rfl, List.forall_mem_cons.mpr ⟨ze_s (by decide +kernel) rfl, fun _ h => absurd h List.not_mem_nil⟩⟩⟩⟩⟩⟩⟩⟩⟩⟩⟩⟩⟩
theorem zo_X12_isSummer : z_Mok zTB zNT vwCl zTF zDF zP zm_X12_isSummer := ⟨by decide +kernel, zo_X12_isSummer_0⟩
set_option maxRecDepth 20000 in
theorem zo_X9_ruler_0 : ∀ en ∈ ([(0, .aload_n 0, []), (1, .getfield 36, [9, 0]), (4, .aload_n 0, []), (5, .getfield 44, [9, 1]), (8, .invokevirtual 86, [1, 50, 3]), (11, .ifCond .eq 7, []), (18, .aload_n 0, []), (19, .invokevirtual 120, [1, 53, 9]), (22, .ireturn, [])] : List zE), z_en zTB zNT vwCl zTF zDF zP ⟨"HeldCoats$State", "ruler", "()I"⟩ prog_11_method_20_code en := List.forall_mem_cons.mpr ⟨ze_s (by decide +kernel) rfl, List.forall_mem_cons.mpr ⟨ze_get (by decide +kernel) zK_9 (by decide) zw_299, List.forall_mem_cons.mpr ⟨ze_s (by decide +kernel) rfl, List.forall_mem_cons.mpr ⟨ze_get (by decide +kernel) zK_9 (by decide) zw_301, List.forall_mem_cons.mpr ⟨ze_cv (by decide +kernel) (by rfl) zY_X3_isSummer (Or.inl zw_732) zw_733 zw_734 rfl, List.forall_mem_cons.mpr ⟨ze_s (by decide +kernel) rfl, List.forall_mem_cons.mpr ⟨ze_s (by decide +kernel) rfl, List.forall_mem_cons.mpr ⟨ze_cv (by decide +kernel) (by rfl) zY_X9_rulerWithoutSummer (Or.inl zw_754) zw_755 zw_756 rfl, List.forall_mem_cons.mpr ⟨ze_s (by decide +kernel) rfl, fun _ h => absurd h List.not_mem_nil⟩⟩⟩⟩⟩⟩⟩⟩⟩
theorem zo_X9_ruler : z_Mok zTB zNT vwCl zTF zDF zP zm_X9_ruler := ⟨by decide +kernel, zo_X9_ruler_0⟩
set_option maxRecDepth 20000 in
theorem zo_X9_rulerWithoutSummer_0 : ∀ en ∈ ([(0, .aload_n 0, []), (1, .getfield 33, [9, 12]), (4, .iconst 0, []), (5, .invokestatic 64, [1, 32]), (8, .iconst 0, []), (9, .istore_n 1, []), (10, .iload_n 1, []), (11, .aload_n 0, []), (12, .getfield 36, [9, 0]), (15, .getfield 53, [3, 2]), (18, .if_icmp .ge 51, []), (69, .iconst (-1), []), (70, .istore_n 1, []), (71, .iconst 0, []), (72, .istore_n 2, []), (73, .iconst 0, []), (74, .istore_n 3, []), (75, .iload_n 3, []), (76, .aload_n 0, []), (77, .getfield 36, [9, 0]), (80, .getfield 76, [3, 1]), (83, .if_icmp .ge 28, []), (111, .iload_n 1, []), (112, .ireturn, [])] : List zE), z_en zTB zNT vwCl zTF zDF zP ⟨"HeldCoats$State", "rulerWithoutSummer", "()I"⟩ prog_11_method_19_code en := List.forall_mem_cons.mpr ⟨ze_s (by decide +kernel) rfl, List.forall_mem_cons.mpr ⟨ze_get (by decide +kernel) zK_9 (by decide) zw_327, List.forall_mem_cons.mpr ⟨ze_s (by decide +kernel) rfl, List.forall_mem_cons.mpr ⟨ze_cs (by decide +kernel) (by rfl) zY_J7_fill_53178 (Or.inl zw_700) zw_701, List.forall_mem_cons.mpr ⟨ze_s (by decide +kernel) rfl, List.forall_mem_cons.mpr ⟨ze_s (by decide +kernel) rfl, List.forall_mem_cons.mpr ⟨ze_s (by decide +kernel) rfl, List.forall_mem_cons.mpr ⟨ze_s (by decide +kernel) rfl, List.forall_mem_cons.mpr ⟨ze_get (by decide +kernel) zK_9 (by decide) zw_299, List.forall_mem_cons.mpr ⟨ze_get (by decide +kernel) zK_3 (by decide) zw_185, List.forall_mem_cons.mpr ⟨ze_s (by decide +kernel) rfl, List.forall_mem_cons.mpr ⟨ze_s (by decide +kernel) rfl, List.forall_mem_cons.mpr ⟨ze_s (by decide +kernel) rfl, List.forall_mem_cons.mpr ⟨ze_s (by decide +kernel) rfl, List.forall_mem_cons.mpr ⟨ze_s (by decide +kernel) rfl, List.forall_mem_cons.mpr ⟨ze_s (by decide +kernel) rfl, List.forall_mem_cons.mpr ⟨ze_s (by decide +kernel) rfl, List.forall_mem_cons.mpr ⟨ze_s (by decide +kernel) rfl, List.forall_mem_cons.mpr ⟨ze_s (by decide +kernel) rfl, List.forall_mem_cons.mpr ⟨ze_get (by decide +kernel) zK_9 (by decide) zw_299, List.forall_mem_cons.mpr ⟨ze_get (by decide +kernel) zK_3 (by decide) zw_180, List.forall_mem_cons.mpr ⟨ze_s (by decide +kernel) rfl, List.forall_mem_cons.mpr ⟨ze_s (by decide +kernel) rfl, List.forall_mem_cons.mpr ⟨ze_s (by decide +kernel) rfl, fun _ h => absurd h List.not_mem_nil⟩⟩⟩⟩⟩⟩⟩⟩⟩⟩⟩⟩⟩⟩⟩⟩⟩⟩⟩⟩⟩⟩⟩⟩
theorem zo_X9_rulerWithoutSummer : z_Mok zTB zNT vwCl zTF zDF zP zm_X9_rulerWithoutSummer := ⟨by decide +kernel, zo_X9_rulerWithoutSummer_0⟩
set_option maxRecDepth 20000 in
theorem zo_X12_ruler_0 : ∀ en ∈ ([(0, .aload_n 0, []), (1, .aload_n 0, []), (2, .invokevirtual 241, [1, 51, 12]), (5, .ifCond .ne 7, []), (8, .iconst 1, []), (9, .goto 4, []), (13, .invokevirtual 260, [1, 55, 12]), (16, .ireturn, [])] : List zE), z_en zTB zNT vwCl zTF zDF zP ⟨"HeldCoatsModel", "ruler", "()I"⟩ prog_14_method_48_code en := List.forall_mem_cons.mpr ⟨ze_s (by decide +kernel) rfl, List.forall_mem_cons.mpr ⟨ze_s (by decide +kernel) rfl, List.forall_mem_cons.mpr ⟨ze_cv (by decide +kernel) (by rfl) zY_X12_isSummer (Or.inl zw_1652) zw_1654 zs_62 rfl, List.forall_mem_cons.mpr ⟨ze_s (by decide +kernel) rfl, List.forall_mem_cons.mpr ⟨ze_s (by decide +kernel) rfl, List.forall_mem_cons.mpr ⟨ze_s (by decide +kernel) rfl, List.forall_mem_cons.mpr ⟨ze_cv (by decide +kernel) (by rfl) zY_X12_rulerBy (Or.inl zw_1711) zw_1713 zs_73 rfl, List.forall_mem_cons.mpr ⟨ze_s (by decide +kernel) rfl, fun _ h => absurd h List.not_mem_nil⟩⟩⟩⟩⟩⟩⟩⟩
theorem zo_X12_ruler : z_Mok zTB zNT vwCl zTF zDF zP zm_X12_ruler := ⟨by decide +kernel, zo_X12_ruler_0⟩
set_option maxRecDepth 20000 in
theorem zo_X12_rulerBy_0 : ∀ en ∈ ([(0, .iconst (-1), []), (1, .istore_n 2, []), (2, .iconst 0, []), (3, .istore_n 3, []), (4, .iconst 0, []), (5, .istore 4, []), (7, .iload 4, []), (9, .aload_n 0, []), (10, .getfield 33, [12, 6]), (13, .iconst 1, []), (14, .iaload, []), (15, .if_icmp .ge 81, []), (96, .iload_n 2, []), (97, .ireturn, [])] : List zE), z_en zTB zNT vwCl zTF zDF zP ⟨"HeldCoatsModel", "rulerBy", "(Z)I"⟩ prog_14_method_47_code en := List.forall_mem_cons.mpr ⟨ze_s (by decide +kernel) rfl, List.forall_mem_cons.mpr ⟨ze_s (by decide +kernel) rfl, List.forall_mem_cons.mpr ⟨ze_s (by decide +kernel) rfl, List.forall_mem_cons.mpr ⟨ze_s (by decide +kernel) rfl, List.forall_mem_cons.mpr ⟨ze_s (by decide +kernel) rfl, List.forall_mem_cons.mpr ⟨ze_s (by decide +kernel) rfl, List.forall_mem_cons.mpr ⟨ze_s (by decide +kernel) rfl, List.forall_mem_cons.mpr ⟨ze_s (by decide +kernel) rfl, List.forall_mem_cons.mpr ⟨ze_get (by decide +kernel) zK_12 (by decide) zw_1405, List.forall_mem_cons.mpr ⟨ze_s (by decide +kernel) rfl, List.forall_mem_cons.mpr ⟨ze_s (by decide +kernel) rfl, List.forall_mem_cons.mpr ⟨ze_s (by decide +kernel) rfl, List.forall_mem_cons.mpr ⟨ze_s (by decide +kernel) rfl, List.forall_mem_cons.mpr ⟨ze_s (by decide +kernel) rfl, fun _ h => absurd h List.not_mem_nil⟩⟩⟩⟩⟩⟩⟩⟩⟩⟩⟩⟩⟩⟩
theorem zo_X12_rulerBy : z_Mok zTB zNT vwCl zTF zDF zP zm_X12_rulerBy := ⟨by decide +kernel, zo_X12_rulerBy_0⟩
set_option maxRecDepth 20000 in
theorem zo_X9_eaten_0 : ∀ en ∈ ([(0, .aload_n 0, []), (1, .bipush 30, []), (3, .invokevirtual 90, [1, 57, 9]), (6, .ireturn, [])] : List zE), z_en zTB zNT vwCl zTF zDF zP ⟨"HeldCoats$State", "eaten", "()I"⟩ prog_11_method_12_code en := List.forall_mem_cons.mpr ⟨ze_s (by decide +kernel) rfl, List.forall_mem_cons.mpr ⟨ze_s (by decide +kernel) rfl, List.forall_mem_cons.mpr ⟨ze_cv (by decide +kernel) (by rfl) zY_X9_coatsAt (Or.inl zw_766) zw_767 zw_768 rfl, List.forall_mem_cons.mpr ⟨ze_s (by decide +kernel) rfl, fun _ h => absurd h List.not_mem_nil⟩⟩⟩⟩
theorem zo_X9_eaten : z_Mok zTB zNT vwCl zTF zDF zP zm_X9_eaten := ⟨by decide +kernel, zo_X9_eaten_0⟩
set_option maxRecDepth 20000 in
theorem zo_X9_coatsAt_0 : ∀ en ∈ ([(0, .iconst 0, []), (1, .istore_n 2, []), (2, .iconst 0, []), (3, .istore_n 3, []), (4, .iload_n 3, []), (5, .aload_n 0, []), (6, .getfield 36, [9, 0]), (9, .getfield 53, [3, 2]), (12, .if_icmp .ge 25, []), (37, .iload_n 2, []), (38, .ireturn, [])] : List zE), z_en zTB zNT vwCl zTF zDF zP ⟨"HeldCoats$State", "coatsAt", "(I)I"⟩ prog_11_method_10_code en := List.forall_mem_cons.mpr ⟨ze_s (by decide +kernel) rfl, List.forall_mem_cons.mpr ⟨ze_s (by decide +kernel) rfl, List.forall_mem_cons.mpr ⟨ze_s (by decide +kernel) rfl, List.forall_mem_cons.mpr ⟨ze_s (by decide +kernel) rfl, List.forall_mem_cons.mpr ⟨ze_s (by decide +kernel) rfl, List.forall_mem_cons.mpr ⟨ze_s (by decide +kernel) rfl, List.forall_mem_cons.mpr ⟨ze_get (by decide +kernel) zK_9 (by decide) zw_299, List.forall_mem_cons.mpr ⟨ze_get (by decide +kernel) zK_3 (by decide) zw_185, List.forall_mem_cons.mpr ⟨ze_s (by decide +kernel) rfl, List.forall_mem_cons.mpr ⟨ze_s (by decide +kernel) rfl, List.forall_mem_cons.mpr ⟨ze_s (by decide +kernel) rfl, fun _ h => absurd h List.not_mem_nil⟩⟩⟩⟩⟩⟩⟩⟩⟩⟩⟩
theorem zo_X9_coatsAt : z_Mok zTB zNT vwCl zTF zDF zP zm_X9_coatsAt := ⟨by decide +kernel, zo_X9_coatsAt_0⟩
set_option maxRecDepth 20000 in
theorem zo_X12_coatsAt_0 : ∀ en ∈ ([(0, .iconst 0, []), (1, .istore_n 2, []), (2, .iconst 0, []), (3, .istore_n 3, []), (4, .iload_n 3, []), (5, .aload_n 0, []), (6, .getfield 33, [12, 6]), (9, .iconst 2, []), (10, .iaload, []), (11, .if_icmp .ge 32, []), (43, .iload_n 2, []), (44, .ireturn, [])] : List zE), z_en zTB zNT vwCl zTF zDF zP ⟨"HeldCoatsModel", "coatsAt", "(I)I"⟩ prog_14_method_43_code en := List.forall_mem_cons.mpr ⟨ze_s (by decide +kernel) rfl, List.forall_mem_cons.mpr ⟨ze_s (by decide +kernel) rfl, List.forall_mem_cons.mpr ⟨ze_s (by decide +kernel) rfl, List.forall_mem_cons.mpr ⟨ze_s (by decide +kernel) rfl, List.forall_mem_cons.mpr ⟨ze_s (by decide +kernel) rfl, List.forall_mem_cons.mpr ⟨ze_s (by decide +kernel) rfl, List.forall_mem_cons.mpr ⟨ze_get (by decide +kernel) zK_12 (by decide) zw_1405, List.forall_mem_cons.mpr ⟨ze_s (by decide +kernel) rfl, List.forall_mem_cons.mpr ⟨ze_s (by decide +kernel) rfl, List.forall_mem_cons.mpr ⟨ze_s (by decide +kernel) rfl, List.forall_mem_cons.mpr ⟨ze_s (by decide +kernel) rfl, List.forall_mem_cons.mpr ⟨ze_s (by decide +kernel) rfl, fun _ h => absurd h List.not_mem_nil⟩⟩⟩⟩⟩⟩⟩⟩⟩⟩⟩⟩
theorem zo_X12_coatsAt : z_Mok zTB zNT vwCl zTF zDF zP zm_X12_coatsAt := ⟨by decide +kernel, zo_X12_coatsAt_0⟩
set_option maxRecDepth 20000 in
theorem zo_X11_lay_0 : ∀ en ∈ ([(0, .aload_n 0, []), (1, .getfield 19, [11, 1]), (4, .iload_n 1, []), (5, .invokevirtual 170, [1, 60, 3]), (8, .ifCond .eq 14, []), (22, .iconst (-1), []), (23, .ireturn, [])] : List zE), z_en zTB zNT vwCl zTF zDF zP ⟨"HeldCoats", "lay", "(II)I"⟩ prog_1_method_10_code en := List.forall_mem_cons.mpr ⟨ze_s (by decide +kernel) rfl, List.forall_mem_cons.mpr ⟨ze_get (by decide +kernel) zK_11 (by decide) zw_532, List.forall_mem_cons.mpr ⟨ze_s (by decide +kernel) rfl, List.forall_mem_cons.mpr ⟨ze_cv (by decide +kernel) (by rfl) zY_X3_hasCoat (Or.inl zw_774) zw_775 zw_776 rfl, List.forall_mem_cons.mpr ⟨ze_s (by decide +kernel) rfl, List.forall_mem_cons.mpr ⟨ze_s (by decide +kernel) rfl, List.forall_mem_cons.mpr ⟨ze_s (by decide +kernel) rfl, fun _ h => absurd h List.not_mem_nil⟩⟩⟩⟩⟩⟩⟩
theorem zo_X11_lay : z_Mok zTB zNT vwCl zTF zDF zP zm_X11_lay := ⟨by decide +kernel, zo_X11_lay_0⟩
set_option maxRecDepth 20000 in
theorem zo_X3_hasCoat_0 : ∀ en ∈ ([(0, .iload_n 1, []), (1, .ifCond .lt 15, []), (4, .iload_n 1, []), (5, .aload_n 0, []), (6, .getfield 50, [3, 2]), (9, .if_icmp .ge 7, []), (16, .iconst 0, []), (17, .ireturn, [])] : List zE), z_en zTB zNT vwCl zTF zDF zP ⟨"HeldCoats$Law", "hasCoat", "(I)Z"⟩ prog_5_method_6_code en := List.forall_mem_cons.mpr ⟨ze_s (by decide +kernel) rfl, List.forall_mem_cons.mpr ⟨ze_s (by decide +kernel) rfl, List.forall_mem_cons.mpr ⟨ze_s (by decide +kernel) rfl, List.forall_mem_cons.mpr ⟨ze_s (by decide +kernel) rfl, List.forall_mem_cons.mpr ⟨ze_get (by decide +kernel) zK_3 (by decide) zw_184, List.forall_mem_cons.mpr ⟨ze_s (by decide +kernel) rfl, List.forall_mem_cons.mpr ⟨ze_s (by decide +kernel) rfl, List.forall_mem_cons.mpr ⟨ze_s (by decide +kernel) rfl, fun _ h => absurd h List.not_mem_nil⟩⟩⟩⟩⟩⟩⟩⟩
theorem zo_X3_hasCoat : z_Mok zTB zNT vwCl zTF zDF zP zm_X3_hasCoat := ⟨by decide +kernel, zo_X3_hasCoat_0⟩
set_option maxRecDepth 20000 in
theorem zo_X12_lay_0 : ∀ en ∈ ([(0, .aload_n 0, []), (1, .iconst 0, []), (2, .putfield 1, [12, 0]), (5, .aload_n 0, []), (6, .iload_n 1, []), (7, .invokevirtual 280, [1, 62, 12]), (10, .ifCond .eq 11, []), (21, .iconst (-1), []), (22, .ireturn, [])] : List zE), z_en zTB zNT vwCl zTF zDF zP ⟨"HeldCoatsModel", "lay", "(II)I"⟩ prog_14_method_63_code en := List.forall_mem_cons.mpr ⟨ze_s (by decide +kernel) rfl, List.forall_mem_cons.mpr ⟨ze_s (by decide +kernel) rfl, List.forall_mem_cons.mpr ⟨ze_put (by decide +kernel) zK_12 (by decide) zw_1399 (Or.inl rfl), List.forall_mem_cons.mpr ⟨ze_s (by decide +kernel) rfl, List.forall_mem_cons.mpr ⟨ze_s (by decide +kernel) rfl, List.forall_mem_cons.mpr ⟨ze_cv (by decide +kernel) (by rfl) zY_X12_isCoat (Or.inl zw_1699) zw_1701 zs_71 rfl, List.forall_mem_cons.mpr ⟨ze_s (by decide +kernel) rfl, List.forall_mem_cons.mpr ⟨ze_s (by decide +kernel) rfl, List.forall_mem_cons.mpr ⟨ze_s (by decide +kernel) rfl, fun _ h => absurd h List.not_mem_nil⟩⟩⟩⟩⟩⟩⟩⟩⟩
theorem zo_X12_lay : z_Mok zTB zNT vwCl zTF zDF zP zm_X12_lay := ⟨by decide +kernel, zo_X12_lay_0⟩
set_option maxRecDepth 20000 in
theorem zo_X12_isCoat_0 : ∀ en ∈ ([(0, .iload_n 1, []), (1, .iconst 0, []), (2, .aload_n 0, []), (3, .getfield 33, [12, 6]), (6, .iconst 2, []), (7, .iaload, []), (8, .iconst 1, []), (9, .isub, []), (10, .invokestatic 171, [1, 45]), (13, .ireturn, [])] : List zE), z_en zTB zNT vwCl zTF zDF zP ⟨"HeldCoatsModel", "isCoat", "(I)Z"⟩ prog_14_method_36_code en := List.forall_mem_cons.mpr ⟨ze_s (by decide +kernel) rfl, List.forall_mem_cons.mpr ⟨ze_s (by decide +kernel) rfl, List.forall_mem_cons.mpr ⟨ze_s (by decide +kernel) rfl, List.forall_mem_cons.mpr ⟨ze_get (by decide +kernel) zK_12 (by decide) zw_1405, List.forall_mem_cons.mpr ⟨ze_s (by decide +kernel) rfl, List.forall_mem_cons.mpr ⟨ze_s (by decide +kernel) rfl, List.forall_mem_cons.mpr ⟨ze_s (by decide +kernel) rfl, List.forall_mem_cons.mpr ⟨ze_s (by decide +kernel) rfl, List.forall_mem_cons.mpr ⟨ze_cs (by decide +kernel) (by rfl) zY_X12_isIn (Or.inl zw_1602) zw_1603, List.forall_mem_cons.mpr ⟨ze_s (by decide +kernel) rfl, fun _ h => absurd h List.not_mem_nil⟩⟩⟩⟩⟩⟩⟩⟩⟩⟩
theorem zo_X12_isCoat : z_Mok zTB zNT vwCl zTF zDF zP zm_X12_isCoat := ⟨by decide +kernel, zo_X12_isCoat_0⟩
set_option maxRecDepth 20000 in
theorem zo_X11_wear_0 : ∀ en ∈ ([(0, .aload_n 0, []), (1, .getfield 19, [11, 1]), (4, .iload_n 1, []), (5, .invokevirtual 140, [1, 64, 3]), (8, .ifCond .eq 14, []), (22, .iconst (-1), []), (23, .ireturn, [])] : List zE), z_en zTB zNT vwCl zTF zDF zP ⟨"HeldCoats", "wear", "(II)I"⟩ prog_1_method_11_code en := List.forall_mem_cons.mpr ⟨ze_s (by decide +kernel) rfl, List.forall_mem_cons.mpr ⟨ze_get (by decide +kernel) zK_11 (by decide) zw_532, List.forall_mem_cons.mpr ⟨ze_s (by decide +kernel) rfl, List.forall_mem_cons.mpr ⟨ze_cv (by decide +kernel) (by rfl) zY_X3_hasMan (Or.inl zw_810) zw_811 zw_812 rfl, List.forall_mem_cons.mpr ⟨ze_s (by decide +kernel) rfl, List.forall_mem_cons.mpr ⟨ze_s (by decide +kernel) rfl, List.forall_mem_cons.mpr ⟨ze_s (by decide +kernel) rfl, fun _ h => absurd h List.not_mem_nil⟩⟩⟩⟩⟩⟩⟩
theorem zo_X11_wear : z_Mok zTB zNT vwCl zTF zDF zP zm_X11_wear := ⟨by decide +kernel, zo_X11_wear_0⟩
set_option maxRecDepth 20000 in
theorem zo_X3_hasMan_0 : ∀ en ∈ ([(0, .iload_n 1, []), (1, .ifCond .lt 15, []), (4, .iload_n 1, []), (5, .aload_n 0, []), (6, .getfield 47, [3, 1]), (9, .if_icmp .ge 7, []), (16, .iconst 0, []), (17, .ireturn, [])] : List zE), z_en zTB zNT vwCl zTF zDF zP ⟨"HeldCoats$Law", "hasMan", "(I)Z"⟩ prog_5_method_5_code en := List.forall_mem_cons.mpr ⟨ze_s (by decide +kernel) rfl, List.forall_mem_cons.mpr ⟨ze_s (by decide +kernel) rfl, List.forall_mem_cons.mpr ⟨ze_s (by decide +kernel) rfl, List.forall_mem_cons.mpr ⟨ze_s (by decide +kernel) rfl, List.forall_mem_cons.mpr ⟨ze_get (by decide +kernel) zK_3 (by decide) zw_179, List.forall_mem_cons.mpr ⟨ze_s (by decide +kernel) rfl, List.forall_mem_cons.mpr ⟨ze_s (by decide +kernel) rfl, List.forall_mem_cons.mpr ⟨ze_s (by decide +kernel) rfl, fun _ h => absurd h List.not_mem_nil⟩⟩⟩⟩⟩⟩⟩⟩
theorem zo_X3_hasMan : z_Mok zTB zNT vwCl zTF zDF zP zm_X3_hasMan := ⟨by decide +kernel, zo_X3_hasMan_0⟩
set_option maxRecDepth 20000 in
theorem zo_X12_wear_0 : ∀ en ∈ ([(0, .aload_n 0, []), (1, .iconst 0, []), (2, .putfield 1, [12, 0]), (5, .aload_n 0, []), (6, .iload_n 1, []), (7, .invokevirtual 270, [1, 66, 12]), (10, .ifCond .eq 11, []), (21, .iconst (-1), []), (22, .ireturn, [])] : List zE), z_en zTB zNT vwCl zTF zDF zP ⟨"HeldCoatsModel", "wear", "(II)I"⟩ prog_14_method_64_code en := List.forall_mem_cons.mpr ⟨ze_s (by decide +kernel) rfl, List.forall_mem_cons.mpr ⟨ze_s (by decide +kernel) rfl, List.forall_mem_cons.mpr ⟨ze_put (by decide +kernel) zK_12 (by decide) zw_1399 (Or.inl rfl), List.forall_mem_cons.mpr ⟨ze_s (by decide +kernel) rfl, List.forall_mem_cons.mpr ⟨ze_s (by decide +kernel) rfl, List.forall_mem_cons.mpr ⟨ze_cv (by decide +kernel) (by rfl) zY_X12_isMan (Or.inl zw_1668) zw_1670 zs_65 rfl, List.forall_mem_cons.mpr ⟨ze_s (by decide +kernel) rfl, List.forall_mem_cons.mpr ⟨ze_s (by decide +kernel) rfl, List.forall_mem_cons.mpr ⟨ze_s (by decide +kernel) rfl, fun _ h => absurd h List.not_mem_nil⟩⟩⟩⟩⟩⟩⟩⟩⟩
theorem zo_X12_wear : z_Mok zTB zNT vwCl zTF zDF zP zm_X12_wear := ⟨by decide +kernel, zo_X12_wear_0⟩
set_option maxRecDepth 20000 in
theorem zo_X12_isMan_0 : ∀ en ∈ ([(0, .iload_n 1, []), (1, .iconst 0, []), (2, .aload_n 0, []), (3, .getfield 33, [12, 6]), (6, .iconst 1, []), (7, .iaload, []), (8, .iconst 1, []), (9, .isub, []), (10, .invokestatic 171, [1, 45]), (13, .ireturn, [])] : List zE), z_en zTB zNT vwCl zTF zDF zP ⟨"HeldCoatsModel", "isMan", "(I)Z"⟩ prog_14_method_35_code en := List.forall_mem_cons.mpr ⟨ze_s (by decide +kernel) rfl, List.forall_mem_cons.mpr ⟨ze_s (by decide +kernel) rfl, List.forall_mem_cons.mpr ⟨ze_s (by decide +kernel) rfl, List.forall_mem_cons.mpr ⟨ze_get (by decide +kernel) zK_12 (by decide) zw_1405, List.forall_mem_cons.mpr ⟨ze_s (by decide +kernel) rfl, List.forall_mem_cons.mpr ⟨ze_s (by decide +kernel) rfl, List.forall_mem_cons.mpr ⟨ze_s (by decide +kernel) rfl, List.forall_mem_cons.mpr ⟨ze_s (by decide +kernel) rfl, List.forall_mem_cons.mpr ⟨ze_cs (by decide +kernel) (by rfl) zY_X12_isIn (Or.inl zw_1602) zw_1603, List.forall_mem_cons.mpr ⟨ze_s (by decide +kernel) rfl, fun _ h => absurd h List.not_mem_nil⟩⟩⟩⟩⟩⟩⟩⟩⟩⟩
theorem zo_X12_isMan : z_Mok zTB zNT vwCl zTF zDF zP zm_X12_isMan := ⟨by decide +kernel, zo_X12_isMan_0⟩
set_option maxRecDepth 20000 in
theorem zo_X11_lend_0 : ∀ en ∈ ([(0, .aload_n 0, []), (1, .getfield 19, [11, 1]), (4, .iload_n 1, []), (5, .invokevirtual 170, [1, 60, 3]), (8, .ifCond .eq 14, []), (22, .iconst (-1), []), (23, .ireturn, [])] : List zE), z_en zTB zNT vwCl zTF zDF zP ⟨"HeldCoats", "lend", "(II)I"⟩ prog_1_method_12_code en := List.forall_mem_cons.mpr ⟨ze_s (by decide +kernel) rfl, List.forall_mem_cons.mpr ⟨ze_get (by decide +kernel) zK_11 (by decide) zw_532, List.forall_mem_cons.mpr ⟨ze_s (by decide +kernel) rfl, List.forall_mem_cons.mpr ⟨ze_cv (by decide +kernel) (by rfl) zY_X3_hasCoat (Or.inl zw_774) zw_775 zw_776 rfl, List.forall_mem_cons.mpr ⟨ze_s (by decide +kernel) rfl, List.forall_mem_cons.mpr ⟨ze_s (by decide +kernel) rfl, List.forall_mem_cons.mpr ⟨ze_s (by decide +kernel) rfl, fun _ h => absurd h List.not_mem_nil⟩⟩⟩⟩⟩⟩⟩
theorem zo_X11_lend : z_Mok zTB zNT vwCl zTF zDF zP zm_X11_lend := ⟨by decide +kernel, zo_X11_lend_0⟩
set_option maxRecDepth 20000 in
theorem zo_X12_lend_0 : ∀ en ∈ ([(0, .aload_n 0, []), (1, .iconst 0, []), (2, .putfield 1, [12, 0]), (5, .aload_n 0, []), (6, .iload_n 1, []), (7, .invokevirtual 280, [1, 62, 12]), (10, .ifCond .eq 11, []), (21, .iconst (-1), []), (22, .ireturn, [])] : List zE), z_en zTB zNT vwCl zTF zDF zP ⟨"HeldCoatsModel", "lend", "(II)I"⟩ prog_14_method_65_code en := List.forall_mem_cons.mpr ⟨ze_s (by decide +kernel) rfl, List.forall_mem_cons.mpr ⟨ze_s (by decide +kernel) rfl, List.forall_mem_cons.mpr ⟨ze_put (by decide +kernel) zK_12 (by decide) zw_1399 (Or.inl rfl), List.forall_mem_cons.mpr ⟨ze_s (by decide +kernel) rfl, List.forall_mem_cons.mpr ⟨ze_s (by decide +kernel) rfl, List.forall_mem_cons.mpr ⟨ze_cv (by decide +kernel) (by rfl) zY_X12_isCoat (Or.inl zw_1699) zw_1701 zs_71 rfl, List.forall_mem_cons.mpr ⟨ze_s (by decide +kernel) rfl, List.forall_mem_cons.mpr ⟨ze_s (by decide +kernel) rfl, List.forall_mem_cons.mpr ⟨ze_s (by decide +kernel) rfl, fun _ h => absurd h List.not_mem_nil⟩⟩⟩⟩⟩⟩⟩⟩⟩
theorem zo_X12_lend : z_Mok zTB zNT vwCl zTF zDF zP zm_X12_lend := ⟨by decide +kernel, zo_X12_lend_0⟩
set_option maxRecDepth 20000 in
theorem zo_X11_keep_0 : ∀ en ∈ ([(0, .aload_n 0, []), (1, .getfield 19, [11, 1]), (4, .iload_n 1, []), (5, .invokevirtual 170, [1, 60, 3]), (8, .ifCond .ne 5, []), (11, .iconst (-1), []), (12, .ireturn, [])] : List zE), z_en zTB zNT vwCl zTF zDF zP ⟨"HeldCoats", "keep", "(I)I"⟩ prog_1_method_13_code en := List.forall_mem_cons.mpr ⟨ze_s (by decide +kernel) rfl, List.forall_mem_cons.mpr ⟨ze_get (by decide +kernel) zK_11 (by decide) zw_532, List.forall_mem_cons.mpr ⟨ze_s (by decide +kernel) rfl, List.forall_mem_cons.mpr ⟨ze_cv (by decide +kernel) (by rfl) zY_X3_hasCoat (Or.inl zw_774) zw_775 zw_776 rfl, List.forall_mem_cons.mpr ⟨ze_s (by decide +kernel) rfl, List.forall_mem_cons.mpr ⟨ze_s (by decide +kernel) rfl, List.forall_mem_cons.mpr ⟨ze_s (by decide +kernel) rfl, fun _ h => absurd h List.not_mem_nil⟩⟩⟩⟩⟩⟩⟩
theorem zo_X11_keep : z_Mok zTB zNT vwCl zTF zDF zP zm_X11_keep := ⟨by decide +kernel, zo_X11_keep_0⟩
set_option maxRecDepth 20000 in
theorem zo_X12_keep_0 : ∀ en ∈ ([(0, .aload_n 0, []), (1, .iconst 0, []), (2, .putfield 1, [12, 0]), (5, .aload_n 0, []), (6, .iload_n 1, []), (7, .invokevirtual 280, [1, 62, 12]), (10, .ifCond .ne 5, []), (13, .iconst (-1), []), (14, .ireturn, [])] : List zE), z_en zTB zNT vwCl zTF zDF zP ⟨"HeldCoatsModel", "keep", "(I)I"⟩ prog_14_method_66_code en := List.forall_mem_cons.mpr ⟨ze_s (by decide +kernel) rfl, List.forall_mem_cons.mpr ⟨ze_s (by decide +kernel) rfl, List.forall_mem_cons.mpr ⟨ze_put (by decide +kernel) zK_12 (by decide) zw_1399 (Or.inl rfl), List.forall_mem_cons.mpr ⟨ze_s (by decide +kernel) rfl, List.forall_mem_cons.mpr ⟨ze_s (by decide +kernel) rfl, List.forall_mem_cons.mpr ⟨ze_cv (by decide +kernel) (by rfl) zY_X12_isCoat (Or.inl zw_1699) zw_1701 zs_71 rfl, List.forall_mem_cons.mpr ⟨ze_s (by decide +kernel) rfl, List.forall_mem_cons.mpr ⟨ze_s (by decide +kernel) rfl, List.forall_mem_cons.mpr ⟨ze_s (by decide +kernel) rfl, fun _ h => absurd h List.not_mem_nil⟩⟩⟩⟩⟩⟩⟩⟩⟩
theorem zo_X12_keep : z_Mok zTB zNT vwCl zTF zDF zP zm_X12_keep := ⟨by decide +kernel, zo_X12_keep_0⟩
set_option maxRecDepth 20000 in
theorem zo_X11_days_0 : ∀ en ∈ ([(0, .iload_n 1, []), (1, .invokestatic 233, [1, 72]), (4, .ifCond .ne 5, []), (7, .iconst (-1), []), (8, .ireturn, []), (9, .aload_n 0, []), (10, .getfield 44, [11, 4]), (13, .aload_n 0, []), (14, .getfield 37, [11, 3]), (17, .invokevirtual 213, [1, 74, 6]), (20, .aload_n 0, []), (21, .aload_n 0, []), (22, .getfield 37, [11, 3]), (25, .iload_n 1, []), (26, .invokevirtual 236, [1, 76, 9]), (29, .invokevirtual 239, [1, 80, 11]), (32, .ireturn, [])] : List zE), z_en zTB zNT vwCl zTF zDF zP ⟨"HeldCoats", "days", "(I)I"⟩ prog_1_method_14_code en := List.forall_mem_cons.mpr ⟨ze_s (by decide +kernel) rfl, List.forall_mem_cons.mpr ⟨ze_cs (by decide +kernel) (by rfl) zY_X11_isDays (Or.inl zw_850) zw_851, List.forall_mem_cons.mpr ⟨ze_s (by decide +kernel) rfl, List.forall_mem_cons.mpr ⟨ze_s (by decide +kernel) rfl, List.forall_mem_cons.mpr ⟨ze_s (by decide +kernel) rfl, List.forall_mem_cons.mpr ⟨ze_s (by decide +kernel) rfl, List.forall_mem_cons.mpr ⟨ze_get (by decide +kernel) zK_11 (by decide) zw_535, List.forall_mem_cons.mpr ⟨ze_s (by decide +kernel) rfl, List.forall_mem_cons.mpr ⟨ze_get (by decide +kernel) zK_11 (by decide) zw_534, List.forall_mem_cons.mpr ⟨ze_cv (by decide +kernel) (by rfl) zY_X6_mark (Or.inl zw_778) zw_779 zw_780 rfl, List.forall_mem_cons.mpr ⟨ze_s (by decide +kernel) rfl, List.forall_mem_cons.mpr ⟨ze_s (by decide +kernel) rfl, List.forall_mem_cons.mpr ⟨ze_get (by decide +kernel) zK_11 (by decide) zw_534, List.forall_mem_cons.mpr ⟨ze_s (by decide +kernel) rfl, List.forall_mem_cons.mpr ⟨ze_cv (by decide +kernel) (by rfl) zY_X9_passDays (Or.inl zw_853) zw_854 zw_855 rfl, List.forall_mem_cons.mpr ⟨ze_cv (by decide +kernel) (by rfl) zY_X11_undoableIfAny (Or.inl zw_879) zw_881 zs_17 rfl, List.forall_mem_cons.mpr ⟨ze_s (by decide +kernel) rfl, fun _ h => absurd h List.not_mem_nil⟩⟩⟩⟩⟩⟩⟩⟩⟩⟩⟩⟩⟩⟩⟩⟩⟩
theorem zo_X11_days : z_Mok zTB zNT vwCl zTF zDF zP zm_X11_days := ⟨by decide +kernel, zo_X11_days_0⟩
set_option maxRecDepth 20000 in
theorem zo_X11_isDays_0 : ∀ en ∈ ([(0, .iload_n 0, []), (1, .iconst 1, []), (2, .if_icmp .lt 13, []), (5, .iload_n 0, []), (6, .bipush 60, []), (8, .if_icmp .gt 7, []), (11, .iconst 1, []), (12, .goto 4, []), (15, .iconst 0, []), (16, .ireturn, [])] : List zE), z_en zTB zNT vwCl zTF zDF zP ⟨"HeldCoats", "isDays", "(I)Z"⟩ prog_1_method_46_code en := List.forall_mem_cons.mpr ⟨ze_s (by decide +kernel) rfl, List.forall_mem_cons.mpr ⟨ze_s (by decide +kernel) rfl, List.forall_mem_cons.mpr ⟨ze_s (by decide +kernel) rfl, List.forall_mem_cons.mpr ⟨ze_s (by decide +kernel) rfl, List.forall_mem_cons.mpr ⟨ze_s (by decide +kernel) rfl, List.forall_mem_cons.mpr ⟨ze_s (by decide +kernel) rfl, List.forall_mem_cons.mpr ⟨ze_s (by decide +kernel) rfl, List.forall_mem_cons.mpr ⟨ze_s (by decide +kernel) rfl, List.forall_mem_cons.mpr ⟨ze_s (by decide +kernel) rfl, List.forall_mem_cons.mpr ⟨ze_s (by decide +kernel) rfl, fun _ h => absurd h List.not_mem_nil⟩⟩⟩⟩⟩⟩⟩⟩⟩⟩
theorem zo_X11_isDays : z_Mok zTB zNT vwCl zTF zDF zP zm_X11_isDays := ⟨by decide +kernel, zo_X11_isDays_0⟩
set_option maxRecDepth 20000 in
theorem zo_X12_days_0 : ∀ en ∈ ([(0, .aload_n 0, []), (1, .iconst 0, []), (2, .putfield 1, [12, 0]), (5, .iload_n 1, []), (6, .iconst 1, []), (7, .bipush 60, []), (9, .invokestatic 171, [1, 45]), (12, .ifCond .ne 5, []), (15, .iconst (-1), []), (16, .ireturn, []), (17, .aload_n 0, []), (18, .getfield 33, [12, 6]), (21, .bipush 62, []), (23, .iaload, []), (24, .sipush 400, []), (27, .if_icmp .ne 5, []), (32, .aload_n 0, []), (33, .invokevirtual 304, [1, 82, 12]), (36, .aload_n 0, []), (37, .iload_n 1, []), (38, .invokevirtual 320, [1, 83, 12]), (41, .ireturn, [])] : List zE), z_en zTB zNT vwCl zTF zDF zP ⟨"HeldCoatsModel", "days", "(I)I"⟩ prog_14_method_67_code en := List.forall_mem_cons.mpr ⟨ze_s (by decide +kernel) rfl, List.forall_mem_cons.mpr ⟨ze_s (by decide +kernel) rfl, List.forall_mem_cons.mpr ⟨ze_put (by decide +kernel) zK_12 (by decide) zw_1399 (Or.inl rfl), List.forall_mem_cons.mpr ⟨ze_s (by decide +kernel) rfl, List.forall_mem_cons.mpr ⟨ze_s (by decide +kernel) rfl, List.forall_mem_cons.mpr ⟨ze_s (by decide +kernel) rfl, List.forall_mem_cons.mpr ⟨ze_cs (by decide +kernel) (by rfl) zY_X12_isIn (Or.inl zw_1602) zw_1603, List.forall_mem_cons.mpr ⟨ze_s (by decide +kernel) rfl, List.forall_mem_cons.mpr ⟨ze_s (by decide +kernel) rfl, List.forall_mem_cons.mpr ⟨ze_s (by decide +kernel) rfl, List.forall_mem_cons.mpr ⟨ze_s (by decide +kernel) rfl, List.forall_mem_cons.mpr ⟨ze_get (by decide +kernel) zK_12 (by decide) zw_1405, List.forall_mem_cons.mpr ⟨ze_s (by decide +kernel) rfl, List.forall_mem_cons.mpr ⟨ze_s (by decide +kernel) rfl, List.forall_mem_cons.mpr ⟨ze_s (by decide +kernel) rfl, List.forall_mem_cons.mpr ⟨ze_s (by decide +kernel) rfl, List.forall_mem_cons.mpr ⟨ze_s (by decide +kernel) rfl, List.forall_mem_cons.mpr ⟨ze_cv (by decide +kernel) (by rfl) zY_X12_keepsAll (Or.inl zw_1727) zw_1729 zs_76 rfl, List.forall_mem_cons.mpr ⟨ze_s (by decide +kernel) rfl, List.forall_mem_cons.mpr ⟨ze_s (by decide +kernel) rfl, List.forall_mem_cons.mpr ⟨ze_cv (by decide +kernel) (by rfl) zY_X12_goesOn (Or.inl zw_1771) zw_1773 zs_83 rfl, List.forall_mem_cons.mpr ⟨ze_s (by decide +kernel) rfl, fun _ h => absurd h List.not_mem_nil⟩⟩⟩⟩⟩⟩⟩⟩⟩⟩⟩⟩⟩⟩⟩⟩⟩⟩⟩⟩⟩⟩
theorem zo_X12_days : z_Mok zTB zNT vwCl zTF zDF zP zm_X12_days := ⟨by decide +kernel, zo_X12_days_0⟩
set_option maxRecDepth 20000 in
theorem zo_X6_mark_0 : ∀ en ∈ ([(0, .aload_n 0, []), (1, .getfield 11, [6, 0]), (4, .aload_n 0, []), (5, .getfield 24, [6, 1]), (8, .aaload, []), (9, .aload_n 1, []), (10, .invokevirtual 27, [1, 75, 9]), (13, .return_, [])] : List zE), z_en zTB zNT vwCl zTF zDF zP ⟨"HeldCoats$Past", "mark", "(LHeldCoats$State;)V"⟩ prog_8_method_3_code en := List.forall_mem_cons.mpr ⟨ze_s (by decide +kernel) rfl, List.forall_mem_cons.mpr ⟨ze_get (by decide +kernel) zK_6 (by decide) zw_364, List.forall_mem_cons.mpr ⟨ze_s (by decide +kernel) rfl, List.forall_mem_cons.mpr ⟨ze_get (by decide +kernel) zK_6 (by decide) zw_365, List.forall_mem_cons.mpr ⟨ze_s (by decide +kernel) rfl, List.forall_mem_cons.mpr ⟨ze_s (by decide +kernel) rfl, List.forall_mem_cons.mpr ⟨ze_cv (by decide +kernel) (by rfl) zY_X9_copyFrom (Or.inl zw_782) zw_783 zw_784 rfl, List.forall_mem_cons.mpr ⟨ze_s (by decide +kernel) rfl, fun _ h => absurd h List.not_mem_nil⟩⟩⟩⟩⟩⟩⟩⟩
theorem zo_X6_mark : z_Mok zTB zNT vwCl zTF zDF zP zm_X6_mark := ⟨by decide +kernel, zo_X6_mark_0⟩
set_option maxRecDepth 20000 in
theorem zo_X9_copyFrom_0 : ∀ en ∈ ([(0, .aload_n 0, []), (1, .aload_n 1, []), (2, .getfield 44, [9, 1]), (5, .putfield 44, [9, 1]), (8, .aload_n 0, []), (9, .aload_n 1, []), (10, .getfield 47, [9, 2]), (13, .putfield 47, [9, 2]), (16, .aload_n 0, []), (17, .aload_n 1, []), (18, .getfield 40, [9, 3]), (21, .putfield 40, [9, 3]), (24, .aload_n 0, []), (25, .aload_n 1, []), (26, .getfield 50, [9, 4]), (29, .putfield 50, [9, 4]), (32, .aload_n 1, []), (33, .getfield 9, [9, 5]), (36, .iconst 0, []), (37, .aload_n 0, []), (38, .getfield 9, [9, 5]), (41, .iconst 0, []), (42, .bipush 8, []), (44, .invokestatic 70, [0]), (47, .aload_n 1, []), (48, .getfield 15, [9, 6]), (51, .iconst 0, []), (52, .aload_n 0, []), (53, .getfield 15, [9, 6]), (56, .iconst 0, [])] : List zE), z_en zTB zNT vwCl zTF zDF zP ⟨"HeldCoats$State", "copyFrom", "(LHeldCoats$State;)V"⟩ prog_11_method_3_code en := List.forall_mem_cons.mpr ⟨ze_s (by decide +kernel) rfl, List.forall_mem_cons.mpr ⟨ze_s (by decide +kernel) rfl, List.forall_mem_cons.mpr ⟨ze_get (by decide +kernel) zK_9 (by decide) zw_301, List.forall_mem_cons.mpr ⟨ze_put (by decide +kernel) zK_9 (by decide) zw_301 (Or.inl rfl), List.forall_mem_cons.mpr ⟨ze_s (by decide +kernel) rfl, List.forall_mem_cons.mpr ⟨ze_s (by decide +kernel) rfl, List.forall_mem_cons.mpr ⟨ze_get (by decide +kernel) zK_9 (by decide) zw_305, List.forall_mem_cons.mpr ⟨ze_put (by decide +kernel) zK_9 (by decide) zw_305 (Or.inl rfl), List.forall_mem_cons.mpr ⟨ze_s (by decide +kernel) rfl, List.forall_mem_cons.mpr ⟨ze_s (by decide +kernel) rfl, List.forall_mem_cons.mpr ⟨ze_get (by decide +kernel) zK_9 (by decide) zw_308, List.forall_mem_cons.mpr ⟨ze_put (by decide +kernel) zK_9 (by decide) zw_308 (Or.inl rfl), List.forall_mem_cons.mpr ⟨ze_s (by decide +kernel) rfl, List.forall_mem_cons.mpr ⟨ze_s (by decide +kernel) rfl, List.forall_mem_cons.mpr ⟨ze_get (by decide +kernel) zK_9 (by decide) zw_310, List.forall_mem_cons.mpr ⟨ze_put (by decide +kernel) zK_9 (by decide) zw_310 (Or.inl rfl), List.forall_mem_cons.mpr ⟨ze_s (by decide +kernel) rfl, List.forall_mem_cons.mpr ⟨ze_get (by decide +kernel) zK_9 (by decide) zw_313, List.forall_mem_cons.mpr ⟨ze_s (by decide +kernel) rfl, List.forall_mem_cons.mpr ⟨ze_s (by decide +kernel) rfl, List.forall_mem_cons.mpr ⟨ze_get (by decide +kernel) zK_9 (by decide) zw_313, List.forall_mem_cons.mpr ⟨ze_s (by decide +kernel) rfl, List.forall_mem_cons.mpr ⟨ze_s (by decide +kernel) rfl, List.forall_mem_cons.mpr ⟨ze_cp (by decide +kernel) zw_786 zw_690 zw_689 zw_18, List.forall_mem_cons.mpr ⟨ze_s (by decide +kernel) rfl, List.forall_mem_cons.mpr ⟨ze_get (by decide +kernel) zK_9 (by decide) zw_315, List.forall_mem_cons.mpr ⟨ze_s (by decide +kernel) rfl, List.forall_mem_cons.mpr ⟨ze_s (by decide +kernel) rfl, List.forall_mem_cons.mpr ⟨ze_get (by decide +kernel) zK_9 (by decide) zw_315, List.forall_mem_cons.mpr ⟨ze_s (by decide +kernel) rfl, fun _ h => absurd h List.not_mem_nil⟩⟩⟩⟩⟩⟩⟩⟩⟩⟩⟩⟩⟩⟩⟩⟩⟩⟩⟩⟩⟩⟩⟩⟩⟩⟩⟩⟩⟩⟩
set_option maxRecDepth 20000 in
theorem zo_X9_copyFrom_1 : ∀ en ∈ ([(57, .bipush 8, []), (59, .invokestatic 70, [0]), (62, .aload_n 1, []), (63, .getfield 18, [9, 7]), (66, .iconst 0, []), (67, .aload_n 0, []), (68, .getfield 18, [9, 7]), (71, .iconst 0, []), (72, .bipush 8, []), (74, .invokestatic 70, [0]), (77, .aload_n 1, []), (78, .getfield 21, [9, 8]), (81, .iconst 0, []), (82, .aload_n 0, []), (83, .getfield 21, [9, 8]), (86, .iconst 0, []), (87, .bipush 8, []), (89, .invokestatic 70, [0]), (92, .aload_n 1, []), (93, .getfield 24, [9, 9]), (96, .iconst 0, []), (97, .aload_n 0, []), (98, .getfield 24, [9, 9]), (101, .iconst 0, []), (102, .bipush 8, []), (104, .invokestatic 70, [0]), (107, .aload_n 1, []), (108, .getfield 27, [9, 10]), (111, .iconst 0, []), (112, .aload_n 0, [])] : List zE), z_en zTB zNT vwCl zTF zDF zP ⟨"HeldCoats$State", "copyFrom", "(LHeldCoats$State;)V"⟩ prog_11_method_3_code en := List.forall_mem_cons.mpr ⟨ze_s (by decide +kernel) rfl, List.forall_mem_cons.mpr ⟨ze_cp (by decide +kernel) zw_786 zw_690 zw_689 zw_18, List.forall_mem_cons.mpr ⟨ze_s (by decide +kernel) rfl, List.forall_mem_cons.mpr ⟨ze_get (by decide +kernel) zK_9 (by decide) zw_317, List.forall_mem_cons.mpr ⟨ze_s (by decide +kernel) rfl, List.forall_mem_cons.mpr ⟨ze_s (by decide +kernel) rfl, List.forall_mem_cons.mpr ⟨ze_get (by decide +kernel) zK_9 (by decide) zw_317, List.forall_mem_cons.mpr ⟨ze_s (by decide +kernel) rfl, List.forall_mem_cons.mpr ⟨ze_s (by decide +kernel) rfl, List.forall_mem_cons.mpr ⟨ze_cp (by decide +kernel) zw_786 zw_690 zw_689 zw_18, List.forall_mem_cons.mpr ⟨ze_s (by decide +kernel) rfl, List.forall_mem_cons.mpr ⟨ze_get (by decide +kernel) zK_9 (by decide) zw_319, List.forall_mem_cons.mpr ⟨ze_s (by decide +kernel) rfl, List.forall_mem_cons.mpr ⟨ze_s (by decide +kernel) rfl, List.forall_mem_cons.mpr ⟨ze_get (by decide +kernel) zK_9 (by decide) zw_319, List.forall_mem_cons.mpr ⟨ze_s (by decide +kernel) rfl, List.forall_mem_cons.mpr ⟨ze_s (by decide +kernel) rfl, List.forall_mem_cons.mpr ⟨ze_cp (by decide +kernel) zw_786 zw_690 zw_689 zw_18, List.forall_mem_cons.mpr ⟨ze_s (by decide +kernel) rfl, List.forall_mem_cons.mpr ⟨ze_get (by decide +kernel) zK_9 (by decide) zw_320, List.forall_mem_cons.mpr ⟨ze_s (by decide +kernel) rfl, List.forall_mem_cons.mpr ⟨ze_s (by decide +kernel) rfl, List.forall_mem_cons.mpr ⟨ze_get (by decide +kernel) zK_9 (by decide) zw_320, List.forall_mem_cons.mpr ⟨ze_s (by decide +kernel) rfl, List.forall_mem_cons.mpr ⟨ze_s (by decide +kernel) rfl, List.forall_mem_cons.mpr ⟨ze_cp (by decide +kernel) zw_786 zw_690 zw_689 zw_18, List.forall_mem_cons.mpr ⟨ze_s (by decide +kernel) rfl, List.forall_mem_cons.mpr ⟨ze_get (by decide +kernel) zK_9 (by decide) zw_323, List.forall_mem_cons.mpr ⟨ze_s (by decide +kernel) rfl, List.forall_mem_cons.mpr ⟨ze_s (by decide +kernel) rfl, fun _ h => absurd h List.not_mem_nil⟩⟩⟩⟩⟩⟩⟩⟩⟩⟩⟩⟩⟩⟩⟩⟩⟩⟩⟩⟩⟩⟩⟩⟩⟩⟩⟩⟩⟩⟩
set_option maxRecDepth 20000 in
theorem zo_X9_copyFrom_2 : ∀ en ∈ ([(113, .getfield 27, [9, 10]), (116, .iconst 0, []), (117, .bipush 6, []), (119, .invokestatic 70, [0]), (122, .aload_n 1, []), (123, .getfield 30, [9, 11]), (126, .iconst 0, []), (127, .aload_n 0, []), (128, .getfield 30, [9, 11]), (131, .iconst 0, []), (132, .bipush 6, []), (134, .invokestatic 70, [0]), (137, .return_, [])] : List zE), z_en zTB zNT vwCl zTF zDF zP ⟨"HeldCoats$State", "copyFrom", "(LHeldCoats$State;)V"⟩ prog_11_method_3_code en := List.forall_mem_cons.mpr ⟨ze_get (by decide +kernel) zK_9 (by decide) zw_323, List.forall_mem_cons.mpr ⟨ze_s (by decide +kernel) rfl, List.forall_mem_cons.mpr ⟨ze_s (by decide +kernel) rfl, List.forall_mem_cons.mpr ⟨ze_cp (by decide +kernel) zw_786 zw_690 zw_689 zw_18, List.forall_mem_cons.mpr ⟨ze_s (by decide +kernel) rfl, List.forall_mem_cons.mpr ⟨ze_get (by decide +kernel) zK_9 (by decide) zw_325, List.forall_mem_cons.mpr ⟨ze_s (by decide +kernel) rfl, List.forall_mem_cons.mpr ⟨ze_s (by decide +kernel) rfl, List.forall_mem_cons.mpr ⟨ze_get (by decide +kernel) zK_9 (by decide) zw_325, List.forall_mem_cons.mpr ⟨ze_s (by decide +kernel) rfl, List.forall_mem_cons.mpr ⟨ze_s (by decide +kernel) rfl, List.forall_mem_cons.mpr ⟨ze_cp (by decide +kernel) zw_786 zw_690 zw_689 zw_18, List.forall_mem_cons.mpr ⟨ze_s (by decide +kernel) rfl, fun _ h => absurd h List.not_mem_nil⟩⟩⟩⟩⟩⟩⟩⟩⟩⟩⟩⟩⟩
theorem zo_X9_copyFrom : z_Mok zTB zNT vwCl zTF zDF zP zm_X9_copyFrom := ⟨by decide +kernel, List.forall_mem_append.mpr ⟨zo_X9_copyFrom_0, List.forall_mem_append.mpr ⟨zo_X9_copyFrom_1, zo_X9_copyFrom_2⟩⟩⟩
set_option maxRecDepth 20000 in
theorem zo_X9_passDays_0 : ∀ en ∈ ([(0, .aload_n 0, []), (1, .iload_n 1, []), (2, .invokevirtual 140, [1, 77, 9]), (5, .istore_n 2, []), (6, .iconst 0, []), (7, .istore_n 3, []), (8, .iload_n 3, []), (9, .iload_n 2, []), (10, .if_icmp .ge 14, []), (13, .aload_n 0, []), (14, .invokevirtual 143, [1, 78, 9]), (17, .pop, []), (18, .iinc 3 1, []), (21, .goto (-13), []), (24, .iload_n 2, []), (25, .ireturn, [])] : List zE), z_en zTB zNT vwCl zTF zDF zP ⟨"HeldCoats$State", "passDays", "(I)I"⟩ prog_11_method_29_code en := List.forall_mem_cons.mpr ⟨ze_s (by decide +kernel) rfl, List.forall_mem_cons.mpr ⟨ze_s (by decide +kernel) rfl, List.forall_mem_cons.mpr ⟨ze_cv (by decide +kernel) (by rfl) zY_X9_daysLeftOf (Or.inl zw_857) zw_858 zw_859 rfl, List.forall_mem_cons.mpr ⟨ze_s (by decide +kernel) rfl, List.forall_mem_cons.mpr ⟨ze_s (by decide +kernel) rfl, List.forall_mem_cons.mpr ⟨ze_s (by decide +kernel) rfl, List.forall_mem_cons.mpr ⟨ze_s (by decide +kernel) rfl, List.forall_mem_cons.mpr ⟨ze_s (by decide +kernel) rfl, List.forall_mem_cons.mpr ⟨ze_s (by decide +kernel) rfl, List.forall_mem_cons.mpr ⟨ze_s (by decide +kernel) rfl, List.forall_mem_cons.mpr ⟨ze_cv (by decide +kernel) (by rfl) zY_X9_passDay (Or.inl zw_862) zw_863 zw_864 rfl, List.forall_mem_cons.mpr ⟨ze_s (by decide +kernel) rfl, List.forall_mem_cons.mpr ⟨ze_s (by decide +kernel) rfl, List.forall_mem_cons.mpr ⟨ze_s (by decide +kernel) rfl, List.forall_mem_cons.mpr ⟨ze_s (by decide +kernel) rfl, List.forall_mem_cons.mpr ⟨ze_s (by decide +kernel) rfl, fun _ h => absurd h List.not_mem_nil⟩⟩⟩⟩⟩⟩⟩⟩⟩⟩⟩⟩⟩⟩⟩⟩
theorem zo_X9_passDays : z_Mok zTB zNT vwCl zTF zDF zP zm_X9_passDays := ⟨by decide +kernel, zo_X9_passDays_0⟩
set_option maxRecDepth 20000 in
theorem zo_X9_daysLeftOf_0 : ∀ en ∈ ([(0, .iload_n 1, []), (1, .sipush 400, []), (4, .aload_n 0, []), (5, .getfield 44, [9, 1]), (8, .isub, []), (9, .invokestatic 137, [2]), (12, .ireturn, [])] : List zE), z_en zTB zNT vwCl zTF zDF zP ⟨"HeldCoats$State", "daysLeftOf", "(I)I"⟩ prog_11_method_28_code en := List.forall_mem_cons.mpr ⟨ze_s (by decide +kernel) rfl, List.forall_mem_cons.mpr ⟨ze_s (by decide +kernel) rfl, List.forall_mem_cons.mpr ⟨ze_s (by decide +kernel) rfl, List.forall_mem_cons.mpr ⟨ze_get (by decide +kernel) zK_9 (by decide) zw_301, List.forall_mem_cons.mpr ⟨ze_s (by decide +kernel) rfl, List.forall_mem_cons.mpr ⟨ze_mn (by decide +kernel) zw_861 zw_804 zw_24 zw_805, List.forall_mem_cons.mpr ⟨ze_s (by decide +kernel) rfl, fun _ h => absurd h List.not_mem_nil⟩⟩⟩⟩⟩⟩⟩
theorem zo_X9_daysLeftOf : z_Mok zTB zNT vwCl zTF zDF zP zm_X9_daysLeftOf := ⟨by decide +kernel, zo_X9_daysLeftOf_0⟩
set_option maxRecDepth 20000 in
theorem zo_X9_passDay_0 : ∀ en ∈ ([(0, .aload_n 0, []), (1, .invokevirtual 146, [1, 52, 9]), (4, .istore_n 1, []), (5, .iload_n 1, []), (6, .iconst (-1), []), (7, .if_icmp .ne 39, []), (10, .aload_n 0, []), (11, .dup, []), (12, .getfield 47, [9, 2]), (15, .iconst 1, []), (16, .iadd, []), (17, .putfield 47, [9, 2]), (20, .aload_n 0, []), (21, .aload_n 0, []), (22, .getfield 40, [9, 3]), (25, .iconst (-1), []), (26, .if_icmp .ne 10, []), (29, .aload_n 0, []), (30, .getfield 44, [9, 1]), (33, .goto 7, []), (36, .aload_n 0, []), (37, .getfield 40, [9, 3]), (40, .putfield 40, [9, 3]), (43, .goto 13, []), (56, .aload_n 0, []), (57, .invokevirtual 149, [1, 79, 9]), (60, .iconst 0, []), (61, .istore_n 2, []), (62, .iload_n 2, []), (63, .aload_n 0, [])] : List zE), z_en zTB zNT vwCl zTF zDF zP ⟨"HeldCoats$State", "passDay", "()I"⟩ prog_11_method_30_code en := List.forall_mem_cons.mpr ⟨ze_s (by decide +kernel) rfl, List.forall_mem_cons.mpr ⟨ze_cv (by decide +kernel) (by rfl) zY_X9_ruler (Or.inl zw_866) zw_751 zw_752 rfl, List.forall_mem_cons.mpr ⟨ze_s (by decide +kernel) rfl, List.forall_mem_cons.mpr ⟨ze_s (by decide +kernel) rfl, List.forall_mem_cons.mpr ⟨ze_s (by decide +kernel) rfl, List.forall_mem_cons.mpr ⟨ze_s (by decide +kernel) rfl, List.forall_mem_cons.mpr ⟨ze_s (by decide +kernel) rfl, List.forall_mem_cons.mpr ⟨ze_s (by decide +kernel) rfl, List.forall_mem_cons.mpr ⟨ze_get (by decide +kernel) zK_9 (by decide) zw_305, List.forall_mem_cons.mpr ⟨ze_s (by decide +kernel) rfl, List.forall_mem_cons.mpr ⟨ze_s (by decide +kernel) rfl, List.forall_mem_cons.mpr ⟨ze_put (by decide +kernel) zK_9 (by decide) zw_305 (Or.inl rfl), List.forall_mem_cons.mpr ⟨ze_s (by decide +kernel) rfl, List.forall_mem_cons.mpr ⟨ze_s (by decide +kernel) rfl, List.forall_mem_cons.mpr ⟨ze_get (by decide +kernel) zK_9 (by decide) zw_308, List.forall_mem_cons.mpr ⟨ze_s (by decide +kernel) rfl, List.forall_mem_cons.mpr ⟨ze_s (by decide +kernel) rfl, List.forall_mem_cons.mpr ⟨ze_s (by decide +kernel) rfl, List.forall_mem_cons.mpr ⟨ze_get (by decide +kernel) zK_9 (by decide) zw_301, List.forall_mem_cons.mpr ⟨ze_s (by decide +kernel) rfl, List.forall_mem_cons.mpr ⟨ze_s (by decide +kernel) rfl, List.forall_mem_cons.mpr ⟨ze_get (by decide +kernel) zK_9 (by decide) zw_308, List.forall_mem_cons.mpr ⟨ze_put (by decide +kernel) zK_9 (by decide) zw_308 (Or.inl rfl), List.forall_mem_cons.mpr ⟨ze_s (by decide +kernel) rfl, List.forall_mem_cons.mpr ⟨ze_s (by decide +kernel) rfl, List.forall_mem_cons.mpr ⟨ze_cv (by decide +kernel) (by rfl) zY_X9_freeze (Or.inl zw_867) zw_869 zs_15 rfl, List.forall_mem_cons.mpr ⟨ze_s (by decide +kernel) rfl, List.forall_mem_cons.mpr ⟨ze_s (by decide +kernel) rfl, List.forall_mem_cons.mpr ⟨ze_s (by decide +kernel) rfl, List.forall_mem_cons.mpr ⟨ze_s (by decide +kernel) rfl, fun _ h => absurd h List.not_mem_nil⟩⟩⟩⟩⟩⟩⟩⟩⟩⟩⟩⟩⟩⟩⟩⟩⟩⟩⟩⟩⟩⟩⟩⟩⟩⟩⟩⟩⟩⟩
set_option maxRecDepth 20000 in
theorem zo_X9_passDay_1 : ∀ en ∈ ([(64, .getfield 36, [9, 0]), (67, .getfield 53, [3, 2]), (70, .if_icmp .ge 22, []), (92, .aload_n 0, []), (93, .dup, []), (94, .getfield 44, [9, 1]), (97, .iconst 1, []), (98, .iadd, []), (99, .putfield 44, [9, 1]), (102, .iload_n 1, []), (103, .ireturn, [])] : List zE), z_en zTB zNT vwCl zTF zDF zP ⟨"HeldCoats$State", "passDay", "()I"⟩ prog_11_method_30_code en := List.forall_mem_cons.mpr ⟨ze_get (by decide +kernel) zK_9 (by decide) zw_299, List.forall_mem_cons.mpr ⟨ze_get (by decide +kernel) zK_3 (by decide) zw_185, List.forall_mem_cons.mpr ⟨ze_s (by decide +kernel) rfl, List.forall_mem_cons.mpr ⟨ze_s (by decide +kernel) rfl, List.forall_mem_cons.mpr ⟨ze_s (by decide +kernel) rfl, List.forall_mem_cons.mpr ⟨ze_get (by decide +kernel) zK_9 (by decide) zw_301, List.forall_mem_cons.mpr ⟨ze_s (by decide +kernel) rfl, List.forall_mem_cons.mpr ⟨ze_s (by decide +kernel) rfl, List.forall_mem_cons.mpr ⟨ze_put (by decide +kernel) zK_9 (by decide) zw_301 (Or.inl rfl), List.forall_mem_cons.mpr ⟨ze_s (by decide +kernel) rfl, List.forall_mem_cons.mpr ⟨ze_s (by decide +kernel) rfl, fun _ h => absurd h List.not_mem_nil⟩⟩⟩⟩⟩⟩⟩⟩⟩⟩⟩
theorem zo_X9_passDay : z_Mok zTB zNT vwCl zTF zDF zP zm_X9_passDay := ⟨by decide +kernel, List.forall_mem_append.mpr ⟨zo_X9_passDay_0, zo_X9_passDay_1⟩⟩
set_option maxRecDepth 20000 in
theorem zo_X9_freeze_0 : ∀ en ∈ ([(0, .aload_n 0, []), (1, .getfield 33, [9, 12]), (4, .iconst 0, []), (5, .invokestatic 64, [1, 32]), (8, .iconst 0, []), (9, .istore_n 1, []), (10, .iload_n 1, []), (11, .aload_n 0, []), (12, .getfield 36, [9, 0]), (15, .getfield 53, [3, 2]), (18, .if_icmp .ge 40, []), (58, .aload_n 0, []), (59, .getfield 36, [9, 0]), (62, .aload_n 0, []), (63, .getfield 44, [9, 1]), (66, .invokevirtual 102, [1, 48, 3]), (69, .istore_n 1, []), (70, .iconst 0, []), (71, .istore_n 2, []), (72, .iload_n 2, []), (73, .aload_n 0, []), (74, .getfield 36, [9, 0]), (77, .getfield 76, [3, 1]), (80, .if_icmp .ge 39, []), (119, .return_, [])] : List zE), z_en zTB zNT vwCl zTF zDF zP ⟨"HeldCoats$State", "freeze", "()V"⟩ prog_11_method_31_code en := List.forall_mem_cons.mpr ⟨ze_s (by decide +kernel) rfl, List.forall_mem_cons.mpr ⟨ze_get (by decide +kernel) zK_9 (by decide) zw_327, List.forall_mem_cons.mpr ⟨ze_s (by decide +kernel) rfl, List.forall_mem_cons.mpr ⟨ze_cs (by decide +kernel) (by rfl) zY_J7_fill_53178 (Or.inl zw_700) zw_701, List.forall_mem_cons.mpr ⟨ze_s (by decide +kernel) rfl, List.forall_mem_cons.mpr ⟨ze_s (by decide +kernel) rfl, List.forall_mem_cons.mpr ⟨ze_s (by decide +kernel) rfl, List.forall_mem_cons.mpr ⟨ze_s (by decide +kernel) rfl, List.forall_mem_cons.mpr ⟨ze_get (by decide +kernel) zK_9 (by decide) zw_299, List.forall_mem_cons.mpr ⟨ze_get (by decide +kernel) zK_3 (by decide) zw_185, List.forall_mem_cons.mpr ⟨ze_s (by decide +kernel) rfl, List.forall_mem_cons.mpr ⟨ze_s (by decide +kernel) rfl, List.forall_mem_cons.mpr ⟨ze_get (by decide +kernel) zK_9 (by decide) zw_299, List.forall_mem_cons.mpr ⟨ze_s (by decide +kernel) rfl, List.forall_mem_cons.mpr ⟨ze_get (by decide +kernel) zK_9 (by decide) zw_301, List.forall_mem_cons.mpr ⟨ze_cv (by decide +kernel) (by rfl) zY_X3_coldOn (Or.inl zw_871) zw_737 zw_738 rfl, List.forall_mem_cons.mpr ⟨ze_s (by decide +kernel) rfl, List.forall_mem_cons.mpr ⟨ze_s (by decide +kernel) rfl, List.forall_mem_cons.mpr ⟨ze_s (by decide +kernel) rfl, List.forall_mem_cons.mpr ⟨ze_s (by decide +kernel) rfl, List.forall_mem_cons.mpr ⟨ze_s (by decide +kernel) rfl, List.forall_mem_cons.mpr ⟨ze_get (by decide +kernel) zK_9 (by decide) zw_299, List.forall_mem_cons.mpr ⟨ze_get (by decide +kernel) zK_3 (by decide) zw_180, List.forall_mem_cons.mpr ⟨ze_s (by decide +kernel) rfl, List.forall_mem_cons.mpr ⟨ze_s (by decide +kernel) rfl, fun _ h => absurd h List.not_mem_nil⟩⟩⟩⟩⟩⟩⟩⟩⟩⟩⟩⟩⟩⟩⟩⟩⟩⟩⟩⟩⟩⟩⟩⟩⟩
theorem zo_X9_freeze : z_Mok zTB zNT vwCl zTF zDF zP zm_X9_freeze := ⟨by decide +kernel, zo_X9_freeze_0⟩
set_option maxRecDepth 20000 in
theorem zo_X11_undoableIfAny_0 : ∀ en ∈ ([(0, .iload_n 1, []), (1, .ifCond .le 10, []), (4, .aload_n 0, []), (5, .getfield 44, [11, 4]), (8, .invokevirtual 332, [1, 81, 6]), (11, .iload_n 1, []), (12, .ireturn, [])] : List zE), z_en zTB zNT vwCl zTF zDF zP ⟨"HeldCoats", "undoableIfAny", "(I)I"⟩ prog_1_method_45_code en := List.forall_mem_cons.mpr ⟨ze_s (by decide +kernel) rfl, List.forall_mem_cons.mpr ⟨ze_s (by decide +kernel) rfl, List.forall_mem_cons.mpr ⟨ze_s (by decide +kernel) rfl, List.forall_mem_cons.mpr ⟨ze_get (by decide +kernel) zK_11 (by decide) zw_535, List.forall_mem_cons.mpr ⟨ze_cv (by decide +kernel) (by rfl) zY_X6_hold (Or.inl zw_799) zw_800 zw_801 rfl, List.forall_mem_cons.mpr ⟨ze_s (by decide +kernel) rfl, List.forall_mem_cons.mpr ⟨ze_s (by decide +kernel) rfl, fun _ h => absurd h List.not_mem_nil⟩⟩⟩⟩⟩⟩⟩
theorem zo_X11_undoableIfAny : z_Mok zTB zNT vwCl zTF zDF zP zm_X11_undoableIfAny := ⟨by decide +kernel, zo_X11_undoableIfAny_0⟩
set_option maxRecDepth 20000 in
theorem zo_X6_hold_0 : ∀ en ∈ ([(0, .aload_n 0, []), (1, .aload_n 0, []), (2, .getfield 24, [6, 1]), (5, .bipush 8, []), (7, .if_icmp .ne 7, []), (14, .aload_n 0, []), (15, .getfield 24, [6, 1]), (18, .iconst 1, []), (19, .iadd, []), (20, .putfield 24, [6, 1]), (23, .aload_n 0, []), (24, .aload_n 0, []), (25, .getfield 20, [6, 2]), (28, .iconst 1, []), (29, .iadd, []), (30, .bipush 8, []), (32, .invokestatic 31, [2]), (35, .putfield 20, [6, 2]), (38, .return_, [])] : List zE), z_en zTB zNT vwCl zTF zDF zP ⟨"HeldCoats$Past", "hold", "()V"⟩ prog_8_method_4_code en := List.forall_mem_cons.mpr ⟨ze_s (by decide +kernel) rfl, List.forall_mem_cons.mpr ⟨ze_s (by decide +kernel) rfl, List.forall_mem_cons.mpr ⟨ze_get (by decide +kernel) zK_6 (by decide) zw_365, List.forall_mem_cons.mpr ⟨ze_s (by decide +kernel) rfl, List.forall_mem_cons.mpr ⟨ze_s (by decide +kernel) rfl, List.forall_mem_cons.mpr ⟨ze_s (by decide +kernel) rfl, List.forall_mem_cons.mpr ⟨ze_get (by decide +kernel) zK_6 (by decide) zw_365, List.forall_mem_cons.mpr ⟨ze_s (by decide +kernel) rfl, List.forall_mem_cons.mpr ⟨ze_s (by decide +kernel) rfl, List.forall_mem_cons.mpr ⟨ze_put (by decide +kernel) zK_6 (by decide) zw_365 (Or.inl rfl), List.forall_mem_cons.mpr ⟨ze_s (by decide +kernel) rfl, List.forall_mem_cons.mpr ⟨ze_s (by decide +kernel) rfl, List.forall_mem_cons.mpr ⟨ze_get (by decide +kernel) zK_6 (by decide) zw_366, List.forall_mem_cons.mpr ⟨ze_s (by decide +kernel) rfl, List.forall_mem_cons.mpr ⟨ze_s (by decide +kernel) rfl, List.forall_mem_cons.mpr ⟨ze_s (by decide +kernel) rfl, List.forall_mem_cons.mpr ⟨ze_mn (by decide +kernel) zw_803 zw_804 zw_24 zw_805, List.forall_mem_cons.mpr ⟨ze_put (by decide +kernel) zK_6 (by decide) zw_366 (Or.inl rfl), List.forall_mem_cons.mpr ⟨ze_s (by decide +kernel) rfl, fun _ h => absurd h List.not_mem_nil⟩⟩⟩⟩⟩⟩⟩⟩⟩⟩⟩⟩⟩⟩⟩⟩⟩⟩⟩
theorem zo_X6_hold : z_Mok zTB zNT vwCl zTF zDF zP zm_X6_hold := ⟨by decide +kernel, zo_X6_hold_0⟩
set_option maxRecDepth 20000 in
theorem zo_X12_keepsAll_0 : ∀ en ∈ ([(0, .aload_n 0, []), (1, .getfield 231, [12, 23]), (4, .bipush 8, []), (6, .if_icmp .ne 39, []), (45, .iconst 0, []), (46, .istore_n 1, []), (47, .iload_n 1, []), (48, .bipush 56, []), (50, .if_icmp .ge 32, []), (53, .aload_n 0, []), (54, .getfield 50, [12, 21]), (57, .bipush 56, []), (59, .aload_n 0, []), (60, .getfield 231, [12, 23]), (63, .imul, []), (64, .iload_n 1, []), (65, .iadd, []), (66, .aload_n 0, []), (67, .getfield 33, [12, 6]), (70, .bipush 62, []), (72, .iload_n 1, []), (73, .iadd, []), (74, .iaload, []), (75, .iastore, []), (76, .iinc 1 1, []), (79, .goto (-32), []), (82, .aload_n 0, []), (83, .dup, []), (84, .getfield 231, [12, 23]), (87, .iconst 1, [])] : List zE), z_en zTB zNT vwCl zTF zDF zP ⟨"HeldCoatsModel", "keepsAll", "()V"⟩ prog_14_method_68_code en := List.forall_mem_cons.mpr ⟨ze_s (by decide +kernel) rfl, List.forall_mem_cons.mpr ⟨ze_get (by decide +kernel) zK_12 (by decide) zw_1422, List.forall_mem_cons.mpr ⟨ze_s (by decide +kernel) rfl, List.forall_mem_cons.mpr ⟨ze_s (by decide +kernel) rfl, List.forall_mem_cons.mpr ⟨ze_s (by decide +kernel) rfl, List.forall_mem_cons.mpr ⟨ze_s (by decide +kernel) rfl, List.forall_mem_cons.mpr ⟨ze_s (by decide +kernel) rfl, List.forall_mem_cons.mpr ⟨ze_s (by decide +kernel) rfl, List.forall_mem_cons.mpr ⟨ze_s (by decide +kernel) rfl, List.forall_mem_cons.mpr ⟨ze_s (by decide +kernel) rfl, List.forall_mem_cons.mpr ⟨ze_get (by decide +kernel) zK_12 (by decide) zw_1420, List.forall_mem_cons.mpr ⟨ze_s (by decide +kernel) rfl, List.forall_mem_cons.mpr ⟨ze_s (by decide +kernel) rfl, List.forall_mem_cons.mpr ⟨ze_get (by decide +kernel) zK_12 (by decide) zw_1422, List.forall_mem_cons.mpr ⟨ze_s (by decide +kernel) rfl, List.forall_mem_cons.mpr ⟨ze_s (by decide +kernel) rfl, List.forall_mem_cons.mpr ⟨ze_s (by decide +kernel) rfl, List.forall_mem_cons.mpr ⟨ze_s (by decide +kernel) rfl, List.forall_mem_cons.mpr ⟨ze_get (by decide +kernel) zK_12 (by decide) zw_1405, List.forall_mem_cons.mpr ⟨ze_s (by decide +kernel) rfl, List.forall_mem_cons.mpr ⟨ze_s (by decide +kernel) rfl, List.forall_mem_cons.mpr ⟨ze_s (by decide +kernel) rfl, List.forall_mem_cons.mpr ⟨ze_s (by decide +kernel) rfl, List.forall_mem_cons.mpr ⟨ze_s (by decide +kernel) rfl, List.forall_mem_cons.mpr ⟨ze_s (by decide +kernel) rfl, List.forall_mem_cons.mpr ⟨ze_s (by decide +kernel) rfl, List.forall_mem_cons.mpr ⟨ze_s (by decide +kernel) rfl, List.forall_mem_cons.mpr ⟨ze_s (by decide +kernel) rfl, List.forall_mem_cons.mpr ⟨ze_get (by decide +kernel) zK_12 (by decide) zw_1422, List.forall_mem_cons.mpr ⟨ze_s (by decide +kernel) rfl, fun _ h => absurd h List.not_mem_nil⟩⟩⟩⟩⟩⟩⟩⟩⟩⟩⟩⟩⟩⟩⟩⟩⟩⟩⟩⟩⟩⟩⟩⟩⟩⟩⟩⟩⟩⟩
set_option maxRecDepth 20000 in
theorem zo_X12_keepsAll_1 : ∀ en ∈ ([(88, .iadd, []), (89, .putfield 231, [12, 23]), (92, .return_, [])] : List zE), z_en zTB zNT vwCl zTF zDF zP ⟨"HeldCoatsModel", "keepsAll", "()V"⟩ prog_14_method_68_code en := List.forall_mem_cons.mpr ⟨ze_s (by decide +kernel) rfl, List.forall_mem_cons.mpr ⟨ze_put (by decide +kernel) zK_12 (by decide) zw_1422 (Or.inl rfl), List.forall_mem_cons.mpr ⟨ze_s (by decide +kernel) rfl, fun _ h => absurd h List.not_mem_nil⟩⟩⟩
theorem zo_X12_keepsAll : z_Mok zTB zNT vwCl zTF zDF zP zm_X12_keepsAll := ⟨by decide +kernel, List.forall_mem_append.mpr ⟨zo_X12_keepsAll_0, zo_X12_keepsAll_1⟩⟩
set_option maxRecDepth 20000 in
theorem zo_X12_goesOn_0 : ∀ en ∈ ([(0, .iconst 0, []), (1, .istore_n 2, []), (2, .iload_n 2, []), (3, .iload_n 1, []), (4, .if_icmp .ge 26, []), (7, .aload_n 0, []), (8, .getfield 33, [12, 6]), (11, .bipush 62, []), (13, .iaload, []), (14, .sipush 400, []), (17, .if_icmp .ge 13, []), (20, .aload_n 0, []), (21, .invokevirtual 298, [1, 84, 12]), (24, .iinc 2 1, []), (27, .goto (-25), []), (30, .iload_n 2, []), (31, .ireturn, [])] : List zE), z_en zTB zNT vwCl zTF zDF zP ⟨"HeldCoatsModel", "goesOn", "(I)I"⟩ prog_14_method_62_code en := List.forall_mem_cons.mpr ⟨ze_s (by decide +kernel) rfl, List.forall_mem_cons.mpr ⟨ze_s (by decide +kernel) rfl, List.forall_mem_cons.mpr ⟨ze_s (by decide +kernel) rfl, List.forall_mem_cons.mpr ⟨ze_s (by decide +kernel) rfl, List.forall_mem_cons.mpr ⟨ze_s (by decide +kernel) rfl, List.forall_mem_cons.mpr ⟨ze_s (by decide +kernel) rfl, List.forall_mem_cons.mpr ⟨ze_get (by decide +kernel) zK_12 (by decide) zw_1405, List.forall_mem_cons.mpr ⟨ze_s (by decide +kernel) rfl, List.forall_mem_cons.mpr ⟨ze_s (by decide +kernel) rfl, List.forall_mem_cons.mpr ⟨ze_s (by decide +kernel) rfl, List.forall_mem_cons.mpr ⟨ze_s (by decide +kernel) rfl, List.forall_mem_cons.mpr ⟨ze_s (by decide +kernel) rfl, List.forall_mem_cons.mpr ⟨ze_cv (by decide +kernel) (by rfl) zY_X12_day (Or.inl zw_1775) zw_1777 zs_84 rfl, List.forall_mem_cons.mpr ⟨ze_s (by decide +kernel) rfl, List.forall_mem_cons.mpr ⟨ze_s (by decide +kernel) rfl, List.forall_mem_cons.mpr ⟨ze_s (by decide +kernel) rfl, List.forall_mem_cons.mpr ⟨ze_s (by decide +kernel) rfl, fun _ h => absurd h List.not_mem_nil⟩⟩⟩⟩⟩⟩⟩⟩⟩⟩⟩⟩⟩⟩⟩⟩⟩
theorem zo_X12_goesOn : z_Mok zTB zNT vwCl zTF zDF zP zm_X12_goesOn := ⟨by decide +kernel, zo_X12_goesOn_0⟩
set_option maxRecDepth 20000 in
theorem zo_X12_day_0 : ∀ en ∈ ([(0, .aload_n 0, []), (1, .invokevirtual 283, [1, 54, 12]), (4, .istore_n 1, []), (5, .iload_n 1, []), (6, .ifCond .lt 19, []), (25, .aload_n 0, []), (26, .getfield 33, [12, 6]), (29, .bipush 63, []), (31, .dup2, []), (32, .iaload, []), (33, .iconst 1, []), (34, .iadd, []), (35, .iastore, []), (36, .aload_n 0, []), (37, .getfield 33, [12, 6]), (40, .bipush 64, []), (42, .iaload, []), (43, .ifCond .ne 19, []), (46, .aload_n 0, []), (47, .getfield 33, [12, 6]), (50, .bipush 64, []), (52, .aload_n 0, []), (53, .getfield 33, [12, 6]), (56, .bipush 62, []), (58, .iaload, []), (59, .iconst 1, []), (60, .iadd, []), (61, .iastore, []), (62, .iconst 0, []), (63, .istore_n 2, [])] : List zE), z_en zTB zNT vwCl zTF zDF zP ⟨"HeldCoatsModel", "day", "()V"⟩ prog_14_method_61_code en := List.forall_mem_cons.mpr ⟨ze_s (by decide +kernel) rfl, List.forall_mem_cons.mpr ⟨ze_cv (by decide +kernel) (by rfl) zY_X12_ruler (Or.inl zw_1707) zw_1709 zs_72 rfl, List.forall_mem_cons.mpr ⟨ze_s (by decide +kernel) rfl, List.forall_mem_cons.mpr ⟨ze_s (by decide +kernel) rfl, List.forall_mem_cons.mpr ⟨ze_s (by decide +kernel) rfl, List.forall_mem_cons.mpr ⟨ze_s (by decide +kernel) rfl, List.forall_mem_cons.mpr ⟨ze_get (by decide +kernel) zK_12 (by decide) zw_1405, List.forall_mem_cons.mpr ⟨ze_s (by decide +kernel) rfl, List.forall_mem_cons.mpr ⟨ze_s (by decide +kernel) rfl, List.forall_mem_cons.mpr ⟨ze_s (by decide +kernel) rfl, List.forall_mem_cons.mpr ⟨ze_s (by decide +kernel) rfl, List.forall_mem_cons.mpr ⟨ze_s (by decide +kernel) rfl, List.forall_mem_cons.mpr ⟨ze_s (by decide +kernel) rfl, List.forall_mem_cons.mpr ⟨ze_s (by decide +kernel) rfl, List.forall_mem_cons.mpr ⟨ze_get (by decide +kernel) zK_12 (by decide) zw_1405, List.forall_mem_cons.mpr ⟨ze_s (by decide +kernel) rfl, List.forall_mem_cons.mpr ⟨ze_s (by decide +kernel) rfl, List.forall_mem_cons.mpr ⟨ze_s (by decide +kernel) rfl, List.forall_mem_cons.mpr ⟨ze_s (by decide +kernel) rfl, List.forall_mem_cons.mpr ⟨ze_get (by decide +kernel) zK_12 (by decide) zw_1405, List.forall_mem_cons.mpr ⟨ze_s (by decide +kernel) rfl, List.forall_mem_cons.mpr ⟨ze_s (by decide +kernel) rfl, List.forall_mem_cons.mpr ⟨ze_get (by decide +kernel) zK_12 (by decide) zw_1405, List.forall_mem_cons.mpr ⟨ze_s (by decide +kernel) rfl, List.forall_mem_cons.mpr ⟨ze_s (by decide +kernel) rfl, List.forall_mem_cons.mpr ⟨ze_s (by decide +kernel) rfl, List.forall_mem_cons.mpr ⟨ze_s (by decide +kernel) rfl, List.forall_mem_cons.mpr ⟨ze_s (by decide +kernel) rfl, List.forall_mem_cons.mpr ⟨ze_s (by decide +kernel) rfl, List.forall_mem_cons.mpr ⟨ze_s (by decide +kernel) rfl, fun _ h => absurd h List.not_mem_nil⟩⟩⟩⟩⟩⟩⟩⟩⟩⟩⟩⟩⟩⟩⟩⟩⟩⟩⟩⟩⟩⟩⟩⟩⟩⟩⟩⟩⟩⟩
set_option maxRecDepth 20000 in
theorem zo_X12_day_1 : ∀ en ∈ ([(64, .iload_n 2, []), (65, .aload_n 0, []), (66, .getfield 33, [12, 6]), (69, .iconst 1, []), (70, .iaload, []), (71, .if_icmp .ge 32, []), (103, .iconst 0, []), (104, .istore_n 2, []), (105, .iload_n 2, []), (106, .aload_n 0, []), (107, .getfield 33, [12, 6]), (110, .iconst 2, []), (111, .iaload, []), (112, .if_icmp .ge 33, []), (145, .aload_n 0, []), (146, .getfield 33, [12, 6]), (149, .bipush 62, []), (151, .dup2, []), (152, .iaload, []), (153, .iconst 1, []), (154, .iadd, []), (155, .iastore, []), (156, .return_, [])] : List zE), z_en zTB zNT vwCl zTF zDF zP ⟨"HeldCoatsModel", "day", "()V"⟩ prog_14_method_61_code en := List.forall_mem_cons.mpr ⟨ze_s (by decide +kernel) rfl, List.forall_mem_cons.mpr ⟨ze_s (by decide +kernel) rfl, List.forall_mem_cons.mpr ⟨ze_get (by decide +kernel) zK_12 (by decide) zw_1405, List.forall_mem_cons.mpr ⟨ze_s (by decide +kernel) rfl, List.forall_mem_cons.mpr ⟨ze_s (by decide +kernel) rfl, List.forall_mem_cons.mpr ⟨ze_s (by decide +kernel) rfl, List.forall_mem_cons.mpr ⟨ze_s (by decide +kernel) rfl, List.forall_mem_cons.mpr ⟨ze_s (by decide +kernel) rfl, List.forall_mem_cons.mpr ⟨ze_s (by decide +kernel) rfl, List.forall_mem_cons.mpr ⟨ze_s (by decide +kernel) rfl, List.forall_mem_cons.mpr ⟨ze_get (by decide +kernel) zK_12 (by decide) zw_1405, List.forall_mem_cons.mpr ⟨ze_s (by decide +kernel) rfl, List.forall_mem_cons.mpr ⟨ze_s (by decide +kernel) rfl, List.forall_mem_cons.mpr ⟨ze_s (by decide +kernel) rfl, List.forall_mem_cons.mpr ⟨ze_s (by decide +kernel) rfl, List.forall_mem_cons.mpr ⟨ze_get (by decide +kernel) zK_12 (by decide) zw_1405, List.forall_mem_cons.mpr ⟨ze_s (by decide +kernel) rfl, List.forall_mem_cons.mpr ⟨ze_s (by decide +kernel) rfl, List.forall_mem_cons.mpr ⟨ze_s (by decide +kernel) rfl, List.forall_mem_cons.mpr ⟨ze_s (by decide +kernel) rfl, List.forall_mem_cons.mpr ⟨ze_s (by decide +kernel) rfl, List.forall_mem_cons.mpr ⟨ze_s (by decide +kernel) rfl, List.forall_mem_cons.mpr ⟨ze_s (by decide +kernel) rfl, fun _ h => absurd h List.not_mem_nil⟩⟩⟩⟩⟩⟩⟩⟩⟩⟩⟩⟩⟩⟩⟩⟩⟩⟩⟩⟩⟩⟩⟩
theorem zo_X12_day : z_Mok zTB zNT vwCl zTF zDF zP zm_X12_day := ⟨by decide +kernel, List.forall_mem_append.mpr ⟨zo_X12_day_0, zo_X12_day_1⟩⟩
set_option maxRecDepth 20000 in
theorem zo_X11_undo_0 : ∀ en ∈ ([(0, .aload_n 0, []), (1, .getfield 44, [11, 4]), (4, .aload_n 0, []), (5, .getfield 37, [11, 3]), (8, .invokevirtual 242, [1, 86, 6]), (11, .ifCond .eq 13, []), (24, .iconst (-1), []), (25, .ireturn, [])] : List zE), z_en zTB zNT vwCl zTF zDF zP ⟨"HeldCoats", "undo", "()I"⟩ prog_1_method_15_code en := List.forall_mem_cons.mpr ⟨ze_s (by decide +kernel) rfl, List.forall_mem_cons.mpr ⟨ze_get (by decide +kernel) zK_11 (by decide) zw_535, List.forall_mem_cons.mpr ⟨ze_s (by decide +kernel) rfl, List.forall_mem_cons.mpr ⟨ze_get (by decide +kernel) zK_11 (by decide) zw_534, List.forall_mem_cons.mpr ⟨ze_cv (by decide +kernel) (by rfl) zY_X6_takeBack (Or.inl zw_887) zw_888 zw_889 rfl, List.forall_mem_cons.mpr ⟨ze_s (by decide +kernel) rfl, List.forall_mem_cons.mpr ⟨ze_s (by decide +kernel) rfl, List.forall_mem_cons.mpr ⟨ze_s (by decide +kernel) rfl, fun _ h => absurd h List.not_mem_nil⟩⟩⟩⟩⟩⟩⟩⟩
theorem zo_X11_undo : z_Mok zTB zNT vwCl zTF zDF zP zm_X11_undo := ⟨by decide +kernel, zo_X11_undo_0⟩
set_option maxRecDepth 20000 in
theorem zo_X6_takeBack_0 : ∀ en ∈ ([(0, .aload_n 0, []), (1, .getfield 20, [6, 2]), (4, .ifCond .ne 5, []), (7, .iconst 0, []), (8, .ireturn, [])] : List zE), z_en zTB zNT vwCl zTF zDF zP ⟨"HeldCoats$Past", "takeBack", "(LHeldCoats$State;)Z"⟩ prog_8_method_5_code en := List.forall_mem_cons.mpr ⟨ze_s (by decide +kernel) rfl, List.forall_mem_cons.mpr ⟨ze_get (by decide +kernel) zK_6 (by decide) zw_366, List.forall_mem_cons.mpr ⟨ze_s (by decide +kernel) rfl, List.forall_mem_cons.mpr ⟨ze_s (by decide +kernel) rfl, List.forall_mem_cons.mpr ⟨ze_s (by decide +kernel) rfl, fun _ h => absurd h List.not_mem_nil⟩⟩⟩⟩⟩
theorem zo_X6_takeBack : z_Mok zTB zNT vwCl zTF zDF zP zm_X6_takeBack := ⟨by decide +kernel, zo_X6_takeBack_0⟩
set_option maxRecDepth 20000 in
theorem zo_X12_undo_0 : ∀ en ∈ ([(0, .aload_n 0, []), (1, .iconst 0, []), (2, .putfield 1, [12, 0]), (5, .aload_n 0, []), (6, .getfield 231, [12, 23]), (9, .ifCond .ne 5, []), (12, .iconst (-1), []), (13, .ireturn, [])] : List zE), z_en zTB zNT vwCl zTF zDF zP ⟨"HeldCoatsModel", "undo", "()I"⟩ prog_14_method_69_code en := List.forall_mem_cons.mpr ⟨ze_s (by decide +kernel) rfl, List.forall_mem_cons.mpr ⟨ze_s (by decide +kernel) rfl, List.forall_mem_cons.mpr ⟨ze_put (by decide +kernel) zK_12 (by decide) zw_1399 (Or.inl rfl), List.forall_mem_cons.mpr ⟨ze_s (by decide +kernel) rfl, List.forall_mem_cons.mpr ⟨ze_get (by decide +kernel) zK_12 (by decide) zw_1422, List.forall_mem_cons.mpr ⟨ze_s (by decide +kernel) rfl, List.forall_mem_cons.mpr ⟨ze_s (by decide +kernel) rfl, List.forall_mem_cons.mpr ⟨ze_s (by decide +kernel) rfl, fun _ h => absurd h List.not_mem_nil⟩⟩⟩⟩⟩⟩⟩⟩
theorem zo_X12_undo : z_Mok zTB zNT vwCl zTF zDF zP zm_X12_undo := ⟨by decide +kernel, zo_X12_undo_0⟩
set_option maxRecDepth 20000 in
theorem zo_X11_best_0 : ∀ en ∈ ([(0, .aload_n 0, []), (1, .getfield 19, [11, 1]), (4, .iload_n 1, []), (5, .invokevirtual 140, [1, 64, 3]), (8, .ifCond .eq 14, []), (22, .iconst (-1), []), (23, .ireturn, [])] : List zE), z_en zTB zNT vwCl zTF zDF zP ⟨"HeldCoats", "best", "(II)I"⟩ prog_1_method_16_code en := List.forall_mem_cons.mpr ⟨ze_s (by decide +kernel) rfl, List.forall_mem_cons.mpr ⟨ze_get (by decide +kernel) zK_11 (by decide) zw_532, List.forall_mem_cons.mpr ⟨ze_s (by decide +kernel) rfl, List.forall_mem_cons.mpr ⟨ze_cv (by decide +kernel) (by rfl) zY_X3_hasMan (Or.inl zw_810) zw_811 zw_812 rfl, List.forall_mem_cons.mpr ⟨ze_s (by decide +kernel) rfl, List.forall_mem_cons.mpr ⟨ze_s (by decide +kernel) rfl, List.forall_mem_cons.mpr ⟨ze_s (by decide +kernel) rfl, fun _ h => absurd h List.not_mem_nil⟩⟩⟩⟩⟩⟩⟩
theorem zo_X11_best : z_Mok zTB zNT vwCl zTF zDF zP zm_X11_best := ⟨by decide +kernel, zo_X11_best_0⟩
set_option maxRecDepth 20000 in
theorem zo_X12_best_0 : ∀ en ∈ ([(0, .aload_n 0, []), (1, .iconst 0, []), (2, .putfield 1, [12, 0]), (5, .aload_n 0, []), (6, .iload_n 1, []), (7, .invokevirtual 270, [1, 66, 12]), (10, .ifCond .eq 14, []), (24, .iconst (-1), []), (25, .ireturn, [])] : List zE), z_en zTB zNT vwCl zTF zDF zP ⟨"HeldCoatsModel", "best", "(II)I"⟩ prog_14_method_73_code en := List.forall_mem_cons.mpr ⟨ze_s (by decide +kernel) rfl, List.forall_mem_cons.mpr ⟨ze_s (by decide +kernel) rfl, List.forall_mem_cons.mpr ⟨ze_put (by decide +kernel) zK_12 (by decide) zw_1399 (Or.inl rfl), List.forall_mem_cons.mpr ⟨ze_s (by decide +kernel) rfl, List.forall_mem_cons.mpr ⟨ze_s (by decide +kernel) rfl, List.forall_mem_cons.mpr ⟨ze_cv (by decide +kernel) (by rfl) zY_X12_isMan (Or.inl zw_1668) zw_1670 zs_65 rfl, List.forall_mem_cons.mpr ⟨ze_s (by decide +kernel) rfl, List.forall_mem_cons.mpr ⟨ze_s (by decide +kernel) rfl, List.forall_mem_cons.mpr ⟨ze_s (by decide +kernel) rfl, fun _ h => absurd h List.not_mem_nil⟩⟩⟩⟩⟩⟩⟩⟩⟩
theorem zo_X12_best : z_Mok zTB zNT vwCl zTF zDF zP zm_X12_best := ⟨by decide +kernel, zo_X12_best_0⟩
set_option maxRecDepth 20000 in
theorem zo_X11_laid_0 : ∀ en ∈ ([(0, .aload_n 0, []), (1, .getfield 74, [11, 8]), (4, .getfield 250, [1, 6]), (7, .ireturn, [])] : List zE), z_en zTB zNT vwCl zTF zDF zP ⟨"HeldCoats", "laid", "()I"⟩ prog_1_method_17_code en := List.forall_mem_cons.mpr ⟨ze_s (by decide +kernel) rfl, List.forall_mem_cons.mpr ⟨ze_get (by decide +kernel) zK_11 (by decide) zw_539, List.forall_mem_cons.mpr ⟨ze_get (by decide +kernel) zK_1 (by decide) zw_461, List.forall_mem_cons.mpr ⟨ze_s (by decide +kernel) rfl, fun _ h => absurd h List.not_mem_nil⟩⟩⟩⟩
theorem zo_X11_laid : z_Mok zTB zNT vwCl zTF zDF zP zm_X11_laid := ⟨by decide +kernel, zo_X11_laid_0⟩
set_option maxRecDepth 20000 in
theorem zo_X12_laid_0 : ∀ en ∈ ([(0, .aload_n 0, []), (1, .iconst 0, []), (2, .putfield 1, [12, 0]), (5, .aload_n 0, []), (6, .getfield 332, [12, 25]), (9, .ifCond .eq 10, []), (19, .iconst (-1), []), (20, .ireturn, [])] : List zE), z_en zTB zNT vwCl zTF zDF zP ⟨"HeldCoatsModel", "laid", "()I"⟩ prog_14_method_74_code en := List.forall_mem_cons.mpr ⟨ze_s (by decide +kernel) rfl, List.forall_mem_cons.mpr ⟨ze_s (by decide +kernel) rfl, List.forall_mem_cons.mpr ⟨ze_put (by decide +kernel) zK_12 (by decide) zw_1399 (Or.inl rfl), List.forall_mem_cons.mpr ⟨ze_s (by decide +kernel) rfl, List.forall_mem_cons.mpr ⟨ze_get (by decide +kernel) zK_12 (by decide) zw_1424, List.forall_mem_cons.mpr ⟨ze_s (by decide +kernel) rfl, List.forall_mem_cons.mpr ⟨ze_s (by decide +kernel) rfl, List.forall_mem_cons.mpr ⟨ze_s (by decide +kernel) rfl, fun _ h => absurd h List.not_mem_nil⟩⟩⟩⟩⟩⟩⟩⟩
theorem zo_X12_laid : z_Mok zTB zNT vwCl zTF zDF zP zm_X12_laid := ⟨by decide +kernel, zo_X12_laid_0⟩
set_option maxRecDepth 20000 in
theorem zo_X11_share_0 : ∀ en ∈ ([(0, .aload_n 0, []), (1, .getfield 19, [11, 1]), (4, .iload_n 1, []), (5, .invokevirtual 140, [1, 64, 3]), (8, .ifCond .eq 30, []), (38, .iconst (-1), []), (39, .ireturn, [])] : List zE), z_en zTB zNT vwCl zTF zDF zP ⟨"HeldCoats", "share", "(IIII)I"⟩ prog_1_method_18_code en := List.forall_mem_cons.mpr ⟨ze_s (by decide +kernel) rfl, List.forall_mem_cons.mpr ⟨ze_get (by decide +kernel) zK_11 (by decide) zw_532, List.forall_mem_cons.mpr ⟨ze_s (by decide +kernel) rfl, List.forall_mem_cons.mpr ⟨ze_cv (by decide +kernel) (by rfl) zY_X3_hasMan (Or.inl zw_810) zw_811 zw_812 rfl, List.forall_mem_cons.mpr ⟨ze_s (by decide +kernel) rfl, List.forall_mem_cons.mpr ⟨ze_s (by decide +kernel) rfl, List.forall_mem_cons.mpr ⟨ze_s (by decide +kernel) rfl, fun _ h => absurd h List.not_mem_nil⟩⟩⟩⟩⟩⟩⟩
theorem zo_X11_share : z_Mok zTB zNT vwCl zTF zDF zP zm_X11_share := ⟨by decide +kernel, zo_X11_share_0⟩
set_option maxRecDepth 20000 in
theorem zo_X12_share_0 : ∀ en ∈ ([(0, .aload_n 0, []), (1, .iconst 0, []), (2, .putfield 1, [12, 0]), (5, .aload_n 0, []), (6, .iload_n 1, []), (7, .invokevirtual 270, [1, 66, 12]), (10, .ifCond .eq 49, []), (59, .iconst (-1), []), (60, .ireturn, [])] : List zE), z_en zTB zNT vwCl zTF zDF zP ⟨"HeldCoatsModel", "share", "(IIII)I"⟩ prog_14_method_76_code en := List.forall_mem_cons.mpr ⟨ze_s (by decide +kernel) rfl, List.forall_mem_cons.mpr ⟨ze_s (by decide +kernel) rfl, List.forall_mem_cons.mpr ⟨ze_put (by decide +kernel) zK_12 (by decide) zw_1399 (Or.inl rfl), List.forall_mem_cons.mpr ⟨ze_s (by decide +kernel) rfl, List.forall_mem_cons.mpr ⟨ze_s (by decide +kernel) rfl, List.forall_mem_cons.mpr ⟨ze_cv (by decide +kernel) (by rfl) zY_X12_isMan (Or.inl zw_1668) zw_1670 zs_65 rfl, List.forall_mem_cons.mpr ⟨ze_s (by decide +kernel) rfl, List.forall_mem_cons.mpr ⟨ze_s (by decide +kernel) rfl, List.forall_mem_cons.mpr ⟨ze_s (by decide +kernel) rfl, fun _ h => absurd h List.not_mem_nil⟩⟩⟩⟩⟩⟩⟩⟩⟩
theorem zo_X12_share : z_Mok zTB zNT vwCl zTF zDF zP zm_X12_share := ⟨by decide +kernel, zo_X12_share_0⟩
set_option maxRecDepth 20000 in
theorem zo_X11_turns_0 : ∀ en ∈ ([(0, .aload_n 0, []), (1, .getfield 74, [11, 8]), (4, .getfield 257, [1, 7]), (7, .ireturn, [])] : List zE), z_en zTB zNT vwCl zTF zDF zP ⟨"HeldCoats", "turns", "()I"⟩ prog_1_method_19_code en := List.forall_mem_cons.mpr ⟨ze_s (by decide +kernel) rfl, List.forall_mem_cons.mpr ⟨ze_get (by decide +kernel) zK_11 (by decide) zw_539, List.forall_mem_cons.mpr ⟨ze_get (by decide +kernel) zK_1 (by decide) zw_463, List.forall_mem_cons.mpr ⟨ze_s (by decide +kernel) rfl, fun _ h => absurd h List.not_mem_nil⟩⟩⟩⟩
theorem zo_X11_turns : z_Mok zTB zNT vwCl zTF zDF zP zm_X11_turns := ⟨by decide +kernel, zo_X11_turns_0⟩
set_option maxRecDepth 20000 in
theorem zo_X12_turns_0 : ∀ en ∈ ([(0, .aload_n 0, []), (1, .iconst 0, []), (2, .putfield 1, [12, 0]), (5, .aload_n 0, []), (6, .getfield 339, [12, 27]), (9, .ifCond .eq 10, []), (19, .iconst (-1), []), (20, .ireturn, [])] : List zE), z_en zTB zNT vwCl zTF zDF zP ⟨"HeldCoatsModel", "turns", "()I"⟩ prog_14_method_77_code en := List.forall_mem_cons.mpr ⟨ze_s (by decide +kernel) rfl, List.forall_mem_cons.mpr ⟨ze_s (by decide +kernel) rfl, List.forall_mem_cons.mpr ⟨ze_put (by decide +kernel) zK_12 (by decide) zw_1399 (Or.inl rfl), List.forall_mem_cons.mpr ⟨ze_s (by decide +kernel) rfl, List.forall_mem_cons.mpr ⟨ze_get (by decide +kernel) zK_12 (by decide) zw_1426, List.forall_mem_cons.mpr ⟨ze_s (by decide +kernel) rfl, List.forall_mem_cons.mpr ⟨ze_s (by decide +kernel) rfl, List.forall_mem_cons.mpr ⟨ze_s (by decide +kernel) rfl, fun _ h => absurd h List.not_mem_nil⟩⟩⟩⟩⟩⟩⟩⟩
theorem zo_X12_turns : z_Mok zTB zNT vwCl zTF zDF zP zm_X12_turns := ⟨by decide +kernel, zo_X12_turns_0⟩
set_option maxRecDepth 20000 in
theorem zo_X11_ahead_0 : ∀ en ∈ ([(0, .aload_n 0, []), (1, .getfield 19, [11, 1]), (4, .iload_n 1, []), (5, .invokevirtual 170, [1, 60, 3]), (8, .ifCond .eq 14, []), (22, .iconst (-1), []), (23, .ireturn, [])] : List zE), z_en zTB zNT vwCl zTF zDF zP ⟨"HeldCoats", "ahead", "(I)I"⟩ prog_1_method_20_code en := List.forall_mem_cons.mpr ⟨ze_s (by decide +kernel) rfl, List.forall_mem_cons.mpr ⟨ze_get (by decide +kernel) zK_11 (by decide) zw_532, List.forall_mem_cons.mpr ⟨ze_s (by decide +kernel) rfl, List.forall_mem_cons.mpr ⟨ze_cv (by decide +kernel) (by rfl) zY_X3_hasCoat (Or.inl zw_774) zw_775 zw_776 rfl, List.forall_mem_cons.mpr ⟨ze_s (by decide +kernel) rfl, List.forall_mem_cons.mpr ⟨ze_s (by decide +kernel) rfl, List.forall_mem_cons.mpr ⟨ze_s (by decide +kernel) rfl, fun _ h => absurd h List.not_mem_nil⟩⟩⟩⟩⟩⟩⟩
theorem zo_X11_ahead : z_Mok zTB zNT vwCl zTF zDF zP zm_X11_ahead := ⟨by decide +kernel, zo_X11_ahead_0⟩
set_option maxRecDepth 20000 in
theorem zo_X12_ahead_0 : ∀ en ∈ ([(0, .aload_n 0, []), (1, .iconst 0, []), (2, .putfield 1, [12, 0]), (5, .aload_n 0, []), (6, .iload_n 1, []), (7, .invokevirtual 280, [1, 62, 12]), (10, .ifCond .eq 11, []), (21, .iconst (-1), []), (22, .ireturn, [])] : List zE), z_en zTB zNT vwCl zTF zDF zP ⟨"HeldCoatsModel", "ahead", "(I)I"⟩ prog_14_method_79_code en := List.forall_mem_cons.mpr ⟨ze_s (by decide +kernel) rfl, List.forall_mem_cons.mpr ⟨ze_s (by decide +kernel) rfl, List.forall_mem_cons.mpr ⟨ze_put (by decide +kernel) zK_12 (by decide) zw_1399 (Or.inl rfl), List.forall_mem_cons.mpr ⟨ze_s (by decide +kernel) rfl, List.forall_mem_cons.mpr ⟨ze_s (by decide +kernel) rfl, List.forall_mem_cons.mpr ⟨ze_cv (by decide +kernel) (by rfl) zY_X12_isCoat (Or.inl zw_1699) zw_1701 zs_71 rfl, List.forall_mem_cons.mpr ⟨ze_s (by decide +kernel) rfl, List.forall_mem_cons.mpr ⟨ze_s (by decide +kernel) rfl, List.forall_mem_cons.mpr ⟨ze_s (by decide +kernel) rfl, fun _ h => absurd h List.not_mem_nil⟩⟩⟩⟩⟩⟩⟩⟩⟩
theorem zo_X12_ahead : z_Mok zTB zNT vwCl zTF zDF zP zm_X12_ahead := ⟨by decide +kernel, zo_X12_ahead_0⟩
set_option maxRecDepth 20000 in
theorem zo_X11_queue_0 : ∀ en ∈ ([(0, .iload_n 1, []), (1, .ifCond .lt 26, []), (4, .iload_n 1, []), (5, .aload_n 0, []), (6, .getfield 37, [11, 3]), (9, .getfield 207, [9, 4]), (12, .if_icmp .ge 15, []), (27, .iconst (-1), []), (28, .ireturn, [])] : List zE), z_en zTB zNT vwCl zTF zDF zP ⟨"HeldCoats", "queue", "(I)I"⟩ prog_1_method_21_code en := List.forall_mem_cons.mpr ⟨ze_s (by decide +kernel) rfl, List.forall_mem_cons.mpr ⟨ze_s (by decide +kernel) rfl, List.forall_mem_cons.mpr ⟨ze_s (by decide +kernel) rfl, List.forall_mem_cons.mpr ⟨ze_s (by decide +kernel) rfl, List.forall_mem_cons.mpr ⟨ze_get (by decide +kernel) zK_11 (by decide) zw_534, List.forall_mem_cons.mpr ⟨ze_get (by decide +kernel) zK_9 (by decide) zw_312, List.forall_mem_cons.mpr ⟨ze_s (by decide +kernel) rfl, List.forall_mem_cons.mpr ⟨ze_s (by decide +kernel) rfl, List.forall_mem_cons.mpr ⟨ze_s (by decide +kernel) rfl, fun _ h => absurd h List.not_mem_nil⟩⟩⟩⟩⟩⟩⟩⟩⟩
theorem zo_X11_queue : z_Mok zTB zNT vwCl zTF zDF zP zm_X11_queue := ⟨by decide +kernel, zo_X11_queue_0⟩
set_option maxRecDepth 20000 in
theorem zo_X12_queue_0 : ∀ en ∈ ([(0, .aload_n 0, []), (1, .iconst 0, []), (2, .putfield 1, [12, 0]), (5, .iload_n 1, []), (6, .iconst 0, []), (7, .aload_n 0, []), (8, .getfield 33, [12, 6]), (11, .bipush 117, []), (13, .iaload, []), (14, .iconst 1, []), (15, .isub, []), (16, .invokestatic 171, [1, 45]), (19, .ifCond .eq 15, []), (34, .iconst (-1), []), (35, .ireturn, [])] : List zE), z_en zTB zNT vwCl zTF zDF zP ⟨"HeldCoatsModel", "queue", "(I)I"⟩ prog_14_method_80_code en := List.forall_mem_cons.mpr ⟨ze_s (by decide +kernel) rfl, List.forall_mem_cons.mpr ⟨ze_s (by decide +kernel) rfl, List.forall_mem_cons.mpr ⟨ze_put (by decide +kernel) zK_12 (by decide) zw_1399 (Or.inl rfl), List.forall_mem_cons.mpr ⟨ze_s (by decide +kernel) rfl, List.forall_mem_cons.mpr ⟨ze_s (by decide +kernel) rfl, List.forall_mem_cons.mpr ⟨ze_s (by decide +kernel) rfl, List.forall_mem_cons.mpr ⟨ze_get (by decide +kernel) zK_12 (by decide) zw_1405, List.forall_mem_cons.mpr ⟨ze_s (by decide +kernel) rfl, List.forall_mem_cons.mpr ⟨ze_s (by decide +kernel) rfl, List.forall_mem_cons.mpr ⟨ze_s (by decide +kernel) rfl, List.forall_mem_cons.mpr ⟨ze_s (by decide +kernel) rfl, List.forall_mem_cons.mpr ⟨ze_cs (by decide +kernel) (by rfl) zY_X12_isIn (Or.inl zw_1602) zw_1603, List.forall_mem_cons.mpr ⟨ze_s (by decide +kernel) rfl, List.forall_mem_cons.mpr ⟨ze_s (by decide +kernel) rfl, List.forall_mem_cons.mpr ⟨ze_s (by decide +kernel) rfl, fun _ h => absurd h List.not_mem_nil⟩⟩⟩⟩⟩⟩⟩⟩⟩⟩⟩⟩⟩⟩⟩
theorem zo_X12_queue : z_Mok zTB zNT vwCl zTF zDF zP zm_X12_queue := ⟨by decide +kernel, zo_X12_queue_0⟩
set_option maxRecDepth 20000 in
theorem zo_X11_bribes_0 : ∀ en ∈ ([(0, .iload_n 1, []), (1, .aload_n 0, []), (2, .getfield 37, [11, 3]), (5, .invokevirtual 266, [1, 101, 9]), (8, .iconst (-1), []), (9, .ixor, []), (10, .iand, []), (11, .ifCond .eq 5, []), (14, .iconst (-1), []), (15, .ireturn, []), (16, .aload_n 0, []), (17, .getfield 74, [11, 8]), (20, .iload_n 1, []), (21, .invokevirtual 269, [1, 103, 1]), (24, .ireturn, [])] : List zE), z_en zTB zNT vwCl zTF zDF zP ⟨"HeldCoats", "bribes", "(I)I"⟩ prog_1_method_22_code en := List.forall_mem_cons.mpr ⟨ze_s (by decide +kernel) rfl, List.forall_mem_cons.mpr ⟨ze_s (by decide +kernel) rfl, List.forall_mem_cons.mpr ⟨ze_get (by decide +kernel) zK_11 (by decide) zw_534, List.forall_mem_cons.mpr ⟨ze_cv (by decide +kernel) (by rfl) zY_X9_inCloakroom (Or.inl zw_958) zw_959 zw_960 rfl, List.forall_mem_cons.mpr ⟨ze_s (by decide +kernel) rfl, List.forall_mem_cons.mpr ⟨ze_s (by decide +kernel) rfl, List.forall_mem_cons.mpr ⟨ze_s (by decide +kernel) rfl, List.forall_mem_cons.mpr ⟨ze_s (by decide +kernel) rfl, List.forall_mem_cons.mpr ⟨ze_s (by decide +kernel) rfl, List.forall_mem_cons.mpr ⟨ze_s (by decide +kernel) rfl, List.forall_mem_cons.mpr ⟨ze_s (by decide +kernel) rfl, List.forall_mem_cons.mpr ⟨ze_get (by decide +kernel) zK_11 (by decide) zw_539, List.forall_mem_cons.mpr ⟨ze_s (by decide +kernel) rfl, List.forall_mem_cons.mpr ⟨ze_cv (by decide +kernel) (by rfl) zY_X1_fewestBribes (Or.inl zw_962) zw_963 zw_964 rfl, List.forall_mem_cons.mpr ⟨ze_s (by decide +kernel) rfl, fun _ h => absurd h List.not_mem_nil⟩⟩⟩⟩⟩⟩⟩⟩⟩⟩⟩⟩⟩⟩⟩
theorem zo_X11_bribes : z_Mok zTB zNT vwCl zTF zDF zP zm_X11_bribes := ⟨by decide +kernel, zo_X11_bribes_0⟩
set_option maxRecDepth 20000 in
theorem zo_X9_inCloakroom_0 : ∀ en ∈ ([(0, .aload_n 0, []), (1, .bipush 20, []), (3, .invokevirtual 90, [1, 57, 9]), (6, .ireturn, [])] : List zE), z_en zTB zNT vwCl zTF zDF zP ⟨"HeldCoats$State", "inCloakroom", "()I"⟩ prog_11_method_13_code en := List.forall_mem_cons.mpr ⟨ze_s (by decide +kernel) rfl, List.forall_mem_cons.mpr ⟨ze_s (by decide +kernel) rfl, List.forall_mem_cons.mpr ⟨ze_cv (by decide +kernel) (by rfl) zY_X9_coatsAt (Or.inl zw_766) zw_767 zw_768 rfl, List.forall_mem_cons.mpr ⟨ze_s (by decide +kernel) rfl, fun _ h => absurd h List.not_mem_nil⟩⟩⟩⟩
theorem zo_X9_inCloakroom : z_Mok zTB zNT vwCl zTF zDF zP zm_X9_inCloakroom := ⟨by decide +kernel, zo_X9_inCloakroom_0⟩
set_option maxRecDepth 20000 in
theorem zo_X12_bribes_0 : ∀ en ∈ ([(0, .aload_n 0, []), (1, .iconst 0, []), (2, .putfield 1, [12, 0]), (5, .iload_n 1, []), (6, .ifCond .lt 28, []), (9, .iload_n 1, []), (10, .iconst 1, []), (11, .aload_n 0, []), (12, .getfield 33, [12, 6]), (15, .iconst 2, []), (16, .iaload, []), (17, .ishl, []), (18, .if_icmp .ge 16, []), (21, .iload_n 1, []), (22, .aload_n 0, []), (23, .bipush 20, []), (25, .invokevirtual 253, [1, 58, 12]), (28, .iconst (-1), []), (29, .ixor, []), (30, .iand, []), (31, .ifCond .eq 5, []), (34, .iconst (-1), []), (35, .ireturn, []), (36, .iconst 0, []), (37, .istore_n 2, []), (38, .iload_n 2, []), (39, .aload_n 0, []), (40, .getfield 33, [12, 6]), (43, .bipush 117, []), (45, .iaload, [])] : List zE), z_en zTB zNT vwCl zTF zDF zP ⟨"HeldCoatsModel", "bribes", "(I)I"⟩ prog_14_method_81_code en := List.forall_mem_cons.mpr ⟨ze_s (by decide +kernel) rfl, List.forall_mem_cons.mpr ⟨ze_s (by decide +kernel) rfl, List.forall_mem_cons.mpr ⟨ze_put (by decide +kernel) zK_12 (by decide) zw_1399 (Or.inl rfl), List.forall_mem_cons.mpr ⟨ze_s (by decide +kernel) rfl, List.forall_mem_cons.mpr ⟨ze_s (by decide +kernel) rfl, List.forall_mem_cons.mpr ⟨ze_s (by decide +kernel) rfl, List.forall_mem_cons.mpr ⟨ze_s (by decide +kernel) rfl, List.forall_mem_cons.mpr ⟨ze_s (by decide +kernel) rfl, List.forall_mem_cons.mpr ⟨ze_get (by decide +kernel) zK_12 (by decide) zw_1405, List.forall_mem_cons.mpr ⟨ze_s (by decide +kernel) rfl, List.forall_mem_cons.mpr ⟨ze_s (by decide +kernel) rfl, List.forall_mem_cons.mpr ⟨ze_s (by decide +kernel) rfl, List.forall_mem_cons.mpr ⟨ze_s (by decide +kernel) rfl, List.forall_mem_cons.mpr ⟨ze_s (by decide +kernel) rfl, List.forall_mem_cons.mpr ⟨ze_s (by decide +kernel) rfl, List.forall_mem_cons.mpr ⟨ze_s (by decide +kernel) rfl, List.forall_mem_cons.mpr ⟨ze_cv (by decide +kernel) (by rfl) zY_X12_coatsAt (Or.inl zw_1680) zw_1682 zs_68 rfl, List.forall_mem_cons.mpr ⟨ze_s (by decide +kernel) rfl, List.forall_mem_cons.mpr ⟨ze_s (by decide +kernel) rfl, List.forall_mem_cons.mpr ⟨ze_s (by decide +kernel) rfl, List.forall_mem_cons.mpr ⟨ze_s (by decide +kernel) rfl, List.forall_mem_cons.mpr ⟨ze_s (by decide +kernel) rfl, List.forall_mem_cons.mpr ⟨ze_s (by decide +kernel) rfl, List.forall_mem_cons.mpr ⟨ze_s (by decide +kernel) rfl, List.forall_mem_cons.mpr ⟨ze_s (by decide +kernel) rfl, List.forall_mem_cons.mpr ⟨ze_s (by decide +kernel) rfl, List.forall_mem_cons.mpr ⟨ze_s (by decide +kernel) rfl, List.forall_mem_cons.mpr ⟨ze_get (by decide +kernel) zK_12 (by decide) zw_1405, List.forall_mem_cons.mpr ⟨ze_s (by decide +kernel) rfl, List.forall_mem_cons.mpr ⟨ze_s (by decide +kernel) rfl, fun _ h => absurd h List.not_mem_nil⟩⟩⟩⟩⟩⟩⟩⟩⟩⟩⟩⟩⟩⟩⟩⟩⟩⟩⟩⟩⟩⟩⟩⟩⟩⟩⟩⟩⟩⟩
set_option maxRecDepth 20000 in
theorem zo_X12_bribes_1 : ∀ en ∈ ([(46, .if_icmp .ge 25, []), (71, .iload_n 1, []), (72, .invokestatic 323, [1, 104]), (75, .iload_n 2, []), (76, .isub, []), (77, .ireturn, [])] : List zE), z_en zTB zNT vwCl zTF zDF zP ⟨"HeldCoatsModel", "bribes", "(I)I"⟩ prog_14_method_81_code en := List.forall_mem_cons.mpr ⟨ze_s (by decide +kernel) rfl, List.forall_mem_cons.mpr ⟨ze_s (by decide +kernel) rfl, List.forall_mem_cons.mpr ⟨ze_cs (by decide +kernel) (by rfl) zY_X12_bits (Or.inl zw_1791) zw_1792, List.forall_mem_cons.mpr ⟨ze_s (by decide +kernel) rfl, List.forall_mem_cons.mpr ⟨ze_s (by decide +kernel) rfl, List.forall_mem_cons.mpr ⟨ze_s (by decide +kernel) rfl, fun _ h => absurd h List.not_mem_nil⟩⟩⟩⟩⟩⟩
theorem zo_X12_bribes : z_Mok zTB zNT vwCl zTF zDF zP zm_X12_bribes := ⟨by decide +kernel, List.forall_mem_append.mpr ⟨zo_X12_bribes_0, zo_X12_bribes_1⟩⟩
set_option maxRecDepth 20000 in
theorem zo_X1_fewestBribes_0 : ∀ en ∈ ([(0, .iconst 0, []), (1, .istore_n 2, []), (2, .iconst 0, []), (3, .istore_n 3, []), (4, .iconst 0, []), (5, .istore 4, []), (7, .iload 4, []), (9, .aload_n 0, []), (10, .getfield 41, [1, 1]), (13, .getfield 111, [9, 4]), (16, .if_icmp .ge 38, []), (54, .iload_n 3, []), (55, .ireturn, [])] : List zE), z_en zTB zNT vwCl zTF zDF zP ⟨"HeldCoats$Counsel", "fewestBribes", "(I)I"⟩ prog_3_method_7_code en := List.forall_mem_cons.mpr ⟨ze_s (by decide +kernel) rfl, List.forall_mem_cons.mpr ⟨ze_s (by decide +kernel) rfl, List.forall_mem_cons.mpr ⟨ze_s (by decide +kernel) rfl, List.forall_mem_cons.mpr ⟨ze_s (by decide +kernel) rfl, List.forall_mem_cons.mpr ⟨ze_s (by decide +kernel) rfl, List.forall_mem_cons.mpr ⟨ze_s (by decide +kernel) rfl, List.forall_mem_cons.mpr ⟨ze_s (by decide +kernel) rfl, List.forall_mem_cons.mpr ⟨ze_s (by decide +kernel) rfl, List.forall_mem_cons.mpr ⟨ze_get (by decide +kernel) zK_1 (by decide) zw_455, List.forall_mem_cons.mpr ⟨ze_get (by decide +kernel) zK_9 (by decide) zw_311, List.forall_mem_cons.mpr ⟨ze_s (by decide +kernel) rfl, List.forall_mem_cons.mpr ⟨ze_s (by decide +kernel) rfl, List.forall_mem_cons.mpr ⟨ze_s (by decide +kernel) rfl, fun _ h => absurd h List.not_mem_nil⟩⟩⟩⟩⟩⟩⟩⟩⟩⟩⟩⟩⟩
theorem zo_X1_fewestBribes : z_Mok zTB zNT vwCl zTF zDF zP zm_X1_fewestBribes := ⟨by decide +kernel, zo_X1_fewestBribes_0⟩
set_option maxRecDepth 20000 in
theorem zo_X12_bits_0 : ∀ en ∈ ([(0, .iconst 0, []), (1, .istore_n 1, []), (2, .iload_n 0, []), (3, .istore_n 2, []), (4, .iload_n 2, []), (5, .ifCond .eq 15, []), (20, .iload_n 1, []), (21, .ireturn, [])] : List zE), z_en zTB zNT vwCl zTF zDF zP ⟨"HeldCoatsModel", "bits", "(I)I"⟩ prog_14_method_10_code en := List.forall_mem_cons.mpr ⟨ze_s (by decide +kernel) rfl, List.forall_mem_cons.mpr ⟨ze_s (by decide +kernel) rfl, List.forall_mem_cons.mpr ⟨ze_s (by decide +kernel) rfl, List.forall_mem_cons.mpr ⟨ze_s (by decide +kernel) rfl, List.forall_mem_cons.mpr ⟨ze_s (by decide +kernel) rfl, List.forall_mem_cons.mpr ⟨ze_s (by decide +kernel) rfl, List.forall_mem_cons.mpr ⟨ze_s (by decide +kernel) rfl, List.forall_mem_cons.mpr ⟨ze_s (by decide +kernel) rfl, fun _ h => absurd h List.not_mem_nil⟩⟩⟩⟩⟩⟩⟩⟩
theorem zo_X12_bits : z_Mok zTB zNT vwCl zTF zDF zP zm_X12_bits := ⟨by decide +kernel, zo_X12_bits_0⟩
set_option maxRecDepth 20000 in
theorem zo_X11_frost_0 : ∀ en ∈ ([(0, .aload_n 0, []), (1, .getfield 19, [11, 1]), (4, .iload_n 1, []), (5, .invokevirtual 140, [1, 64, 3]), (8, .ifCond .eq 31, []), (39, .iconst (-1), []), (40, .ireturn, [])] : List zE), z_en zTB zNT vwCl zTF zDF zP ⟨"HeldCoats", "frost", "(II)I"⟩ prog_1_method_23_code en := List.forall_mem_cons.mpr ⟨ze_s (by decide +kernel) rfl, List.forall_mem_cons.mpr ⟨ze_get (by decide +kernel) zK_11 (by decide) zw_532, List.forall_mem_cons.mpr ⟨ze_s (by decide +kernel) rfl, List.forall_mem_cons.mpr ⟨ze_cv (by decide +kernel) (by rfl) zY_X3_hasMan (Or.inl zw_810) zw_811 zw_812 rfl, List.forall_mem_cons.mpr ⟨ze_s (by decide +kernel) rfl, List.forall_mem_cons.mpr ⟨ze_s (by decide +kernel) rfl, List.forall_mem_cons.mpr ⟨ze_s (by decide +kernel) rfl, fun _ h => absurd h List.not_mem_nil⟩⟩⟩⟩⟩⟩⟩
theorem zo_X11_frost : z_Mok zTB zNT vwCl zTF zDF zP zm_X11_frost := ⟨by decide +kernel, zo_X11_frost_0⟩
set_option maxRecDepth 20000 in
theorem zo_X12_frost_0 : ∀ en ∈ ([(0, .aload_n 0, []), (1, .iconst 0, []), (2, .putfield 1, [12, 0]), (5, .aload_n 0, []), (6, .iload_n 1, []), (7, .iload_n 2, []), (8, .invokevirtual 351, [1, 107, 12]), (11, .ifCond .eq 12, []), (23, .iconst (-1), []), (24, .ireturn, [])] : List zE), z_en zTB zNT vwCl zTF zDF zP ⟨"HeldCoatsModel", "frost", "(II)I"⟩ prog_14_method_84_code en := List.forall_mem_cons.mpr ⟨ze_s (by decide +kernel) rfl, List.forall_mem_cons.mpr ⟨ze_s (by decide +kernel) rfl, List.forall_mem_cons.mpr ⟨ze_put (by decide +kernel) zK_12 (by decide) zw_1399 (Or.inl rfl), List.forall_mem_cons.mpr ⟨ze_s (by decide +kernel) rfl, List.forall_mem_cons.mpr ⟨ze_s (by decide +kernel) rfl, List.forall_mem_cons.mpr ⟨ze_s (by decide +kernel) rfl, List.forall_mem_cons.mpr ⟨ze_cv (by decide +kernel) (by rfl) zY_X12_areTwo (Or.inl zw_1834) zw_1836 zs_89 rfl, List.forall_mem_cons.mpr ⟨ze_s (by decide +kernel) rfl, List.forall_mem_cons.mpr ⟨ze_s (by decide +kernel) rfl, List.forall_mem_cons.mpr ⟨ze_s (by decide +kernel) rfl, fun _ h => absurd h List.not_mem_nil⟩⟩⟩⟩⟩⟩⟩⟩⟩⟩
theorem zo_X12_frost : z_Mok zTB zNT vwCl zTF zDF zP zm_X12_frost := ⟨by decide +kernel, zo_X12_frost_0⟩
set_option maxRecDepth 20000 in
theorem zo_X12_areTwo_0 : ∀ en ∈ ([(0, .aload_n 0, []), (1, .iload_n 1, []), (2, .invokevirtual 270, [1, 66, 12]), (5, .ifCond .eq 20, []), (25, .iconst 0, []), (26, .ireturn, [])] : List zE), z_en zTB zNT vwCl zTF zDF zP ⟨"HeldCoatsModel", "areTwo", "(II)Z"⟩ prog_14_method_83_code en := List.forall_mem_cons.mpr ⟨ze_s (by decide +kernel) rfl, List.forall_mem_cons.mpr ⟨ze_s (by decide +kernel) rfl, List.forall_mem_cons.mpr ⟨ze_cv (by decide +kernel) (by rfl) zY_X12_isMan (Or.inl zw_1668) zw_1670 zs_65 rfl, List.forall_mem_cons.mpr ⟨ze_s (by decide +kernel) rfl, List.forall_mem_cons.mpr ⟨ze_s (by decide +kernel) rfl, List.forall_mem_cons.mpr ⟨ze_s (by decide +kernel) rfl, fun _ h => absurd h List.not_mem_nil⟩⟩⟩⟩⟩⟩
theorem zo_X12_areTwo : z_Mok zTB zNT vwCl zTF zDF zP zm_X12_areTwo := ⟨by decide +kernel, zo_X12_areTwo_0⟩
set_option maxRecDepth 20000 in
theorem zo_X11_frostAt_0 : ∀ en ∈ ([(0, .aload_n 0, []), (1, .getfield 19, [11, 1]), (4, .iload_n 1, []), (5, .invokevirtual 140, [1, 64, 3]), (8, .ifCond .eq 31, []), (39, .iconst (-1), []), (40, .ireturn, [])] : List zE), z_en zTB zNT vwCl zTF zDF zP ⟨"HeldCoats", "frostAt", "(II)I"⟩ prog_1_method_24_code en := List.forall_mem_cons.mpr ⟨ze_s (by decide +kernel) rfl, List.forall_mem_cons.mpr ⟨ze_get (by decide +kernel) zK_11 (by decide) zw_532, List.forall_mem_cons.mpr ⟨ze_s (by decide +kernel) rfl, List.forall_mem_cons.mpr ⟨ze_cv (by decide +kernel) (by rfl) zY_X3_hasMan (Or.inl zw_810) zw_811 zw_812 rfl, List.forall_mem_cons.mpr ⟨ze_s (by decide +kernel) rfl, List.forall_mem_cons.mpr ⟨ze_s (by decide +kernel) rfl, List.forall_mem_cons.mpr ⟨ze_s (by decide +kernel) rfl, fun _ h => absurd h List.not_mem_nil⟩⟩⟩⟩⟩⟩⟩
theorem zo_X11_frostAt : z_Mok zTB zNT vwCl zTF zDF zP zm_X11_frostAt := ⟨by decide +kernel, zo_X11_frostAt_0⟩
set_option maxRecDepth 20000 in
theorem zo_X12_frostAt_0 : ∀ en ∈ ([(0, .aload_n 0, []), (1, .iconst 0, []), (2, .putfield 1, [12, 0]), (5, .aload_n 0, []), (6, .iload_n 1, []), (7, .iload_n 2, []), (8, .invokevirtual 351, [1, 107, 12]), (11, .ifCond .eq 19, []), (30, .iconst (-1), []), (31, .ireturn, [])] : List zE), z_en zTB zNT vwCl zTF zDF zP ⟨"HeldCoatsModel", "frostAt", "(II)I"⟩ prog_14_method_85_code en := List.forall_mem_cons.mpr ⟨ze_s (by decide +kernel) rfl, List.forall_mem_cons.mpr ⟨ze_s (by decide +kernel) rfl, List.forall_mem_cons.mpr ⟨ze_put (by decide +kernel) zK_12 (by decide) zw_1399 (Or.inl rfl), List.forall_mem_cons.mpr ⟨ze_s (by decide +kernel) rfl, List.forall_mem_cons.mpr ⟨ze_s (by decide +kernel) rfl, List.forall_mem_cons.mpr ⟨ze_s (by decide +kernel) rfl, List.forall_mem_cons.mpr ⟨ze_cv (by decide +kernel) (by rfl) zY_X12_areTwo (Or.inl zw_1834) zw_1836 zs_89 rfl, List.forall_mem_cons.mpr ⟨ze_s (by decide +kernel) rfl, List.forall_mem_cons.mpr ⟨ze_s (by decide +kernel) rfl, List.forall_mem_cons.mpr ⟨ze_s (by decide +kernel) rfl, fun _ h => absurd h List.not_mem_nil⟩⟩⟩⟩⟩⟩⟩⟩⟩⟩
theorem zo_X12_frostAt : z_Mok zTB zNT vwCl zTF zDF zP zm_X12_frostAt := ⟨by decide +kernel, zo_X12_frostAt_0⟩
set_option maxRecDepth 20000 in
theorem zo_X11_word_0 : ∀ en ∈ ([(0, .iload_n 1, []), (1, .invokestatic 233, [1, 72]), (4, .ifCond .eq 14, []), (7, .aload_n 0, []), (8, .getfield 74, [11, 8]), (11, .iload_n 1, []), (12, .invokevirtual 282, [1, 112, 1]), (15, .goto 4, []), (18, .iconst (-1), []), (19, .ireturn, [])] : List zE), z_en zTB zNT vwCl zTF zDF zP ⟨"HeldCoats", "word", "(I)I"⟩ prog_1_method_25_code en := List.forall_mem_cons.mpr ⟨ze_s (by decide +kernel) rfl, List.forall_mem_cons.mpr ⟨ze_cs (by decide +kernel) (by rfl) zY_X11_isDays (Or.inl zw_850) zw_851, List.forall_mem_cons.mpr ⟨ze_s (by decide +kernel) rfl, List.forall_mem_cons.mpr ⟨ze_s (by decide +kernel) rfl, List.forall_mem_cons.mpr ⟨ze_get (by decide +kernel) zK_11 (by decide) zw_539, List.forall_mem_cons.mpr ⟨ze_s (by decide +kernel) rfl, List.forall_mem_cons.mpr ⟨ze_cv (by decide +kernel) (by rfl) zY_X1_daysRuledOtherwise (Or.inl zw_982) zw_983 zw_984 rfl, List.forall_mem_cons.mpr ⟨ze_s (by decide +kernel) rfl, List.forall_mem_cons.mpr ⟨ze_s (by decide +kernel) rfl, List.forall_mem_cons.mpr ⟨ze_s (by decide +kernel) rfl, fun _ h => absurd h List.not_mem_nil⟩⟩⟩⟩⟩⟩⟩⟩⟩⟩
theorem zo_X11_word : z_Mok zTB zNT vwCl zTF zDF zP zm_X11_word := ⟨by decide +kernel, zo_X11_word_0⟩
set_option maxRecDepth 20000 in
theorem zo_X12_word_0 : ∀ en ∈ ([(0, .aload_n 0, []), (1, .iconst 0, []), (2, .putfield 1, [12, 0]), (5, .iload_n 1, []), (6, .iconst 1, []), (7, .bipush 60, []), (9, .invokestatic 171, [1, 45]), (12, .ifCond .ne 5, []), (15, .iconst (-1), []), (16, .ireturn, []), (17, .aload_n 0, []), (18, .invokevirtual 357, [1, 114, 12]), (21, .iconst 0, []), (22, .istore_n 2, []), (23, .iconst 0, []), (24, .istore_n 3, []), (25, .iload_n 3, []), (26, .iload_n 1, []), (27, .if_icmp .ge 46, []), (30, .aload_n 0, []), (31, .getfield 33, [12, 6]), (34, .bipush 62, []), (36, .iaload, []), (37, .sipush 400, []), (40, .if_icmp .ge 33, []), (43, .iload_n 2, []), (44, .aload_n 0, []), (45, .invokevirtual 283, [1, 54, 12]), (48, .aload_n 0, []), (49, .iconst 1, [])] : List zE), z_en zTB zNT vwCl zTF zDF zP ⟨"HeldCoatsModel", "word", "(I)I"⟩ prog_14_method_86_code en := List.forall_mem_cons.mpr ⟨ze_s (by decide +kernel) rfl, List.forall_mem_cons.mpr ⟨ze_s (by decide +kernel) rfl, List.forall_mem_cons.mpr ⟨ze_put (by decide +kernel) zK_12 (by decide) zw_1399 (Or.inl rfl), List.forall_mem_cons.mpr ⟨ze_s (by decide +kernel) rfl, List.forall_mem_cons.mpr ⟨ze_s (by decide +kernel) rfl, List.forall_mem_cons.mpr ⟨ze_s (by decide +kernel) rfl, List.forall_mem_cons.mpr ⟨ze_cs (by decide +kernel) (by rfl) zY_X12_isIn (Or.inl zw_1602) zw_1603, List.forall_mem_cons.mpr ⟨ze_s (by decide +kernel) rfl, List.forall_mem_cons.mpr ⟨ze_s (by decide +kernel) rfl, List.forall_mem_cons.mpr ⟨ze_s (by decide +kernel) rfl, List.forall_mem_cons.mpr ⟨ze_s (by decide +kernel) rfl, List.forall_mem_cons.mpr ⟨ze_cv (by decide +kernel) (by rfl) zY_X12_tries (Or.inl zw_1850) zw_1852 zs_91 rfl, List.forall_mem_cons.mpr ⟨ze_s (by decide +kernel) rfl, List.forall_mem_cons.mpr ⟨ze_s (by decide +kernel) rfl, List.forall_mem_cons.mpr ⟨ze_s (by decide +kernel) rfl, List.forall_mem_cons.mpr ⟨ze_s (by decide +kernel) rfl, List.forall_mem_cons.mpr ⟨ze_s (by decide +kernel) rfl, List.forall_mem_cons.mpr ⟨ze_s (by decide +kernel) rfl, List.forall_mem_cons.mpr ⟨ze_s (by decide +kernel) rfl, List.forall_mem_cons.mpr ⟨ze_s (by decide +kernel) rfl, List.forall_mem_cons.mpr ⟨ze_get (by decide +kernel) zK_12 (by decide) zw_1405, List.forall_mem_cons.mpr ⟨ze_s (by decide +kernel) rfl, List.forall_mem_cons.mpr ⟨ze_s (by decide +kernel) rfl, List.forall_mem_cons.mpr ⟨ze_s (by decide +kernel) rfl, List.forall_mem_cons.mpr ⟨ze_s (by decide +kernel) rfl, List.forall_mem_cons.mpr ⟨ze_s (by decide +kernel) rfl, List.forall_mem_cons.mpr ⟨ze_s (by decide +kernel) rfl, List.forall_mem_cons.mpr ⟨ze_cv (by decide +kernel) (by rfl) zY_X12_ruler (Or.inl zw_1707) zw_1709 zs_72 rfl, List.forall_mem_cons.mpr ⟨ze_s (by decide +kernel) rfl, List.forall_mem_cons.mpr ⟨ze_s (by decide +kernel) rfl, fun _ h => absurd h List.not_mem_nil⟩⟩⟩⟩⟩⟩⟩⟩⟩⟩⟩⟩⟩⟩⟩⟩⟩⟩⟩⟩⟩⟩⟩⟩⟩⟩⟩⟩⟩⟩
set_option maxRecDepth 20000 in
theorem zo_X12_word_1 : ∀ en ∈ ([(50, .invokevirtual 260, [1, 55, 12]), (53, .if_icmp .eq 7, []), (60, .iconst 0, []), (61, .iadd, []), (62, .istore_n 2, []), (63, .aload_n 0, []), (64, .invokevirtual 298, [1, 84, 12]), (67, .iinc 3 1, []), (70, .goto (-45), []), (73, .aload_n 0, []), (74, .invokevirtual 360, [1, 115, 12]), (77, .iload_n 2, []), (78, .ireturn, [])] : List zE), z_en zTB zNT vwCl zTF zDF zP ⟨"HeldCoatsModel", "word", "(I)I"⟩ prog_14_method_86_code en := List.forall_mem_cons.mpr ⟨ze_cv (by decide +kernel) (by rfl) zY_X12_rulerBy (Or.inl zw_1711) zw_1713 zs_73 rfl, List.forall_mem_cons.mpr ⟨ze_s (by decide +kernel) rfl, List.forall_mem_cons.mpr ⟨ze_s (by decide +kernel) rfl, List.forall_mem_cons.mpr ⟨ze_s (by decide +kernel) rfl, List.forall_mem_cons.mpr ⟨ze_s (by decide +kernel) rfl, List.forall_mem_cons.mpr ⟨ze_s (by decide +kernel) rfl, List.forall_mem_cons.mpr ⟨ze_cv (by decide +kernel) (by rfl) zY_X12_day (Or.inl zw_1775) zw_1777 zs_84 rfl, List.forall_mem_cons.mpr ⟨ze_s (by decide +kernel) rfl, List.forall_mem_cons.mpr ⟨ze_s (by decide +kernel) rfl, List.forall_mem_cons.mpr ⟨ze_s (by decide +kernel) rfl, List.forall_mem_cons.mpr ⟨ze_cv (by decide +kernel) (by rfl) zY_X12_back (Or.inl zw_1854) zw_1856 zs_92 rfl, List.forall_mem_cons.mpr ⟨ze_s (by decide +kernel) rfl, List.forall_mem_cons.mpr ⟨ze_s (by decide +kernel) rfl, fun _ h => absurd h List.not_mem_nil⟩⟩⟩⟩⟩⟩⟩⟩⟩⟩⟩⟩⟩
theorem zo_X12_word : z_Mok zTB zNT vwCl zTF zDF zP zm_X12_word := ⟨by decide +kernel, List.forall_mem_append.mpr ⟨zo_X12_word_0, zo_X12_word_1⟩⟩
set_option maxRecDepth 20000 in
theorem zo_X1_daysRuledOtherwise_0 : ∀ en ∈ ([(0, .aload_n 0, []), (1, .invokevirtual 126, [1, 113, 1]), (4, .astore_n 2, []), (5, .aload_n 2, []), (6, .iload_n 1, []), (7, .invokevirtual 130, [1, 77, 9]), (10, .istore_n 3, []), (11, .iconst 0, []), (12, .istore 4, []), (14, .iconst 0, []), (15, .istore 5, []), (17, .iload 5, []), (19, .iload_n 3, []), (20, .if_icmp .ge 27, []), (23, .aload_n 2, []), (24, .invokevirtual 133, [1, 53, 9]), (27, .istore 6, []), (29, .aload_n 2, []), (30, .invokevirtual 136, [1, 78, 9]), (33, .iload 6, []), (35, .if_icmp .eq 6, []), (41, .iinc 5 1, []), (44, .goto (-27), []), (47, .iload 4, []), (49, .ireturn, [])] : List zE), z_en zTB zNT vwCl zTF zDF zP ⟨"HeldCoats$Counsel", "daysRuledOtherwise", "(I)I"⟩ prog_3_method_9_code en := List.forall_mem_cons.mpr ⟨ze_s (by decide +kernel) rfl, List.forall_mem_cons.mpr ⟨ze_cv (by decide +kernel) (by rfl) zY_X1_trialOfNow (Or.inl zw_986) zw_987 zw_988 rfl, List.forall_mem_cons.mpr ⟨ze_s (by decide +kernel) rfl, List.forall_mem_cons.mpr ⟨ze_s (by decide +kernel) rfl, List.forall_mem_cons.mpr ⟨ze_s (by decide +kernel) rfl, List.forall_mem_cons.mpr ⟨ze_cv (by decide +kernel) (by rfl) zY_X9_daysLeftOf (Or.inl zw_991) zw_858 zw_859 rfl, List.forall_mem_cons.mpr ⟨ze_s (by decide +kernel) rfl, List.forall_mem_cons.mpr ⟨ze_s (by decide +kernel) rfl, List.forall_mem_cons.mpr ⟨ze_s (by decide +kernel) rfl, List.forall_mem_cons.mpr ⟨ze_s (by decide +kernel) rfl, List.forall_mem_cons.mpr ⟨ze_s (by decide +kernel) rfl, List.forall_mem_cons.mpr ⟨ze_s (by decide +kernel) rfl, List.forall_mem_cons.mpr ⟨ze_s (by decide +kernel) rfl, List.forall_mem_cons.mpr ⟨ze_s (by decide +kernel) rfl, List.forall_mem_cons.mpr ⟨ze_s (by decide +kernel) rfl, List.forall_mem_cons.mpr ⟨ze_cv (by decide +kernel) (by rfl) zY_X9_rulerWithoutSummer (Or.inl zw_992) zw_755 zw_756 rfl, List.forall_mem_cons.mpr ⟨ze_s (by decide +kernel) rfl, List.forall_mem_cons.mpr ⟨ze_s (by decide +kernel) rfl, List.forall_mem_cons.mpr ⟨ze_cv (by decide +kernel) (by rfl) zY_X9_passDay (Or.inl zw_993) zw_863 zw_864 rfl, List.forall_mem_cons.mpr ⟨ze_s (by decide +kernel) rfl, List.forall_mem_cons.mpr ⟨ze_s (by decide +kernel) rfl, List.forall_mem_cons.mpr ⟨ze_s (by decide +kernel) rfl, List.forall_mem_cons.mpr ⟨ze_s (by decide +kernel) rfl, List.forall_mem_cons.mpr ⟨ze_s (by decide +kernel) rfl, List.forall_mem_cons.mpr ⟨ze_s (by decide +kernel) rfl, fun _ h => absurd h List.not_mem_nil⟩⟩⟩⟩⟩⟩⟩⟩⟩⟩⟩⟩⟩⟩⟩⟩⟩⟩⟩⟩⟩⟩⟩⟩⟩
theorem zo_X1_daysRuledOtherwise : z_Mok zTB zNT vwCl zTF zDF zP zm_X1_daysRuledOtherwise := ⟨by decide +kernel, zo_X1_daysRuledOtherwise_0⟩
set_option maxRecDepth 20000 in
theorem zo_X1_trialOfNow_0 : ∀ en ∈ ([(0, .aload_n 0, []), (1, .getfield 50, [1, 2]), (4, .aload_n 0, []), (5, .getfield 41, [1, 1]), (8, .invokevirtual 53, [1, 75, 9]), (11, .aload_n 0, []), (12, .getfield 50, [1, 2]), (15, .areturn, [])] : List zE), z_en zTB zNT vwCl zTF zDF zP ⟨"HeldCoats$Counsel", "trialOfNow", "()LHeldCoats$State;"⟩ prog_3_method_2_code en := List.forall_mem_cons.mpr ⟨ze_s (by decide +kernel) rfl, List.forall_mem_cons.mpr ⟨ze_get (by decide +kernel) zK_1 (by decide) zw_456, List.forall_mem_cons.mpr ⟨ze_s (by decide +kernel) rfl, List.forall_mem_cons.mpr ⟨ze_get (by decide +kernel) zK_1 (by decide) zw_455, List.forall_mem_cons.mpr ⟨ze_cv (by decide +kernel) (by rfl) zY_X9_copyFrom (Or.inl zw_990) zw_783 zw_784 rfl, List.forall_mem_cons.mpr ⟨ze_s (by decide +kernel) rfl, List.forall_mem_cons.mpr ⟨ze_get (by decide +kernel) zK_1 (by decide) zw_456, List.forall_mem_cons.mpr ⟨ze_s (by decide +kernel) rfl, fun _ h => absurd h List.not_mem_nil⟩⟩⟩⟩⟩⟩⟩⟩
theorem zo_X1_trialOfNow : z_Mok zTB zNT vwCl zTF zDF zP zm_X1_trialOfNow := ⟨by decide +kernel, zo_X1_trialOfNow_0⟩
set_option maxRecDepth 20000 in
theorem zo_X12_tries_0 : ∀ en ∈ ([(0, .iconst 0, []), (1, .istore_n 1, []), (2, .iload_n 1, []), (3, .bipush 56, []), (5, .if_icmp .ge 24, []), (8, .aload_n 0, []), (9, .getfield 53, [12, 22]), (12, .iload_n 1, []), (13, .aload_n 0, []), (14, .getfield 33, [12, 6]), (17, .bipush 62, []), (19, .iload_n 1, []), (20, .iadd, []), (21, .iaload, []), (22, .iastore, []), (23, .iinc 1 1, []), (26, .goto (-24), []), (29, .return_, [])] : List zE), z_en zTB zNT vwCl zTF zDF zP ⟨"HeldCoatsModel", "tries", "()V"⟩ prog_14_method_70_code en := List.forall_mem_cons.mpr ⟨ze_s (by decide +kernel) rfl, List.forall_mem_cons.mpr ⟨ze_s (by decide +kernel) rfl, List.forall_mem_cons.mpr ⟨ze_s (by decide +kernel) rfl, List.forall_mem_cons.mpr ⟨ze_s (by decide +kernel) rfl, List.forall_mem_cons.mpr ⟨ze_s (by decide +kernel) rfl, List.forall_mem_cons.mpr ⟨ze_s (by decide +kernel) rfl, List.forall_mem_cons.mpr ⟨ze_get (by decide +kernel) zK_12 (by decide) zw_1421, List.forall_mem_cons.mpr ⟨ze_s (by decide +kernel) rfl, List.forall_mem_cons.mpr ⟨ze_s (by decide +kernel) rfl, List.forall_mem_cons.mpr ⟨ze_get (by decide +kernel) zK_12 (by decide) zw_1405, List.forall_mem_cons.mpr ⟨ze_s (by decide +kernel) rfl, List.forall_mem_cons.mpr ⟨ze_s (by decide +kernel) rfl, List.forall_mem_cons.mpr ⟨ze_s (by decide +kernel) rfl, List.forall_mem_cons.mpr ⟨ze_s (by decide +kernel) rfl, List.forall_mem_cons.mpr ⟨ze_s (by decide +kernel) rfl, List.forall_mem_cons.mpr ⟨ze_s (by decide +kernel) rfl, List.forall_mem_cons.mpr ⟨ze_s (by decide +kernel) rfl, List.forall_mem_cons.mpr ⟨ze_s (by decide +kernel) rfl, fun _ h => absurd h List.not_mem_nil⟩⟩⟩⟩⟩⟩⟩⟩⟩⟩⟩⟩⟩⟩⟩⟩⟩⟩
theorem zo_X12_tries : z_Mok zTB zNT vwCl zTF zDF zP zm_X12_tries := ⟨by decide +kernel, zo_X12_tries_0⟩
set_option maxRecDepth 20000 in
theorem zo_X12_back_0 : ∀ en ∈ ([(0, .iconst 0, []), (1, .istore_n 1, []), (2, .iload_n 1, []), (3, .bipush 56, []), (5, .if_icmp .ge 24, []), (8, .aload_n 0, []), (9, .getfield 33, [12, 6]), (12, .bipush 62, []), (14, .iload_n 1, []), (15, .iadd, []), (16, .aload_n 0, []), (17, .getfield 53, [12, 22]), (20, .iload_n 1, []), (21, .iaload, []), (22, .iastore, []), (23, .iinc 1 1, []), (26, .goto (-24), []), (29, .return_, [])] : List zE), z_en zTB zNT vwCl zTF zDF zP ⟨"HeldCoatsModel", "back", "()V"⟩ prog_14_method_71_code en := List.forall_mem_cons.mpr ⟨ze_s (by decide +kernel) rfl, List.forall_mem_cons.mpr ⟨ze_s (by decide +kernel) rfl, List.forall_mem_cons.mpr ⟨ze_s (by decide +kernel) rfl, List.forall_mem_cons.mpr ⟨ze_s (by decide +kernel) rfl, List.forall_mem_cons.mpr ⟨ze_s (by decide +kernel) rfl, List.forall_mem_cons.mpr ⟨ze_s (by decide +kernel) rfl, List.forall_mem_cons.mpr ⟨ze_get (by decide +kernel) zK_12 (by decide) zw_1405, List.forall_mem_cons.mpr ⟨ze_s (by decide +kernel) rfl, List.forall_mem_cons.mpr ⟨ze_s (by decide +kernel) rfl, List.forall_mem_cons.mpr ⟨ze_s (by decide +kernel) rfl, List.forall_mem_cons.mpr ⟨ze_s (by decide +kernel) rfl, List.forall_mem_cons.mpr ⟨ze_get (by decide +kernel) zK_12 (by decide) zw_1421, List.forall_mem_cons.mpr ⟨ze_s (by decide +kernel) rfl, List.forall_mem_cons.mpr ⟨ze_s (by decide +kernel) rfl, List.forall_mem_cons.mpr ⟨ze_s (by decide +kernel) rfl, List.forall_mem_cons.mpr ⟨ze_s (by decide +kernel) rfl, List.forall_mem_cons.mpr ⟨ze_s (by decide +kernel) rfl, List.forall_mem_cons.mpr ⟨ze_s (by decide +kernel) rfl, fun _ h => absurd h List.not_mem_nil⟩⟩⟩⟩⟩⟩⟩⟩⟩⟩⟩⟩⟩⟩⟩⟩⟩⟩
theorem zo_X12_back : z_Mok zTB zNT vwCl zTF zDF zP zm_X12_back := ⟨by decide +kernel, zo_X12_back_0⟩
set_option maxRecDepth 20000 in
theorem zo_X11_bare_0 : ∀ en ∈ ([(0, .aload_n 0, []), (1, .getfield 74, [11, 8]), (4, .iconst (-1), []), (5, .invokevirtual 285, [1, 117, 1]), (8, .ireturn, [])] : List zE), z_en zTB zNT vwCl zTF zDF zP ⟨"HeldCoats", "bare", "()I"⟩ prog_1_method_26_code en := List.forall_mem_cons.mpr ⟨ze_s (by decide +kernel) rfl, List.forall_mem_cons.mpr ⟨ze_get (by decide +kernel) zK_11 (by decide) zw_539, List.forall_mem_cons.mpr ⟨ze_s (by decide +kernel) rfl, List.forall_mem_cons.mpr ⟨ze_cv (by decide +kernel) (by rfl) zY_X1_firstDayRuledBy (Or.inl zw_998) zw_999 zw_1000 rfl, List.forall_mem_cons.mpr ⟨ze_s (by decide +kernel) rfl, fun _ h => absurd h List.not_mem_nil⟩⟩⟩⟩⟩
theorem zo_X11_bare : z_Mok zTB zNT vwCl zTF zDF zP zm_X11_bare := ⟨by decide +kernel, zo_X11_bare_0⟩
set_option maxRecDepth 20000 in
theorem zo_X1_firstDayRuledBy_0 : ∀ en ∈ ([(0, .aload_n 0, []), (1, .invokevirtual 126, [1, 113, 1]), (4, .astore_n 2, []), (5, .aload_n 0, []), (6, .getfield 41, [1, 1]), (9, .getfield 68, [9, 1]), (12, .istore_n 3, []), (13, .iload_n 3, []), (14, .sipush 400, []), (17, .if_icmp .ge 34, []), (20, .iload_n 1, []), (21, .iconst (-1), []), (22, .if_icmp .eq 13, []), (35, .aload_n 2, []), (36, .invokevirtual 136, [1, 78, 9]), (39, .iload_n 1, []), (40, .if_icmp .ne 5, []), (43, .iload_n 3, []), (44, .ireturn, [])] : List zE), z_en zTB zNT vwCl zTF zDF zP ⟨"HeldCoats$Counsel", "firstDayRuledBy", "(I)I"⟩ prog_3_method_10_code en := List.forall_mem_cons.mpr ⟨ze_s (by decide +kernel) rfl, List.forall_mem_cons.mpr ⟨ze_cv (by decide +kernel) (by rfl) zY_X1_trialOfNow (Or.inl zw_986) zw_987 zw_988 rfl, List.forall_mem_cons.mpr ⟨ze_s (by decide +kernel) rfl, List.forall_mem_cons.mpr ⟨ze_s (by decide +kernel) rfl, List.forall_mem_cons.mpr ⟨ze_get (by decide +kernel) zK_1 (by decide) zw_455, List.forall_mem_cons.mpr ⟨ze_get (by decide +kernel) zK_9 (by decide) zw_302, List.forall_mem_cons.mpr ⟨ze_s (by decide +kernel) rfl, List.forall_mem_cons.mpr ⟨ze_s (by decide +kernel) rfl, List.forall_mem_cons.mpr ⟨ze_s (by decide +kernel) rfl, List.forall_mem_cons.mpr ⟨ze_s (by decide +kernel) rfl, List.forall_mem_cons.mpr ⟨ze_s (by decide +kernel) rfl, List.forall_mem_cons.mpr ⟨ze_s (by decide +kernel) rfl, List.forall_mem_cons.mpr ⟨ze_s (by decide +kernel) rfl, List.forall_mem_cons.mpr ⟨ze_s (by decide +kernel) rfl, List.forall_mem_cons.mpr ⟨ze_cv (by decide +kernel) (by rfl) zY_X9_passDay (Or.inl zw_993) zw_863 zw_864 rfl, List.forall_mem_cons.mpr ⟨ze_s (by decide +kernel) rfl, List.forall_mem_cons.mpr ⟨ze_s (by decide +kernel) rfl, List.forall_mem_cons.mpr ⟨ze_s (by decide +kernel) rfl, List.forall_mem_cons.mpr ⟨ze_s (by decide +kernel) rfl, fun _ h => absurd h List.not_mem_nil⟩⟩⟩⟩⟩⟩⟩⟩⟩⟩⟩⟩⟩⟩⟩⟩⟩⟩⟩
theorem zo_X1_firstDayRuledBy : z_Mok zTB zNT vwCl zTF zDF zP zm_X1_firstDayRuledBy := ⟨by decide +kernel, zo_X1_firstDayRuledBy_0⟩
set_option maxRecDepth 20000 in
theorem zo_X12_bare_0 : ∀ en ∈ ([(0, .aload_n 0, []), (1, .iconst 0, []), (2, .putfield 1, [12, 0]), (5, .aload_n 0, []), (6, .iconst (-1), []), (7, .invokevirtual 363, [1, 119, 12]), (10, .ireturn, [])] : List zE), z_en zTB zNT vwCl zTF zDF zP ⟨"HeldCoatsModel", "bare", "()I"⟩ prog_14_method_88_code en := List.forall_mem_cons.mpr ⟨ze_s (by decide +kernel) rfl, List.forall_mem_cons.mpr ⟨ze_s (by decide +kernel) rfl, List.forall_mem_cons.mpr ⟨ze_put (by decide +kernel) zK_12 (by decide) zw_1399 (Or.inl rfl), List.forall_mem_cons.mpr ⟨ze_s (by decide +kernel) rfl, List.forall_mem_cons.mpr ⟨ze_s (by decide +kernel) rfl, List.forall_mem_cons.mpr ⟨ze_cv (by decide +kernel) (by rfl) zY_X12_firstOf (Or.inl zw_1862) zw_1864 zs_93 rfl, List.forall_mem_cons.mpr ⟨ze_s (by decide +kernel) rfl, fun _ h => absurd h List.not_mem_nil⟩⟩⟩⟩⟩⟩⟩
theorem zo_X12_bare : z_Mok zTB zNT vwCl zTF zDF zP zm_X12_bare := ⟨by decide +kernel, zo_X12_bare_0⟩
set_option maxRecDepth 20000 in
theorem zo_X12_firstOf_0 : ∀ en ∈ ([(0, .aload_n 0, []), (1, .invokevirtual 357, [1, 114, 12]), (4, .iconst (-1), []), (5, .istore_n 2, []), (6, .iload_n 2, []), (7, .ifCond .ge 39, []), (10, .aload_n 0, []), (11, .getfield 33, [12, 6]), (14, .bipush 62, []), (16, .iaload, []), (17, .sipush 400, []), (20, .if_icmp .ge 26, []), (23, .aload_n 0, []), (24, .invokevirtual 283, [1, 54, 12]), (27, .iload_n 1, []), (28, .if_icmp .ne 11, []), (31, .aload_n 0, []), (32, .getfield 33, [12, 6]), (35, .bipush 62, []), (37, .iaload, []), (38, .istore_n 2, []), (39, .aload_n 0, []), (40, .invokevirtual 298, [1, 84, 12]), (43, .goto (-37), []), (46, .aload_n 0, []), (47, .invokevirtual 360, [1, 115, 12]), (50, .iload_n 2, []), (51, .ireturn, [])] : List zE), z_en zTB zNT vwCl zTF zDF zP ⟨"HeldCoatsModel", "firstOf", "(I)I"⟩ prog_14_method_87_code en := List.forall_mem_cons.mpr ⟨ze_s (by decide +kernel) rfl, List.forall_mem_cons.mpr ⟨ze_cv (by decide +kernel) (by rfl) zY_X12_tries (Or.inl zw_1850) zw_1852 zs_91 rfl, List.forall_mem_cons.mpr ⟨ze_s (by decide +kernel) rfl, List.forall_mem_cons.mpr ⟨ze_s (by decide +kernel) rfl, List.forall_mem_cons.mpr ⟨ze_s (by decide +kernel) rfl, List.forall_mem_cons.mpr ⟨ze_s (by decide +kernel) rfl, List.forall_mem_cons.mpr ⟨ze_s (by decide +kernel) rfl, List.forall_mem_cons.mpr ⟨ze_get (by decide +kernel) zK_12 (by decide) zw_1405, List.forall_mem_cons.mpr ⟨ze_s (by decide +kernel) rfl, List.forall_mem_cons.mpr ⟨ze_s (by decide +kernel) rfl, List.forall_mem_cons.mpr ⟨ze_s (by decide +kernel) rfl, List.forall_mem_cons.mpr ⟨ze_s (by decide +kernel) rfl, List.forall_mem_cons.mpr ⟨ze_s (by decide +kernel) rfl, List.forall_mem_cons.mpr ⟨ze_cv (by decide +kernel) (by rfl) zY_X12_ruler (Or.inl zw_1707) zw_1709 zs_72 rfl, List.forall_mem_cons.mpr ⟨ze_s (by decide +kernel) rfl, List.forall_mem_cons.mpr ⟨ze_s (by decide +kernel) rfl, List.forall_mem_cons.mpr ⟨ze_s (by decide +kernel) rfl, List.forall_mem_cons.mpr ⟨ze_get (by decide +kernel) zK_12 (by decide) zw_1405, List.forall_mem_cons.mpr ⟨ze_s (by decide +kernel) rfl, List.forall_mem_cons.mpr ⟨ze_s (by decide +kernel) rfl, List.forall_mem_cons.mpr ⟨ze_s (by decide +kernel) rfl, List.forall_mem_cons.mpr ⟨ze_s (by decide +kernel) rfl, List.forall_mem_cons.mpr ⟨ze_cv (by decide +kernel) (by rfl) zY_X12_day (Or.inl zw_1775) zw_1777 zs_84 rfl, List.forall_mem_cons.mpr ⟨ze_s (by decide +kernel) rfl, List.forall_mem_cons.mpr ⟨ze_s (by decide +kernel) rfl, List.forall_mem_cons.mpr ⟨ze_cv (by decide +kernel) (by rfl) zY_X12_back (Or.inl zw_1854) zw_1856 zs_92 rfl, List.forall_mem_cons.mpr ⟨ze_s (by decide +kernel) rfl, List.forall_mem_cons.mpr ⟨ze_s (by decide +kernel) rfl, fun _ h => absurd h List.not_mem_nil⟩⟩⟩⟩⟩⟩⟩⟩⟩⟩⟩⟩⟩⟩⟩⟩⟩⟩⟩⟩⟩⟩⟩⟩⟩⟩⟩⟩
theorem zo_X12_firstOf : z_Mok zTB zNT vwCl zTF zDF zP zm_X12_firstOf := ⟨by decide +kernel, zo_X12_firstOf_0⟩
set_option maxRecDepth 20000 in
theorem zo_X11_rules_0 : ∀ en ∈ ([(0, .aload_n 0, []), (1, .getfield 19, [11, 1]), (4, .iload_n 1, []), (5, .invokevirtual 140, [1, 64, 3]), (8, .ifCond .eq 14, []), (22, .iconst (-1), []), (23, .ireturn, [])] : List zE), z_en zTB zNT vwCl zTF zDF zP ⟨"HeldCoats", "rules", "(I)I"⟩ prog_1_method_27_code en := List.forall_mem_cons.mpr ⟨ze_s (by decide +kernel) rfl, List.forall_mem_cons.mpr ⟨ze_get (by decide +kernel) zK_11 (by decide) zw_532, List.forall_mem_cons.mpr ⟨ze_s (by decide +kernel) rfl, List.forall_mem_cons.mpr ⟨ze_cv (by decide +kernel) (by rfl) zY_X3_hasMan (Or.inl zw_810) zw_811 zw_812 rfl, List.forall_mem_cons.mpr ⟨ze_s (by decide +kernel) rfl, List.forall_mem_cons.mpr ⟨ze_s (by decide +kernel) rfl, List.forall_mem_cons.mpr ⟨ze_s (by decide +kernel) rfl, fun _ h => absurd h List.not_mem_nil⟩⟩⟩⟩⟩⟩⟩
theorem zo_X11_rules : z_Mok zTB zNT vwCl zTF zDF zP zm_X11_rules := ⟨by decide +kernel, zo_X11_rules_0⟩
set_option maxRecDepth 20000 in
theorem zo_X12_rules_0 : ∀ en ∈ ([(0, .aload_n 0, []), (1, .iconst 0, []), (2, .putfield 1, [12, 0]), (5, .aload_n 0, []), (6, .iload_n 1, []), (7, .invokevirtual 270, [1, 66, 12]), (10, .ifCond .eq 11, []), (21, .iconst (-1), []), (22, .ireturn, [])] : List zE), z_en zTB zNT vwCl zTF zDF zP ⟨"HeldCoatsModel", "rules", "(I)I"⟩ prog_14_method_89_code en := List.forall_mem_cons.mpr ⟨ze_s (by decide +kernel) rfl, List.forall_mem_cons.mpr ⟨ze_s (by decide +kernel) rfl, List.forall_mem_cons.mpr ⟨ze_put (by decide +kernel) zK_12 (by decide) zw_1399 (Or.inl rfl), List.forall_mem_cons.mpr ⟨ze_s (by decide +kernel) rfl, List.forall_mem_cons.mpr ⟨ze_s (by decide +kernel) rfl, List.forall_mem_cons.mpr ⟨ze_cv (by decide +kernel) (by rfl) zY_X12_isMan (Or.inl zw_1668) zw_1670 zs_65 rfl, List.forall_mem_cons.mpr ⟨ze_s (by decide +kernel) rfl, List.forall_mem_cons.mpr ⟨ze_s (by decide +kernel) rfl, List.forall_mem_cons.mpr ⟨ze_s (by decide +kernel) rfl, fun _ h => absurd h List.not_mem_nil⟩⟩⟩⟩⟩⟩⟩⟩⟩
theorem zo_X12_rules : z_Mok zTB zNT vwCl zTF zDF zP zm_X12_rules := ⟨by decide +kernel, zo_X12_rules_0⟩
set_option maxRecDepth 20000 in
theorem zo_X11_harm_0 : ∀ en ∈ ([(0, .aload_n 0, []), (1, .getfield 19, [11, 1]), (4, .iload_n 1, []), (5, .invokevirtual 140, [1, 64, 3]), (8, .ifCond .eq 22, []), (30, .iconst (-1), []), (31, .ireturn, [])] : List zE), z_en zTB zNT vwCl zTF zDF zP ⟨"HeldCoats", "harm", "(II)I"⟩ prog_1_method_28_code en := List.forall_mem_cons.mpr ⟨ze_s (by decide +kernel) rfl, List.forall_mem_cons.mpr ⟨ze_get (by decide +kernel) zK_11 (by decide) zw_532, List.forall_mem_cons.mpr ⟨ze_s (by decide +kernel) rfl, List.forall_mem_cons.mpr ⟨ze_cv (by decide +kernel) (by rfl) zY_X3_hasMan (Or.inl zw_810) zw_811 zw_812 rfl, List.forall_mem_cons.mpr ⟨ze_s (by decide +kernel) rfl, List.forall_mem_cons.mpr ⟨ze_s (by decide +kernel) rfl, List.forall_mem_cons.mpr ⟨ze_s (by decide +kernel) rfl, fun _ h => absurd h List.not_mem_nil⟩⟩⟩⟩⟩⟩⟩
theorem zo_X11_harm : z_Mok zTB zNT vwCl zTF zDF zP zm_X11_harm := ⟨by decide +kernel, zo_X11_harm_0⟩
set_option maxRecDepth 20000 in
theorem zo_X12_harm_0 : ∀ en ∈ ([(0, .aload_n 0, []), (1, .iconst 0, []), (2, .putfield 1, [12, 0]), (5, .aload_n 0, []), (6, .iload_n 1, []), (7, .invokevirtual 270, [1, 66, 12]), (10, .ifCond .eq 13, []), (23, .iconst (-1), []), (24, .ireturn, [])] : List zE), z_en zTB zNT vwCl zTF zDF zP ⟨"HeldCoatsModel", "harm", "(II)I"⟩ prog_14_method_90_code en := List.forall_mem_cons.mpr ⟨ze_s (by decide +kernel) rfl, List.forall_mem_cons.mpr ⟨ze_s (by decide +kernel) rfl, List.forall_mem_cons.mpr ⟨ze_put (by decide +kernel) zK_12 (by decide) zw_1399 (Or.inl rfl), List.forall_mem_cons.mpr ⟨ze_s (by decide +kernel) rfl, List.forall_mem_cons.mpr ⟨ze_s (by decide +kernel) rfl, List.forall_mem_cons.mpr ⟨ze_cv (by decide +kernel) (by rfl) zY_X12_isMan (Or.inl zw_1668) zw_1670 zs_65 rfl, List.forall_mem_cons.mpr ⟨ze_s (by decide +kernel) rfl, List.forall_mem_cons.mpr ⟨ze_s (by decide +kernel) rfl, List.forall_mem_cons.mpr ⟨ze_s (by decide +kernel) rfl, fun _ h => absurd h List.not_mem_nil⟩⟩⟩⟩⟩⟩⟩⟩⟩
theorem zo_X12_harm : z_Mok zTB zNT vwCl zTF zDF zP zm_X12_harm := ⟨by decide +kernel, zo_X12_harm_0⟩
set_option maxRecDepth 20000 in
theorem zo_X11_hooks_0 : ∀ en ∈ ([(0, .aload_n 0, []), (1, .getfield 74, [11, 8]), (4, .aload_n 0, []), (5, .getfield 10, [11, 0]), (8, .invokevirtual 291, [1, 125, 1]), (11, .istore_n 1, []), (12, .aload_n 0, []), (13, .getfield 10, [11, 0]), (16, .iconst 0, []), (17, .putfield 85, [10, 2]), (20, .iload_n 1, []), (21, .ireturn, [])] : List zE), z_en zTB zNT vwCl zTF zDF zP ⟨"HeldCoats", "hooks", "()I"⟩ prog_1_method_29_code en := List.forall_mem_cons.mpr ⟨ze_s (by decide +kernel) rfl, List.forall_mem_cons.mpr ⟨ze_get (by decide +kernel) zK_11 (by decide) zw_539, List.forall_mem_cons.mpr ⟨ze_s (by decide +kernel) rfl, List.forall_mem_cons.mpr ⟨ze_get (by decide +kernel) zK_11 (by decide) zw_531, List.forall_mem_cons.mpr ⟨ze_cv (by decide +kernel) (by rfl) zY_X1_waysToHaveLain (Or.inl zw_1018) zw_1019 zw_1020 rfl, List.forall_mem_cons.mpr ⟨ze_s (by decide +kernel) rfl, List.forall_mem_cons.mpr ⟨ze_s (by decide +kernel) rfl, List.forall_mem_cons.mpr ⟨ze_get (by decide +kernel) zK_11 (by decide) zw_531, List.forall_mem_cons.mpr ⟨ze_s (by decide +kernel) rfl, List.forall_mem_cons.mpr ⟨ze_put (by decide +kernel) zK_10 (by decide) zw_93 (Or.inl rfl), List.forall_mem_cons.mpr ⟨ze_s (by decide +kernel) rfl, List.forall_mem_cons.mpr ⟨ze_s (by decide +kernel) rfl, fun _ h => absurd h List.not_mem_nil⟩⟩⟩⟩⟩⟩⟩⟩⟩⟩⟩⟩
theorem zo_X11_hooks : z_Mok zTB zNT vwCl zTF zDF zP zm_X11_hooks := ⟨by decide +kernel, zo_X11_hooks_0⟩
set_option maxRecDepth 20000 in
theorem zo_X1_waysToHaveLain_0 : ∀ en ∈ ([(0, .aload_n 0, []), (1, .getfield 37, [1, 0]), (4, .getfield 91, [3, 0]), (7, .ifCond .eq 25, []), (32, .iconst (-1), []), (33, .ireturn, [])] : List zE), z_en zTB zNT vwCl zTF zDF zP ⟨"HeldCoats$Counsel", "waysToHaveLain", "(LHeldCoats$Tape;)I"⟩ prog_3_method_12_code en := List.forall_mem_cons.mpr ⟨ze_s (by decide +kernel) rfl, List.forall_mem_cons.mpr ⟨ze_get (by decide +kernel) zK_1 (by decide) zw_454, List.forall_mem_cons.mpr ⟨ze_get (by decide +kernel) zK_3 (by decide) zw_175, List.forall_mem_cons.mpr ⟨ze_s (by decide +kernel) rfl, List.forall_mem_cons.mpr ⟨ze_s (by decide +kernel) rfl, List.forall_mem_cons.mpr ⟨ze_s (by decide +kernel) rfl, fun _ h => absurd h List.not_mem_nil⟩⟩⟩⟩⟩⟩
theorem zo_X1_waysToHaveLain : z_Mok zTB zNT vwCl zTF zDF zP zm_X1_waysToHaveLain := ⟨by decide +kernel, zo_X1_waysToHaveLain_0⟩
set_option maxRecDepth 20000 in
theorem zo_X12_hooks_0 : ∀ en ∈ ([(0, .aload_n 0, []), (1, .iconst 0, []), (2, .putfield 1, [12, 0]), (5, .aload_n 0, []), (6, .sipush 940, []), (9, .invokevirtual 219, [1, 36, 12]), (12, .aload_n 0, []), (13, .getfield 18, [12, 3]), (16, .ifCond .eq 16, []), (32, .iconst (-1), []), (33, .ireturn, [])] : List zE), z_en zTB zNT vwCl zTF zDF zP ⟨"HeldCoatsModel", "hooks", "()I"⟩ prog_14_method_91_code en := List.forall_mem_cons.mpr ⟨ze_s (by decide +kernel) rfl, List.forall_mem_cons.mpr ⟨ze_s (by decide +kernel) rfl, List.forall_mem_cons.mpr ⟨ze_put (by decide +kernel) zK_12 (by decide) zw_1399 (Or.inl rfl), List.forall_mem_cons.mpr ⟨ze_s (by decide +kernel) rfl, List.forall_mem_cons.mpr ⟨ze_s (by decide +kernel) rfl, List.forall_mem_cons.mpr ⟨ze_cv (by decide +kernel) (by rfl) zY_X12_taken (Or.inl zw_1552) zw_1554 zs_42 rfl, List.forall_mem_cons.mpr ⟨ze_s (by decide +kernel) rfl, List.forall_mem_cons.mpr ⟨ze_get (by decide +kernel) zK_12 (by decide) zw_1402, List.forall_mem_cons.mpr ⟨ze_s (by decide +kernel) rfl, List.forall_mem_cons.mpr ⟨ze_s (by decide +kernel) rfl, List.forall_mem_cons.mpr ⟨ze_s (by decide +kernel) rfl, fun _ h => absurd h List.not_mem_nil⟩⟩⟩⟩⟩⟩⟩⟩⟩⟩⟩
theorem zo_X12_hooks : z_Mok zTB zNT vwCl zTF zDF zP zm_X12_hooks := ⟨by decide +kernel, zo_X12_hooks_0⟩
set_option maxRecDepth 20000 in
theorem zo_X11_surely_0 : ∀ en ∈ ([(0, .aload_n 0, []), (1, .getfield 74, [11, 8]), (4, .getfield 295, [1, 8]), (7, .ireturn, [])] : List zE), z_en zTB zNT vwCl zTF zDF zP ⟨"HeldCoats", "surely", "()I"⟩ prog_1_method_30_code en := List.forall_mem_cons.mpr ⟨ze_s (by decide +kernel) rfl, List.forall_mem_cons.mpr ⟨ze_get (by decide +kernel) zK_11 (by decide) zw_539, List.forall_mem_cons.mpr ⟨ze_get (by decide +kernel) zK_1 (by decide) zw_465, List.forall_mem_cons.mpr ⟨ze_s (by decide +kernel) rfl, fun _ h => absurd h List.not_mem_nil⟩⟩⟩⟩
theorem zo_X11_surely : z_Mok zTB zNT vwCl zTF zDF zP zm_X11_surely := ⟨by decide +kernel, zo_X11_surely_0⟩
set_option maxRecDepth 20000 in
theorem zo_X12_surely_0 : ∀ en ∈ ([(0, .aload_n 0, []), (1, .iconst 0, []), (2, .putfield 1, [12, 0]), (5, .aload_n 0, []), (6, .getfield 369, [12, 31]), (9, .ifCond .eq 10, []), (19, .iconst (-1), []), (20, .ireturn, [])] : List zE), z_en zTB zNT vwCl zTF zDF zP ⟨"HeldCoatsModel", "surely", "()I"⟩ prog_14_method_92_code en := List.forall_mem_cons.mpr ⟨ze_s (by decide +kernel) rfl, List.forall_mem_cons.mpr ⟨ze_s (by decide +kernel) rfl, List.forall_mem_cons.mpr ⟨ze_put (by decide +kernel) zK_12 (by decide) zw_1399 (Or.inl rfl), List.forall_mem_cons.mpr ⟨ze_s (by decide +kernel) rfl, List.forall_mem_cons.mpr ⟨ze_get (by decide +kernel) zK_12 (by decide) zw_1430, List.forall_mem_cons.mpr ⟨ze_s (by decide +kernel) rfl, List.forall_mem_cons.mpr ⟨ze_s (by decide +kernel) rfl, List.forall_mem_cons.mpr ⟨ze_s (by decide +kernel) rfl, fun _ h => absurd h List.not_mem_nil⟩⟩⟩⟩⟩⟩⟩⟩
theorem zo_X12_surely : z_Mok zTB zNT vwCl zTF zDF zP zm_X12_surely := ⟨by decide +kernel, zo_X12_surely_0⟩
set_option maxRecDepth 20000 in
theorem zo_X11_never_0 : ∀ en ∈ ([(0, .aload_n 0, []), (1, .getfield 74, [11, 8]), (4, .getfield 298, [1, 9]), (7, .ireturn, [])] : List zE), z_en zTB zNT vwCl zTF zDF zP ⟨"HeldCoats", "never", "()I"⟩ prog_1_method_31_code en := List.forall_mem_cons.mpr ⟨ze_s (by decide +kernel) rfl, List.forall_mem_cons.mpr ⟨ze_get (by decide +kernel) zK_11 (by decide) zw_539, List.forall_mem_cons.mpr ⟨ze_get (by decide +kernel) zK_1 (by decide) zw_467, List.forall_mem_cons.mpr ⟨ze_s (by decide +kernel) rfl, fun _ h => absurd h List.not_mem_nil⟩⟩⟩⟩
theorem zo_X11_never : z_Mok zTB zNT vwCl zTF zDF zP zm_X11_never := ⟨by decide +kernel, zo_X11_never_0⟩
set_option maxRecDepth 20000 in
theorem zo_X12_never_0 : ∀ en ∈ ([(0, .aload_n 0, []), (1, .iconst 0, []), (2, .putfield 1, [12, 0]), (5, .aload_n 0, []), (6, .getfield 369, [12, 31]), (9, .ifCond .eq 10, []), (19, .iconst (-1), []), (20, .ireturn, [])] : List zE), z_en zTB zNT vwCl zTF zDF zP ⟨"HeldCoatsModel", "never", "()I"⟩ prog_14_method_93_code en := List.forall_mem_cons.mpr ⟨ze_s (by decide +kernel) rfl, List.forall_mem_cons.mpr ⟨ze_s (by decide +kernel) rfl, List.forall_mem_cons.mpr ⟨ze_put (by decide +kernel) zK_12 (by decide) zw_1399 (Or.inl rfl), List.forall_mem_cons.mpr ⟨ze_s (by decide +kernel) rfl, List.forall_mem_cons.mpr ⟨ze_get (by decide +kernel) zK_12 (by decide) zw_1430, List.forall_mem_cons.mpr ⟨ze_s (by decide +kernel) rfl, List.forall_mem_cons.mpr ⟨ze_s (by decide +kernel) rfl, List.forall_mem_cons.mpr ⟨ze_s (by decide +kernel) rfl, fun _ h => absurd h List.not_mem_nil⟩⟩⟩⟩⟩⟩⟩⟩
theorem zo_X12_never : z_Mok zTB zNT vwCl zTF zDF zP zm_X12_never := ⟨by decide +kernel, zo_X12_never_0⟩
set_option maxRecDepth 20000 in
theorem zo_X11_rounds_0 : ∀ en ∈ ([(0, .aload_n 0, []), (1, .getfield 74, [11, 8]), (4, .invokevirtual 301, [1, 132, 1]), (7, .ireturn, [])] : List zE), z_en zTB zNT vwCl zTF zDF zP ⟨"HeldCoats", "rounds", "()I"⟩ prog_1_method_32_code en := List.forall_mem_cons.mpr ⟨ze_s (by decide +kernel) rfl, List.forall_mem_cons.mpr ⟨ze_get (by decide +kernel) zK_11 (by decide) zw_539, List.forall_mem_cons.mpr ⟨ze_cv (by decide +kernel) (by rfl) zY_X1_roundsTillRest (Or.inl zw_1047) zw_1048 zw_1049 rfl, List.forall_mem_cons.mpr ⟨ze_s (by decide +kernel) rfl, fun _ h => absurd h List.not_mem_nil⟩⟩⟩⟩
theorem zo_X11_rounds : z_Mok zTB zNT vwCl zTF zDF zP zm_X11_rounds := ⟨by decide +kernel, zo_X11_rounds_0⟩
set_option maxRecDepth 20000 in
theorem zo_X1_roundsTillRest_0 : ∀ en ∈ ([(0, .iconst 5, []), (1, .istore_n 1, []), (2, .iconst 0, []), (3, .istore_n 2, []), (4, .iconst 0, []), (5, .istore_n 3, []), (6, .iload_n 2, []), (7, .bipush 60, []), (9, .if_icmp .ge 72, []), (12, .iload_n 3, []), (13, .ifCond .ne 68, []), (16, .iload_n 1, []), (17, .istore 4, []), (19, .aload_n 0, []), (20, .iload_n 1, []), (21, .invokevirtual 176, [1, 133, 1]), (24, .istore 5, []), (26, .iload 5, []), (28, .aload_n 0, []), (29, .getfield 41, [1, 1]), (32, .getfield 111, [9, 4]), (35, .if_icmp .le 9, []), (44, .iload 5, []), (46, .aload_n 0, []), (47, .getfield 41, [1, 1]), (50, .getfield 111, [9, 4]), (53, .if_icmp .ge 10, []), (63, .iload_n 1, []), (64, .iload 4, []), (66, .if_icmp .ne 7, [])] : List zE), z_en zTB zNT vwCl zTF zDF zP ⟨"HeldCoats$Counsel", "roundsTillRest", "()I"⟩ prog_3_method_15_code en := List.forall_mem_cons.mpr ⟨ze_s (by decide +kernel) rfl, List.forall_mem_cons.mpr ⟨ze_s (by decide +kernel) rfl, List.forall_mem_cons.mpr ⟨ze_s (by decide +kernel) rfl, List.forall_mem_cons.mpr ⟨ze_s (by decide +kernel) rfl, List.forall_mem_cons.mpr ⟨ze_s (by decide +kernel) rfl, List.forall_mem_cons.mpr ⟨ze_s (by decide +kernel) rfl, List.forall_mem_cons.mpr ⟨ze_s (by decide +kernel) rfl, List.forall_mem_cons.mpr ⟨ze_s (by decide +kernel) rfl, List.forall_mem_cons.mpr ⟨ze_s (by decide +kernel) rfl, List.forall_mem_cons.mpr ⟨ze_s (by decide +kernel) rfl, List.forall_mem_cons.mpr ⟨ze_s (by decide +kernel) rfl, List.forall_mem_cons.mpr ⟨ze_s (by decide +kernel) rfl, List.forall_mem_cons.mpr ⟨ze_s (by decide +kernel) rfl, List.forall_mem_cons.mpr ⟨ze_s (by decide +kernel) rfl, List.forall_mem_cons.mpr ⟨ze_s (by decide +kernel) rfl, List.forall_mem_cons.mpr ⟨ze_cv (by decide +kernel) (by rfl) zY_X1_menWanting (Or.inl zw_1051) zw_1053 zs_22 rfl, List.forall_mem_cons.mpr ⟨ze_s (by decide +kernel) rfl, List.forall_mem_cons.mpr ⟨ze_s (by decide +kernel) rfl, List.forall_mem_cons.mpr ⟨ze_s (by decide +kernel) rfl, List.forall_mem_cons.mpr ⟨ze_get (by decide +kernel) zK_1 (by decide) zw_455, List.forall_mem_cons.mpr ⟨ze_get (by decide +kernel) zK_9 (by decide) zw_311, List.forall_mem_cons.mpr ⟨ze_s (by decide +kernel) rfl, List.forall_mem_cons.mpr ⟨ze_s (by decide +kernel) rfl, List.forall_mem_cons.mpr ⟨ze_s (by decide +kernel) rfl, List.forall_mem_cons.mpr ⟨ze_get (by decide +kernel) zK_1 (by decide) zw_455, List.forall_mem_cons.mpr ⟨ze_get (by decide +kernel) zK_9 (by decide) zw_311, List.forall_mem_cons.mpr ⟨ze_s (by decide +kernel) rfl, List.forall_mem_cons.mpr ⟨ze_s (by decide +kernel) rfl, List.forall_mem_cons.mpr ⟨ze_s (by decide +kernel) rfl, List.forall_mem_cons.mpr ⟨ze_s (by decide +kernel) rfl, fun _ h => absurd h List.not_mem_nil⟩⟩⟩⟩⟩⟩⟩⟩⟩⟩⟩⟩⟩⟩⟩⟩⟩⟩⟩⟩⟩⟩⟩⟩⟩⟩⟩⟩⟩⟩
set_option maxRecDepth 20000 in
theorem zo_X1_roundsTillRest_1 : ∀ en ∈ ([(69, .iconst 1, []), (70, .goto 4, []), (74, .istore_n 3, []), (75, .iinc 2 1, []), (78, .goto (-72), []), (81, .aload_n 0, []), (82, .iload_n 1, []), (83, .putfield 34, [1, 10]), (86, .iload_n 2, []), (87, .ireturn, [])] : List zE), z_en zTB zNT vwCl zTF zDF zP ⟨"HeldCoats$Counsel", "roundsTillRest", "()I"⟩ prog_3_method_15_code en := List.forall_mem_cons.mpr ⟨ze_s (by decide +kernel) rfl, List.forall_mem_cons.mpr ⟨ze_s (by decide +kernel) rfl, List.forall_mem_cons.mpr ⟨ze_s (by decide +kernel) rfl, List.forall_mem_cons.mpr ⟨ze_s (by decide +kernel) rfl, List.forall_mem_cons.mpr ⟨ze_s (by decide +kernel) rfl, List.forall_mem_cons.mpr ⟨ze_s (by decide +kernel) rfl, List.forall_mem_cons.mpr ⟨ze_s (by decide +kernel) rfl, List.forall_mem_cons.mpr ⟨ze_put (by decide +kernel) zK_1 (by decide) zw_468 (Or.inl rfl), List.forall_mem_cons.mpr ⟨ze_s (by decide +kernel) rfl, List.forall_mem_cons.mpr ⟨ze_s (by decide +kernel) rfl, fun _ h => absurd h List.not_mem_nil⟩⟩⟩⟩⟩⟩⟩⟩⟩⟩
theorem zo_X1_roundsTillRest : z_Mok zTB zNT vwCl zTF zDF zP zm_X1_roundsTillRest := ⟨by decide +kernel, List.forall_mem_append.mpr ⟨zo_X1_roundsTillRest_0, zo_X1_roundsTillRest_1⟩⟩
set_option maxRecDepth 20000 in
theorem zo_X1_menWanting_0 : ∀ en ∈ ([(0, .iconst 0, []), (1, .istore_n 2, []), (2, .iconst 0, []), (3, .istore_n 3, []), (4, .iload_n 3, []), (5, .aload_n 0, []), (6, .getfield 37, [1, 0]), (9, .getfield 148, [3, 1]), (12, .if_icmp .ge 27, []), (39, .iload_n 2, []), (40, .ireturn, [])] : List zE), z_en zTB zNT vwCl zTF zDF zP ⟨"HeldCoats$Counsel", "menWanting", "(I)I"⟩ prog_3_method_16_code en := List.forall_mem_cons.mpr ⟨ze_s (by decide +kernel) rfl, List.forall_mem_cons.mpr ⟨ze_s (by decide +kernel) rfl, List.forall_mem_cons.mpr ⟨ze_s (by decide +kernel) rfl, List.forall_mem_cons.mpr ⟨ze_s (by decide +kernel) rfl, List.forall_mem_cons.mpr ⟨ze_s (by decide +kernel) rfl, List.forall_mem_cons.mpr ⟨ze_s (by decide +kernel) rfl, List.forall_mem_cons.mpr ⟨ze_get (by decide +kernel) zK_1 (by decide) zw_454, List.forall_mem_cons.mpr ⟨ze_get (by decide +kernel) zK_3 (by decide) zw_182, List.forall_mem_cons.mpr ⟨ze_s (by decide +kernel) rfl, List.forall_mem_cons.mpr ⟨ze_s (by decide +kernel) rfl, List.forall_mem_cons.mpr ⟨ze_s (by decide +kernel) rfl, fun _ h => absurd h List.not_mem_nil⟩⟩⟩⟩⟩⟩⟩⟩⟩⟩⟩
theorem zo_X1_menWanting : z_Mok zTB zNT vwCl zTF zDF zP zm_X1_menWanting := ⟨by decide +kernel, zo_X1_menWanting_0⟩
set_option maxRecDepth 20000 in
theorem zo_X12_rounds_0 : ∀ en ∈ ([(0, .aload_n 0, []), (1, .iconst 0, []), (2, .putfield 1, [12, 0]), (5, .aload_n 0, []), (6, .iconst 5, []), (7, .putfield 378, [12, 33]), (10, .aload_n 0, []), (11, .iconst 1, []), (12, .putfield 381, [12, 34]), (15, .iconst 0, []), (16, .istore_n 1, []), (17, .iconst 1, []), (18, .istore_n 2, []), (19, .iload_n 2, []), (20, .ifCond .eq 126, []), (23, .iload_n 1, []), (24, .bipush 60, []), (26, .if_icmp .ge 120, []), (29, .iinc 1 1, []), (32, .aload_n 0, []), (33, .getfield 378, [12, 33]), (36, .istore_n 3, []), (37, .iconst 0, []), (38, .istore 4, []), (40, .iconst 0, []), (41, .istore 5, []), (43, .iload 5, []), (45, .aload_n 0, []), (46, .getfield 33, [12, 6]), (49, .iconst 1, [])] : List zE), z_en zTB zNT vwCl zTF zDF zP ⟨"HeldCoatsModel", "rounds", "()I"⟩ prog_14_method_94_code en := List.forall_mem_cons.mpr ⟨ze_s (by decide +kernel) rfl, List.forall_mem_cons.mpr ⟨ze_s (by decide +kernel) rfl, List.forall_mem_cons.mpr ⟨ze_put (by decide +kernel) zK_12 (by decide) zw_1399 (Or.inl rfl), List.forall_mem_cons.mpr ⟨ze_s (by decide +kernel) rfl, List.forall_mem_cons.mpr ⟨ze_s (by decide +kernel) rfl, List.forall_mem_cons.mpr ⟨ze_put (by decide +kernel) zK_12 (by decide) zw_1432 (Or.inl rfl), List.forall_mem_cons.mpr ⟨ze_s (by decide +kernel) rfl, List.forall_mem_cons.mpr ⟨ze_s (by decide +kernel) rfl, List.forall_mem_cons.mpr ⟨ze_put (by decide +kernel) zK_12 (by decide) zw_1433 (Or.inl rfl), List.forall_mem_cons.mpr ⟨ze_s (by decide +kernel) rfl, List.forall_mem_cons.mpr ⟨ze_s (by decide +kernel) rfl, List.forall_mem_cons.mpr ⟨ze_s (by decide +kernel) rfl, List.forall_mem_cons.mpr ⟨ze_s (by decide +kernel) rfl, List.forall_mem_cons.mpr ⟨ze_s (by decide +kernel) rfl, List.forall_mem_cons.mpr ⟨ze_s (by decide +kernel) rfl, List.forall_mem_cons.mpr ⟨ze_s (by decide +kernel) rfl, List.forall_mem_cons.mpr ⟨ze_s (by decide +kernel) rfl, List.forall_mem_cons.mpr ⟨ze_s (by decide +kernel) rfl, List.forall_mem_cons.mpr ⟨ze_s (by decide +kernel) rfl, List.forall_mem_cons.mpr ⟨ze_s (by decide +kernel) rfl, List.forall_mem_cons.mpr ⟨ze_get (by decide +kernel) zK_12 (by decide) zw_1432, List.forall_mem_cons.mpr ⟨ze_s (by decide +kernel) rfl, List.forall_mem_cons.mpr ⟨ze_s (by decide +kernel) rfl, List.forall_mem_cons.mpr ⟨ze_s (by decide +kernel) rfl, List.forall_mem_cons.mpr ⟨ze_s (by decide +kernel) rfl, List.forall_mem_cons.mpr ⟨ze_s (by decide +kernel) rfl, List.forall_mem_cons.mpr ⟨ze_s (by decide +kernel) rfl, List.forall_mem_cons.mpr ⟨ze_s (by decide +kernel) rfl, List.forall_mem_cons.mpr ⟨ze_get (by decide +kernel) zK_12 (by decide) zw_1405, List.forall_mem_cons.mpr ⟨ze_s (by decide +kernel) rfl, fun _ h => absurd h List.not_mem_nil⟩⟩⟩⟩⟩⟩⟩⟩⟩⟩⟩⟩⟩⟩⟩⟩⟩⟩⟩⟩⟩⟩⟩⟩⟩⟩⟩⟩⟩⟩
set_option maxRecDepth 20000 in
theorem zo_X12_rounds_1 : ∀ en ∈ ([(50, .iaload, []), (51, .if_icmp .ge 36, []), (87, .iload 4, []), (89, .aload_n 0, []), (90, .getfield 33, [12, 6]), (93, .bipush 117, []), (95, .iaload, []), (96, .if_icmp .le 10, []), (106, .iload 4, []), (108, .aload_n 0, []), (109, .getfield 33, [12, 6]), (112, .bipush 117, []), (114, .iaload, []), (115, .if_icmp .ge 14, []), (129, .aload_n 0, []), (130, .getfield 378, [12, 33]), (133, .iload_n 3, []), (134, .if_icmp .eq 7, []), (141, .iconst 0, []), (142, .istore_n 2, []), (143, .goto (-124), []), (146, .iload_n 1, []), (147, .ireturn, [])] : List zE), z_en zTB zNT vwCl zTF zDF zP ⟨"HeldCoatsModel", "rounds", "()I"⟩ prog_14_method_94_code en := List.forall_mem_cons.mpr ⟨ze_s (by decide +kernel) rfl, List.forall_mem_cons.mpr ⟨ze_s (by decide +kernel) rfl, List.forall_mem_cons.mpr ⟨ze_s (by decide +kernel) rfl, List.forall_mem_cons.mpr ⟨ze_s (by decide +kernel) rfl, List.forall_mem_cons.mpr ⟨ze_get (by decide +kernel) zK_12 (by decide) zw_1405, List.forall_mem_cons.mpr ⟨ze_s (by decide +kernel) rfl, List.forall_mem_cons.mpr ⟨ze_s (by decide +kernel) rfl, List.forall_mem_cons.mpr ⟨ze_s (by decide +kernel) rfl, List.forall_mem_cons.mpr ⟨ze_s (by decide +kernel) rfl, List.forall_mem_cons.mpr ⟨ze_s (by decide +kernel) rfl, List.forall_mem_cons.mpr ⟨ze_get (by decide +kernel) zK_12 (by decide) zw_1405, List.forall_mem_cons.mpr ⟨ze_s (by decide +kernel) rfl, List.forall_mem_cons.mpr ⟨ze_s (by decide +kernel) rfl, List.forall_mem_cons.mpr ⟨ze_s (by decide +kernel) rfl, List.forall_mem_cons.mpr ⟨ze_s (by decide +kernel) rfl, List.forall_mem_cons.mpr ⟨ze_get (by decide +kernel) zK_12 (by decide) zw_1432, List.forall_mem_cons.mpr ⟨ze_s (by decide +kernel) rfl, List.forall_mem_cons.mpr ⟨ze_s (by decide +kernel) rfl, List.forall_mem_cons.mpr ⟨ze_s (by decide +kernel) rfl, List.forall_mem_cons.mpr ⟨ze_s (by decide +kernel) rfl, List.forall_mem_cons.mpr ⟨ze_s (by decide +kernel) rfl, List.forall_mem_cons.mpr ⟨ze_s (by decide +kernel) rfl, List.forall_mem_cons.mpr ⟨ze_s (by decide +kernel) rfl, fun _ h => absurd h List.not_mem_nil⟩⟩⟩⟩⟩⟩⟩⟩⟩⟩⟩⟩⟩⟩⟩⟩⟩⟩⟩⟩⟩⟩⟩
theorem zo_X12_rounds : z_Mok zTB zNT vwCl zTF zDF zP zm_X12_rounds := ⟨by decide +kernel, List.forall_mem_append.mpr ⟨zo_X12_rounds_0, zo_X12_rounds_1⟩⟩
set_option maxRecDepth 20000 in
theorem zo_X11_price_0 : ∀ en ∈ ([(0, .aload_n 0, []), (1, .getfield 74, [11, 8]), (4, .getfield 304, [1, 10]), (7, .ireturn, [])] : List zE), z_en zTB zNT vwCl zTF zDF zP ⟨"HeldCoats", "price", "()I"⟩ prog_1_method_33_code en := List.forall_mem_cons.mpr ⟨ze_s (by decide +kernel) rfl, List.forall_mem_cons.mpr ⟨ze_get (by decide +kernel) zK_11 (by decide) zw_539, List.forall_mem_cons.mpr ⟨ze_get (by decide +kernel) zK_1 (by decide) zw_469, List.forall_mem_cons.mpr ⟨ze_s (by decide +kernel) rfl, fun _ h => absurd h List.not_mem_nil⟩⟩⟩⟩
theorem zo_X11_price : z_Mok zTB zNT vwCl zTF zDF zP zm_X11_price := ⟨by decide +kernel, zo_X11_price_0⟩
set_option maxRecDepth 20000 in
theorem zo_X12_price_0 : ∀ en ∈ ([(0, .aload_n 0, []), (1, .iconst 0, []), (2, .putfield 1, [12, 0]), (5, .aload_n 0, []), (6, .getfield 381, [12, 34]), (9, .ifCond .eq 10, []), (19, .iconst (-1), []), (20, .ireturn, [])] : List zE), z_en zTB zNT vwCl zTF zDF zP ⟨"HeldCoatsModel", "price", "()I"⟩ prog_14_method_95_code en := List.forall_mem_cons.mpr ⟨ze_s (by decide +kernel) rfl, List.forall_mem_cons.mpr ⟨ze_s (by decide +kernel) rfl, List.forall_mem_cons.mpr ⟨ze_put (by decide +kernel) zK_12 (by decide) zw_1399 (Or.inl rfl), List.forall_mem_cons.mpr ⟨ze_s (by decide +kernel) rfl, List.forall_mem_cons.mpr ⟨ze_get (by decide +kernel) zK_12 (by decide) zw_1433, List.forall_mem_cons.mpr ⟨ze_s (by decide +kernel) rfl, List.forall_mem_cons.mpr ⟨ze_s (by decide +kernel) rfl, List.forall_mem_cons.mpr ⟨ze_s (by decide +kernel) rfl, fun _ h => absurd h List.not_mem_nil⟩⟩⟩⟩⟩⟩⟩⟩
theorem zo_X12_price : z_Mok zTB zNT vwCl zTF zDF zP zm_X12_price := ⟨by decide +kernel, zo_X12_price_0⟩
set_option maxRecDepth 20000 in
theorem zo_X11_drawn_0 : ∀ en ∈ ([(0, .iload_n 1, []), (1, .invokestatic 233, [1, 72]), (4, .ifCond .eq 13, []), (7, .aload_n 0, []), (8, .getfield 19, [11, 1]), (11, .getfield 307, [3, 2]), (14, .ifCond .ne 5, []), (17, .iconst (-1), []), (18, .ireturn, [])] : List zE), z_en zTB zNT vwCl zTF zDF zP ⟨"HeldCoats", "drawn", "(II)I"⟩ prog_1_method_34_code en := List.forall_mem_cons.mpr ⟨ze_s (by decide +kernel) rfl, List.forall_mem_cons.mpr ⟨ze_cs (by decide +kernel) (by rfl) zY_X11_isDays (Or.inl zw_850) zw_851, List.forall_mem_cons.mpr ⟨ze_s (by decide +kernel) rfl, List.forall_mem_cons.mpr ⟨ze_s (by decide +kernel) rfl, List.forall_mem_cons.mpr ⟨ze_get (by decide +kernel) zK_11 (by decide) zw_532, List.forall_mem_cons.mpr ⟨ze_get (by decide +kernel) zK_3 (by decide) zw_188, List.forall_mem_cons.mpr ⟨ze_s (by decide +kernel) rfl, List.forall_mem_cons.mpr ⟨ze_s (by decide +kernel) rfl, List.forall_mem_cons.mpr ⟨ze_s (by decide +kernel) rfl, fun _ h => absurd h List.not_mem_nil⟩⟩⟩⟩⟩⟩⟩⟩⟩
theorem zo_X11_drawn : z_Mok zTB zNT vwCl zTF zDF zP zm_X11_drawn := ⟨by decide +kernel, zo_X11_drawn_0⟩
set_option maxRecDepth 20000 in
theorem zo_X12_drawn_0 : ∀ en ∈ ([(0, .aload_n 0, []), (1, .iconst 0, []), (2, .putfield 1, [12, 0]), (5, .iload_n 1, []), (6, .iconst 1, []), (7, .bipush 60, []), (9, .invokestatic 171, [1, 45]), (12, .ifCond .eq 12, []), (15, .aload_n 0, []), (16, .getfield 33, [12, 6]), (19, .iconst 2, []), (20, .iaload, []), (21, .ifCond .ne 5, []), (24, .iconst (-1), []), (25, .ireturn, [])] : List zE), z_en zTB zNT vwCl zTF zDF zP ⟨"HeldCoatsModel", "drawn", "(II)I"⟩ prog_14_method_99_code en := List.forall_mem_cons.mpr ⟨ze_s (by decide +kernel) rfl, List.forall_mem_cons.mpr ⟨ze_s (by decide +kernel) rfl, List.forall_mem_cons.mpr ⟨ze_put (by decide +kernel) zK_12 (by decide) zw_1399 (Or.inl rfl), List.forall_mem_cons.mpr ⟨ze_s (by decide +kernel) rfl, List.forall_mem_cons.mpr ⟨ze_s (by decide +kernel) rfl, List.forall_mem_cons.mpr ⟨ze_s (by decide +kernel) rfl, List.forall_mem_cons.mpr ⟨ze_cs (by decide +kernel) (by rfl) zY_X12_isIn (Or.inl zw_1602) zw_1603, List.forall_mem_cons.mpr ⟨ze_s (by decide +kernel) rfl, List.forall_mem_cons.mpr ⟨ze_s (by decide +kernel) rfl, List.forall_mem_cons.mpr ⟨ze_get (by decide +kernel) zK_12 (by decide) zw_1405, List.forall_mem_cons.mpr ⟨ze_s (by decide +kernel) rfl, List.forall_mem_cons.mpr ⟨ze_s (by decide +kernel) rfl, List.forall_mem_cons.mpr ⟨ze_s (by decide +kernel) rfl, List.forall_mem_cons.mpr ⟨ze_s (by decide +kernel) rfl, List.forall_mem_cons.mpr ⟨ze_s (by decide +kernel) rfl, fun _ h => absurd h List.not_mem_nil⟩⟩⟩⟩⟩⟩⟩⟩⟩⟩⟩⟩⟩⟩⟩
theorem zo_X12_drawn : z_Mok zTB zNT vwCl zTF zDF zP zm_X12_drawn := ⟨by decide +kernel, zo_X12_drawn_0⟩
set_option maxRecDepth 20000 in
theorem zo_X11_odds_0 : ∀ en ∈ ([(0, .aload_n 0, []), (1, .getfield 19, [11, 1]), (4, .iload_n 1, []), (5, .invokevirtual 140, [1, 64, 3]), (8, .ifCond .eq 24, []), (32, .iconst (-1), []), (33, .ireturn, [])] : List zE), z_en zTB zNT vwCl zTF zDF zP ⟨"HeldCoats", "odds", "(III)I"⟩ prog_1_method_35_code en := List.forall_mem_cons.mpr ⟨ze_s (by decide +kernel) rfl, List.forall_mem_cons.mpr ⟨ze_get (by decide +kernel) zK_11 (by decide) zw_532, List.forall_mem_cons.mpr ⟨ze_s (by decide +kernel) rfl, List.forall_mem_cons.mpr ⟨ze_cv (by decide +kernel) (by rfl) zY_X3_hasMan (Or.inl zw_810) zw_811 zw_812 rfl, List.forall_mem_cons.mpr ⟨ze_s (by decide +kernel) rfl, List.forall_mem_cons.mpr ⟨ze_s (by decide +kernel) rfl, List.forall_mem_cons.mpr ⟨ze_s (by decide +kernel) rfl, fun _ h => absurd h List.not_mem_nil⟩⟩⟩⟩⟩⟩⟩
theorem zo_X11_odds : z_Mok zTB zNT vwCl zTF zDF zP zm_X11_odds := ⟨by decide +kernel, zo_X11_odds_0⟩
set_option maxRecDepth 20000 in
theorem zo_X12_odds_0 : ∀ en ∈ ([(0, .aload_n 0, []), (1, .iconst 0, []), (2, .putfield 1, [12, 0]), (5, .aload_n 0, []), (6, .iload_n 1, []), (7, .invokevirtual 270, [1, 66, 12]), (10, .ifCond .eq 22, []), (32, .iconst (-1), []), (33, .ireturn, [])] : List zE), z_en zTB zNT vwCl zTF zDF zP ⟨"HeldCoatsModel", "odds", "(III)I"⟩ prog_14_method_100_code en := List.forall_mem_cons.mpr ⟨ze_s (by decide +kernel) rfl, List.forall_mem_cons.mpr ⟨ze_s (by decide +kernel) rfl, List.forall_mem_cons.mpr ⟨ze_put (by decide +kernel) zK_12 (by decide) zw_1399 (Or.inl rfl), List.forall_mem_cons.mpr ⟨ze_s (by decide +kernel) rfl, List.forall_mem_cons.mpr ⟨ze_s (by decide +kernel) rfl, List.forall_mem_cons.mpr ⟨ze_cv (by decide +kernel) (by rfl) zY_X12_isMan (Or.inl zw_1668) zw_1670 zs_65 rfl, List.forall_mem_cons.mpr ⟨ze_s (by decide +kernel) rfl, List.forall_mem_cons.mpr ⟨ze_s (by decide +kernel) rfl, List.forall_mem_cons.mpr ⟨ze_s (by decide +kernel) rfl, fun _ h => absurd h List.not_mem_nil⟩⟩⟩⟩⟩⟩⟩⟩⟩
theorem zo_X12_odds : z_Mok zTB zNT vwCl zTF zDF zP zm_X12_odds := ⟨by decide +kernel, zo_X12_odds_0⟩
set_option maxRecDepth 20000 in
theorem zo_X11_book_0 : ∀ en ∈ ([(0, .iload_n 1, []), (1, .ifCond .eq 12, []), (4, .iload_n 1, []), (5, .iconst 1, []), (6, .if_icmp .eq 7, []), (9, .sipush (-1000), []), (12, .ireturn, []), (13, .aload_n 0, []), (14, .getfield 65, [11, 7]), (17, .aload_n 0, []), (18, .getfield 10, [11, 0]), (21, .aload_n 0, []), (22, .getfield 19, [11, 1]), (25, .getfield 317, [3, 15]), (28, .invokevirtual 321, [1, 143, 0]), (31, .istore_n 2, []), (32, .aload_n 0, []), (33, .invokevirtual 97, [1, 28, 11]), (36, .iload_n 2, []), (37, .ifCond .ne 14, []), (51, .iload_n 1, []), (52, .ifCond .ne 18, []), (55, .aload_n 0, []), (56, .getfield 65, [11, 7]), (59, .aload_n 0, []), (60, .getfield 74, [11, 8]), (63, .invokevirtual 324, [1, 113, 1]), (66, .invokevirtual 328, [1, 144, 0]), (69, .ireturn, []), (70, .aload_n 0, [])] : List zE), z_en zTB zNT vwCl zTF zDF zP ⟨"HeldCoats", "book", "(I)I"⟩ prog_1_method_36_code en := List.forall_mem_cons.mpr ⟨ze_s (by decide +kernel) rfl, List.forall_mem_cons.mpr ⟨ze_s (by decide +kernel) rfl, List.forall_mem_cons.mpr ⟨ze_s (by decide +kernel) rfl, List.forall_mem_cons.mpr ⟨ze_s (by decide +kernel) rfl, List.forall_mem_cons.mpr ⟨ze_s (by decide +kernel) rfl, List.forall_mem_cons.mpr ⟨ze_s (by decide +kernel) rfl, List.forall_mem_cons.mpr ⟨ze_s (by decide +kernel) rfl, List.forall_mem_cons.mpr ⟨ze_s (by decide +kernel) rfl, List.forall_mem_cons.mpr ⟨ze_get (by decide +kernel) zK_11 (by decide) zw_538, List.forall_mem_cons.mpr ⟨ze_s (by decide +kernel) rfl, List.forall_mem_cons.mpr ⟨ze_get (by decide +kernel) zK_11 (by decide) zw_531, List.forall_mem_cons.mpr ⟨ze_s (by decide +kernel) rfl, List.forall_mem_cons.mpr ⟨ze_get (by decide +kernel) zK_11 (by decide) zw_532, List.forall_mem_cons.mpr ⟨ze_get (by decide +kernel) zK_3 (by decide) zw_236, List.forall_mem_cons.mpr ⟨ze_cv (by decide +kernel) (by rfl) zY_X0_readText (Or.inl zw_1105) zw_1106 zw_1107 rfl, List.forall_mem_cons.mpr ⟨ze_s (by decide +kernel) rfl, List.forall_mem_cons.mpr ⟨ze_s (by decide +kernel) rfl, List.forall_mem_cons.mpr ⟨ze_cv (by decide +kernel) (by rfl) zY_X11_closeTape (Or.inl zw_680) zw_682 zs_11 rfl, List.forall_mem_cons.mpr ⟨ze_s (by decide +kernel) rfl, List.forall_mem_cons.mpr ⟨ze_s (by decide +kernel) rfl, List.forall_mem_cons.mpr ⟨ze_s (by decide +kernel) rfl, List.forall_mem_cons.mpr ⟨ze_s (by decide +kernel) rfl, List.forall_mem_cons.mpr ⟨ze_s (by decide +kernel) rfl, List.forall_mem_cons.mpr ⟨ze_get (by decide +kernel) zK_11 (by decide) zw_538, List.forall_mem_cons.mpr ⟨ze_s (by decide +kernel) rfl, List.forall_mem_cons.mpr ⟨ze_get (by decide +kernel) zK_11 (by decide) zw_539, List.forall_mem_cons.mpr ⟨ze_cv (by decide +kernel) (by rfl) zY_X1_trialOfNow (Or.inl zw_1137) zw_987 zw_988 rfl, List.forall_mem_cons.mpr ⟨ze_cv (by decide +kernel) (by rfl) zY_X0_judge (Or.inl zw_1138) zw_1139 zw_1140 rfl, List.forall_mem_cons.mpr ⟨ze_s (by decide +kernel) rfl, List.forall_mem_cons.mpr ⟨ze_s (by decide +kernel) rfl, fun _ h => absurd h List.not_mem_nil⟩⟩⟩⟩⟩⟩⟩⟩⟩⟩⟩⟩⟩⟩⟩⟩⟩⟩⟩⟩⟩⟩⟩⟩⟩⟩⟩⟩⟩⟩
set_option maxRecDepth 20000 in
theorem zo_X11_book_1 : ∀ en ∈ ([(71, .getfield 44, [11, 4]), (74, .aload_n 0, []), (75, .getfield 37, [11, 3]), (78, .invokevirtual 213, [1, 74, 6]), (81, .aload_n 0, []), (82, .getfield 44, [11, 4]), (85, .invokevirtual 332, [1, 81, 6]), (88, .aload_n 0, []), (89, .getfield 65, [11, 7]), (92, .aload_n 0, []), (93, .getfield 37, [11, 3]), (96, .invokevirtual 328, [1, 144, 0]), (99, .ireturn, [])] : List zE), z_en zTB zNT vwCl zTF zDF zP ⟨"HeldCoats", "book", "(I)I"⟩ prog_1_method_36_code en := List.forall_mem_cons.mpr ⟨ze_get (by decide +kernel) zK_11 (by decide) zw_535, List.forall_mem_cons.mpr ⟨ze_s (by decide +kernel) rfl, List.forall_mem_cons.mpr ⟨ze_get (by decide +kernel) zK_11 (by decide) zw_534, List.forall_mem_cons.mpr ⟨ze_cv (by decide +kernel) (by rfl) zY_X6_mark (Or.inl zw_778) zw_779 zw_780 rfl, List.forall_mem_cons.mpr ⟨ze_s (by decide +kernel) rfl, List.forall_mem_cons.mpr ⟨ze_get (by decide +kernel) zK_11 (by decide) zw_535, List.forall_mem_cons.mpr ⟨ze_cv (by decide +kernel) (by rfl) zY_X6_hold (Or.inl zw_799) zw_800 zw_801 rfl, List.forall_mem_cons.mpr ⟨ze_s (by decide +kernel) rfl, List.forall_mem_cons.mpr ⟨ze_get (by decide +kernel) zK_11 (by decide) zw_538, List.forall_mem_cons.mpr ⟨ze_s (by decide +kernel) rfl, List.forall_mem_cons.mpr ⟨ze_get (by decide +kernel) zK_11 (by decide) zw_534, List.forall_mem_cons.mpr ⟨ze_cv (by decide +kernel) (by rfl) zY_X0_judge (Or.inl zw_1138) zw_1139 zw_1140 rfl, List.forall_mem_cons.mpr ⟨ze_s (by decide +kernel) rfl, fun _ h => absurd h List.not_mem_nil⟩⟩⟩⟩⟩⟩⟩⟩⟩⟩⟩⟩⟩
theorem zo_X11_book : z_Mok zTB zNT vwCl zTF zDF zP zm_X11_book := ⟨by decide +kernel, List.forall_mem_append.mpr ⟨zo_X11_book_0, zo_X11_book_1⟩⟩
set_option maxRecDepth 20000 in
theorem zo_X12_book_0 : ∀ en ∈ ([(0, .aload_n 0, []), (1, .iconst 0, []), (2, .putfield 1, [12, 0]), (5, .iload_n 1, []), (6, .iconst 0, []), (7, .iconst 1, []), (8, .invokestatic 171, [1, 45]), (11, .ifCond .ne 7, []), (14, .sipush (-1000), []), (17, .ireturn, []), (18, .aload_n 0, []), (19, .sipush 400, []), (22, .invokevirtual 219, [1, 36, 12]), (25, .aload_n 0, []), (26, .iconst 0, []), (27, .putfield 156, [12, 15]), (30, .aload_n 0, []), (31, .iconst 0, []), (32, .putfield 397, [12, 36]), (35, .aload_n 0, []), (36, .invokevirtual 168, [1, 37, 12]), (39, .aload_n 0, []), (40, .getfield 139, [12, 11]), (43, .ifCond .eq 40, []), (83, .aload_n 0, []), (84, .invokevirtual 357, [1, 114, 12]), (87, .iconst 0, []), (88, .istore_n 2, []), (89, .iload_n 2, []), (90, .iconst 4, [])] : List zE), z_en zTB zNT vwCl zTF zDF zP ⟨"HeldCoatsModel", "book", "(I)I"⟩ prog_14_method_103_code en := List.forall_mem_cons.mpr ⟨ze_s (by decide +kernel) rfl, List.forall_mem_cons.mpr ⟨ze_s (by decide +kernel) rfl, List.forall_mem_cons.mpr ⟨ze_put (by decide +kernel) zK_12 (by decide) zw_1399 (Or.inl rfl), List.forall_mem_cons.mpr ⟨ze_s (by decide +kernel) rfl, List.forall_mem_cons.mpr ⟨ze_s (by decide +kernel) rfl, List.forall_mem_cons.mpr ⟨ze_s (by decide +kernel) rfl, List.forall_mem_cons.mpr ⟨ze_cs (by decide +kernel) (by rfl) zY_X12_isIn (Or.inl zw_1602) zw_1603, List.forall_mem_cons.mpr ⟨ze_s (by decide +kernel) rfl, List.forall_mem_cons.mpr ⟨ze_s (by decide +kernel) rfl, List.forall_mem_cons.mpr ⟨ze_s (by decide +kernel) rfl, List.forall_mem_cons.mpr ⟨ze_s (by decide +kernel) rfl, List.forall_mem_cons.mpr ⟨ze_s (by decide +kernel) rfl, List.forall_mem_cons.mpr ⟨ze_cv (by decide +kernel) (by rfl) zY_X12_taken (Or.inl zw_1552) zw_1554 zs_42 rfl, List.forall_mem_cons.mpr ⟨ze_s (by decide +kernel) rfl, List.forall_mem_cons.mpr ⟨ze_s (by decide +kernel) rfl, List.forall_mem_cons.mpr ⟨ze_put (by decide +kernel) zK_12 (by decide) zw_1414 (Or.inl rfl), List.forall_mem_cons.mpr ⟨ze_s (by decide +kernel) rfl, List.forall_mem_cons.mpr ⟨ze_s (by decide +kernel) rfl, List.forall_mem_cons.mpr ⟨ze_put (by decide +kernel) zK_12 (by decide) zw_1435 (Or.inl rfl), List.forall_mem_cons.mpr ⟨ze_s (by decide +kernel) rfl, List.forall_mem_cons.mpr ⟨ze_cv (by decide +kernel) (by rfl) zY_X12_next (Or.inl zw_1556) zw_1558 zs_43 rfl, List.forall_mem_cons.mpr ⟨ze_s (by decide +kernel) rfl, List.forall_mem_cons.mpr ⟨ze_get (by decide +kernel) zK_12 (by decide) zw_1410, List.forall_mem_cons.mpr ⟨ze_s (by decide +kernel) rfl, List.forall_mem_cons.mpr ⟨ze_s (by decide +kernel) rfl, List.forall_mem_cons.mpr ⟨ze_cv (by decide +kernel) (by rfl) zY_X12_tries (Or.inl zw_1850) zw_1852 zs_91 rfl, List.forall_mem_cons.mpr ⟨ze_s (by decide +kernel) rfl, List.forall_mem_cons.mpr ⟨ze_s (by decide +kernel) rfl, List.forall_mem_cons.mpr ⟨ze_s (by decide +kernel) rfl, List.forall_mem_cons.mpr ⟨ze_s (by decide +kernel) rfl, fun _ h => absurd h List.not_mem_nil⟩⟩⟩⟩⟩⟩⟩⟩⟩⟩⟩⟩⟩⟩⟩⟩⟩⟩⟩⟩⟩⟩⟩⟩⟩⟩⟩⟩⟩⟩
set_option maxRecDepth 20000 in
theorem zo_X12_book_1 : ∀ en ∈ ([(91, .if_icmp .ge 16, []), (94, .aload_n 0, []), (95, .getfield 59, [12, 37]), (98, .iload_n 2, []), (99, .iconst 0, []), (100, .iastore, []), (101, .iinc 2 1, []), (104, .goto (-15), []), (107, .aload_n 0, []), (108, .getfield 33, [12, 6]), (111, .bipush 63, []), (113, .iaload, []), (114, .istore_n 2, []), (115, .iconst (-1), []), (116, .istore_n 3, []), (117, .iconst 0, []), (118, .istore 4, []), (120, .iload 4, []), (122, .aload_n 0, []), (123, .getfield 397, [12, 36]), (126, .if_icmp .ge 79, []), (205, .aload_n 0, []), (206, .getfield 59, [12, 37]), (209, .iconst 2, []), (210, .aload_n 0, []), (211, .getfield 33, [12, 6]), (214, .bipush 62, []), (216, .iaload, []), (217, .iastore, []), (218, .aload_n 0, [])] : List zE), z_en zTB zNT vwCl zTF zDF zP ⟨"HeldCoatsModel", "book", "(I)I"⟩ prog_14_method_103_code en := List.forall_mem_cons.mpr ⟨ze_s (by decide +kernel) rfl, List.forall_mem_cons.mpr ⟨ze_s (by decide +kernel) rfl, List.forall_mem_cons.mpr ⟨ze_get (by decide +kernel) zK_12 (by decide) zw_1436, List.forall_mem_cons.mpr ⟨ze_s (by decide +kernel) rfl, List.forall_mem_cons.mpr ⟨ze_s (by decide +kernel) rfl, List.forall_mem_cons.mpr ⟨ze_s (by decide +kernel) rfl, List.forall_mem_cons.mpr ⟨ze_s (by decide +kernel) rfl, List.forall_mem_cons.mpr ⟨ze_s (by decide +kernel) rfl, List.forall_mem_cons.mpr ⟨ze_s (by decide +kernel) rfl, List.forall_mem_cons.mpr ⟨ze_get (by decide +kernel) zK_12 (by decide) zw_1405, List.forall_mem_cons.mpr ⟨ze_s (by decide +kernel) rfl, List.forall_mem_cons.mpr ⟨ze_s (by decide +kernel) rfl, List.forall_mem_cons.mpr ⟨ze_s (by decide +kernel) rfl, List.forall_mem_cons.mpr ⟨ze_s (by decide +kernel) rfl, List.forall_mem_cons.mpr ⟨ze_s (by decide +kernel) rfl, List.forall_mem_cons.mpr ⟨ze_s (by decide +kernel) rfl, List.forall_mem_cons.mpr ⟨ze_s (by decide +kernel) rfl, List.forall_mem_cons.mpr ⟨ze_s (by decide +kernel) rfl, List.forall_mem_cons.mpr ⟨ze_s (by decide +kernel) rfl, List.forall_mem_cons.mpr ⟨ze_get (by decide +kernel) zK_12 (by decide) zw_1435, List.forall_mem_cons.mpr ⟨ze_s (by decide +kernel) rfl, List.forall_mem_cons.mpr ⟨ze_s (by decide +kernel) rfl, List.forall_mem_cons.mpr ⟨ze_get (by decide +kernel) zK_12 (by decide) zw_1436, List.forall_mem_cons.mpr ⟨ze_s (by decide +kernel) rfl, List.forall_mem_cons.mpr ⟨ze_s (by decide +kernel) rfl, List.forall_mem_cons.mpr ⟨ze_get (by decide +kernel) zK_12 (by decide) zw_1405, List.forall_mem_cons.mpr ⟨ze_s (by decide +kernel) rfl, List.forall_mem_cons.mpr ⟨ze_s (by decide +kernel) rfl, List.forall_mem_cons.mpr ⟨ze_s (by decide +kernel) rfl, List.forall_mem_cons.mpr ⟨ze_s (by decide +kernel) rfl, fun _ h => absurd h List.not_mem_nil⟩⟩⟩⟩⟩⟩⟩⟩⟩⟩⟩⟩⟩⟩⟩⟩⟩⟩⟩⟩⟩⟩⟩⟩⟩⟩⟩⟩⟩⟩
set_option maxRecDepth 20000 in
theorem zo_X12_book_2 : ∀ en ∈ ([(219, .getfield 59, [12, 37]), (222, .iconst 3, []), (223, .aload_n 0, []), (224, .getfield 33, [12, 6]), (227, .bipush 63, []), (229, .iaload, []), (230, .iload_n 2, []), (231, .isub, []), (232, .iastore, []), (233, .aload_n 0, []), (234, .iconst 1, []), (235, .putfield 406, [12, 38]), (238, .iload_n 1, []), (239, .iconst 1, []), (240, .if_icmp .ne 56, []), (243, .aload_n 0, []), (244, .getfield 59, [12, 37]), (247, .iconst 1, []), (248, .iaload, []), (249, .ifCond .le 47, []), (296, .iload_n 1, []), (297, .ifCond .ne 7, []), (300, .aload_n 0, []), (301, .invokevirtual 360, [1, 115, 12]), (304, .iload_n 3, []), (305, .ireturn, [])] : List zE), z_en zTB zNT vwCl zTF zDF zP ⟨"HeldCoatsModel", "book", "(I)I"⟩ prog_14_method_103_code en := List.forall_mem_cons.mpr ⟨ze_get (by decide +kernel) zK_12 (by decide) zw_1436, List.forall_mem_cons.mpr ⟨ze_s (by decide +kernel) rfl, List.forall_mem_cons.mpr ⟨ze_s (by decide +kernel) rfl, List.forall_mem_cons.mpr ⟨ze_get (by decide +kernel) zK_12 (by decide) zw_1405, List.forall_mem_cons.mpr ⟨ze_s (by decide +kernel) rfl, List.forall_mem_cons.mpr ⟨ze_s (by decide +kernel) rfl, List.forall_mem_cons.mpr ⟨ze_s (by decide +kernel) rfl, List.forall_mem_cons.mpr ⟨ze_s (by decide +kernel) rfl, List.forall_mem_cons.mpr ⟨ze_s (by decide +kernel) rfl, List.forall_mem_cons.mpr ⟨ze_s (by decide +kernel) rfl, List.forall_mem_cons.mpr ⟨ze_s (by decide +kernel) rfl, List.forall_mem_cons.mpr ⟨ze_put (by decide +kernel) zK_12 (by decide) zw_1437 (Or.inl rfl), List.forall_mem_cons.mpr ⟨ze_s (by decide +kernel) rfl, List.forall_mem_cons.mpr ⟨ze_s (by decide +kernel) rfl, List.forall_mem_cons.mpr ⟨ze_s (by decide +kernel) rfl, List.forall_mem_cons.mpr ⟨ze_s (by decide +kernel) rfl, List.forall_mem_cons.mpr ⟨ze_get (by decide +kernel) zK_12 (by decide) zw_1436, List.forall_mem_cons.mpr ⟨ze_s (by decide +kernel) rfl, List.forall_mem_cons.mpr ⟨ze_s (by decide +kernel) rfl, List.forall_mem_cons.mpr ⟨ze_s (by decide +kernel) rfl, List.forall_mem_cons.mpr ⟨ze_s (by decide +kernel) rfl, List.forall_mem_cons.mpr ⟨ze_s (by decide +kernel) rfl, List.forall_mem_cons.mpr ⟨ze_s (by decide +kernel) rfl, List.forall_mem_cons.mpr ⟨ze_cv (by decide +kernel) (by rfl) zY_X12_back (Or.inl zw_1854) zw_1856 zs_92 rfl, List.forall_mem_cons.mpr ⟨ze_s (by decide +kernel) rfl, List.forall_mem_cons.mpr ⟨ze_s (by decide +kernel) rfl, fun _ h => absurd h List.not_mem_nil⟩⟩⟩⟩⟩⟩⟩⟩⟩⟩⟩⟩⟩⟩⟩⟩⟩⟩⟩⟩⟩⟩⟩⟩⟩⟩
theorem zo_X12_book : z_Mok zTB zNT vwCl zTF zDF zP zm_X12_book := ⟨by decide +kernel, List.forall_mem_append.mpr ⟨zo_X12_book_0, List.forall_mem_append.mpr ⟨zo_X12_book_1, zo_X12_book_2⟩⟩⟩
set_option maxRecDepth 20000 in
theorem zo_X0_readText_0 : ∀ en ∈ ([(0, .aload_n 0, []), (1, .iconst 0, []), (2, .putfield 24, [0, 4]), (5, .aload_n 1, []), (6, .sipush 400, []), (9, .invokevirtual 28, [1, 23, 10]), (12, .iconst 0, []), (13, .istore_n 3, []), (14, .iload_n 3, []), (15, .sipush 400, []), (18, .if_icmp .ge 46, []), (21, .aload_n 1, []), (22, .getfield 34, [10, 6]), (25, .ifCond .eq 39, []), (64, .aload_n 1, []), (65, .invokevirtual 45, [1, 27, 10]), (68, .ireturn, [])] : List zE), z_en zTB zNT vwCl zTF zDF zP ⟨"HeldCoats$Book", "readText", "(LHeldCoats$Tape;LHeldCoats$Names;)Z"⟩ prog_2_method_2_code en := List.forall_mem_cons.mpr ⟨ze_s (by decide +kernel) rfl, List.forall_mem_cons.mpr ⟨ze_s (by decide +kernel) rfl, List.forall_mem_cons.mpr ⟨ze_put (by decide +kernel) zK_0 (by decide) zw_434 (Or.inl rfl), List.forall_mem_cons.mpr ⟨ze_s (by decide +kernel) rfl, List.forall_mem_cons.mpr ⟨ze_s (by decide +kernel) rfl, List.forall_mem_cons.mpr ⟨ze_cv (by decide +kernel) (by rfl) zY_X10_open (Or.inl zw_1109) zw_587 zw_588 rfl, List.forall_mem_cons.mpr ⟨ze_s (by decide +kernel) rfl, List.forall_mem_cons.mpr ⟨ze_s (by decide +kernel) rfl, List.forall_mem_cons.mpr ⟨ze_s (by decide +kernel) rfl, List.forall_mem_cons.mpr ⟨ze_s (by decide +kernel) rfl, List.forall_mem_cons.mpr ⟨ze_s (by decide +kernel) rfl, List.forall_mem_cons.mpr ⟨ze_s (by decide +kernel) rfl, List.forall_mem_cons.mpr ⟨ze_get (by decide +kernel) zK_10 (by decide) zw_99, List.forall_mem_cons.mpr ⟨ze_s (by decide +kernel) rfl, List.forall_mem_cons.mpr ⟨ze_s (by decide +kernel) rfl, List.forall_mem_cons.mpr ⟨ze_cv (by decide +kernel) (by rfl) zY_X10_isOver (Or.inl zw_1136) zw_677 zw_678 rfl, List.forall_mem_cons.mpr ⟨ze_s (by decide +kernel) rfl, fun _ h => absurd h List.not_mem_nil⟩⟩⟩⟩⟩⟩⟩⟩⟩⟩⟩⟩⟩⟩⟩⟩⟩
theorem zo_X0_readText : z_Mok zTB zNT vwCl zTF zDF zP zm_X0_readText := ⟨by decide +kernel, zo_X0_readText_0⟩
set_option maxRecDepth 20000 in
theorem zo_X0_judge_0 : ∀ en ∈ ([(0, .aload_n 1, []), (1, .getfield 90, [9, 2]), (4, .istore_n 2, []), (5, .iconst 0, []), (6, .istore_n 3, []), (7, .iconst 0, []), (8, .istore 4, []), (10, .iload 4, []), (12, .aload_n 0, []), (13, .getfield 24, [0, 4]), (16, .if_icmp .ge 25, []), (41, .aload_n 0, []), (42, .getfield 21, [0, 3]), (45, .iconst 0, []), (46, .iload_n 3, []), (47, .iastore, []), (48, .aload_n 0, []), (49, .getfield 21, [0, 3]), (52, .iconst 1, []), (53, .iload 4, []), (55, .iastore, []), (56, .aload_n 0, []), (57, .getfield 21, [0, 3]), (60, .iconst 2, []), (61, .aload_n 1, []), (62, .getfield 99, [9, 1]), (65, .iastore, []), (66, .aload_n 0, []), (67, .getfield 21, [0, 3]), (70, .iconst 3, [])] : List zE), z_en zTB zNT vwCl zTF zDF zP ⟨"HeldCoats$Book", "judge", "(LHeldCoats$State;)I"⟩ prog_2_method_7_code en := List.forall_mem_cons.mpr ⟨ze_s (by decide +kernel) rfl, List.forall_mem_cons.mpr ⟨ze_get (by decide +kernel) zK_9 (by decide) zw_306, List.forall_mem_cons.mpr ⟨ze_s (by decide +kernel) rfl, List.forall_mem_cons.mpr ⟨ze_s (by decide +kernel) rfl, List.forall_mem_cons.mpr ⟨ze_s (by decide +kernel) rfl, List.forall_mem_cons.mpr ⟨ze_s (by decide +kernel) rfl, List.forall_mem_cons.mpr ⟨ze_s (by decide +kernel) rfl, List.forall_mem_cons.mpr ⟨ze_s (by decide +kernel) rfl, List.forall_mem_cons.mpr ⟨ze_s (by decide +kernel) rfl, List.forall_mem_cons.mpr ⟨ze_get (by decide +kernel) zK_0 (by decide) zw_434, List.forall_mem_cons.mpr ⟨ze_s (by decide +kernel) rfl, List.forall_mem_cons.mpr ⟨ze_s (by decide +kernel) rfl, List.forall_mem_cons.mpr ⟨ze_get (by decide +kernel) zK_0 (by decide) zw_432, List.forall_mem_cons.mpr ⟨ze_s (by decide +kernel) rfl, List.forall_mem_cons.mpr ⟨ze_s (by decide +kernel) rfl, List.forall_mem_cons.mpr ⟨ze_s (by decide +kernel) rfl, List.forall_mem_cons.mpr ⟨ze_s (by decide +kernel) rfl, List.forall_mem_cons.mpr ⟨ze_get (by decide +kernel) zK_0 (by decide) zw_432, List.forall_mem_cons.mpr ⟨ze_s (by decide +kernel) rfl, List.forall_mem_cons.mpr ⟨ze_s (by decide +kernel) rfl, List.forall_mem_cons.mpr ⟨ze_s (by decide +kernel) rfl, List.forall_mem_cons.mpr ⟨ze_s (by decide +kernel) rfl, List.forall_mem_cons.mpr ⟨ze_get (by decide +kernel) zK_0 (by decide) zw_432, List.forall_mem_cons.mpr ⟨ze_s (by decide +kernel) rfl, List.forall_mem_cons.mpr ⟨ze_s (by decide +kernel) rfl, List.forall_mem_cons.mpr ⟨ze_get (by decide +kernel) zK_9 (by decide) zw_303, List.forall_mem_cons.mpr ⟨ze_s (by decide +kernel) rfl, List.forall_mem_cons.mpr ⟨ze_s (by decide +kernel) rfl, List.forall_mem_cons.mpr ⟨ze_get (by decide +kernel) zK_0 (by decide) zw_432, List.forall_mem_cons.mpr ⟨ze_s (by decide +kernel) rfl, fun _ h => absurd h List.not_mem_nil⟩⟩⟩⟩⟩⟩⟩⟩⟩⟩⟩⟩⟩⟩⟩⟩⟩⟩⟩⟩⟩⟩⟩⟩⟩⟩⟩⟩⟩⟩
set_option maxRecDepth 20000 in
theorem zo_X0_judge_1 : ∀ en ∈ ([(71, .aload_n 1, []), (72, .getfield 90, [9, 2]), (75, .iload_n 2, []), (76, .isub, []), (77, .iastore, []), (78, .iload_n 3, []), (79, .ifCond .ne 7, []), (82, .iconst (-1), []), (83, .goto 5, []), (88, .ireturn, [])] : List zE), z_en zTB zNT vwCl zTF zDF zP ⟨"HeldCoats$Book", "judge", "(LHeldCoats$State;)I"⟩ prog_2_method_7_code en := List.forall_mem_cons.mpr ⟨ze_s (by decide +kernel) rfl, List.forall_mem_cons.mpr ⟨ze_get (by decide +kernel) zK_9 (by decide) zw_306, List.forall_mem_cons.mpr ⟨ze_s (by decide +kernel) rfl, List.forall_mem_cons.mpr ⟨ze_s (by decide +kernel) rfl, List.forall_mem_cons.mpr ⟨ze_s (by decide +kernel) rfl, List.forall_mem_cons.mpr ⟨ze_s (by decide +kernel) rfl, List.forall_mem_cons.mpr ⟨ze_s (by decide +kernel) rfl, List.forall_mem_cons.mpr ⟨ze_s (by decide +kernel) rfl, List.forall_mem_cons.mpr ⟨ze_s (by decide +kernel) rfl, List.forall_mem_cons.mpr ⟨ze_s (by decide +kernel) rfl, fun _ h => absurd h List.not_mem_nil⟩⟩⟩⟩⟩⟩⟩⟩⟩⟩
theorem zo_X0_judge : z_Mok zTB zNT vwCl zTF zDF zP zm_X0_judge := ⟨by decide +kernel, List.forall_mem_append.mpr ⟨zo_X0_judge_0, zo_X0_judge_1⟩⟩
set_option maxRecDepth 20000 in
theorem zo_X11_told_0 : ∀ en ∈ ([(0, .iload_n 1, []), (1, .ifCond .lt 27, []), (4, .iload_n 1, []), (5, .aload_n 0, []), (6, .getfield 65, [11, 7]), (9, .getfield 335, [0, 3]), (12, .arraylength, []), (13, .if_icmp .ge 15, []), (16, .aload_n 0, []), (17, .getfield 65, [11, 7]), (20, .getfield 335, [0, 3]), (23, .iload_n 1, []), (24, .iaload, []), (25, .goto 4, []), (28, .iconst (-1), []), (29, .ireturn, [])] : List zE), z_en zTB zNT vwCl zTF zDF zP ⟨"HeldCoats", "told", "(I)I"⟩ prog_1_method_37_code en := List.forall_mem_cons.mpr ⟨ze_s (by decide +kernel) rfl, List.forall_mem_cons.mpr ⟨ze_s (by decide +kernel) rfl, List.forall_mem_cons.mpr ⟨ze_s (by decide +kernel) rfl, List.forall_mem_cons.mpr ⟨ze_s (by decide +kernel) rfl, List.forall_mem_cons.mpr ⟨ze_get (by decide +kernel) zK_11 (by decide) zw_538, List.forall_mem_cons.mpr ⟨ze_get (by decide +kernel) zK_0 (by decide) zw_433, List.forall_mem_cons.mpr ⟨ze_s (by decide +kernel) rfl, List.forall_mem_cons.mpr ⟨ze_s (by decide +kernel) rfl, List.forall_mem_cons.mpr ⟨ze_s (by decide +kernel) rfl, List.forall_mem_cons.mpr ⟨ze_get (by decide +kernel) zK_11 (by decide) zw_538, List.forall_mem_cons.mpr ⟨ze_get (by decide +kernel) zK_0 (by decide) zw_433, List.forall_mem_cons.mpr ⟨ze_s (by decide +kernel) rfl, List.forall_mem_cons.mpr ⟨ze_s (by decide +kernel) rfl, List.forall_mem_cons.mpr ⟨ze_s (by decide +kernel) rfl, List.forall_mem_cons.mpr ⟨ze_s (by decide +kernel) rfl, List.forall_mem_cons.mpr ⟨ze_s (by decide +kernel) rfl, fun _ h => absurd h List.not_mem_nil⟩⟩⟩⟩⟩⟩⟩⟩⟩⟩⟩⟩⟩⟩⟩⟩
theorem zo_X11_told : z_Mok zTB zNT vwCl zTF zDF zP zm_X11_told := ⟨by decide +kernel, zo_X11_told_0⟩
set_option maxRecDepth 20000 in
theorem zo_X12_told_0 : ∀ en ∈ ([(0, .aload_n 0, []), (1, .iconst 0, []), (2, .putfield 1, [12, 0]), (5, .aload_n 0, []), (6, .getfield 406, [12, 38]), (9, .ifCond .eq 21, []), (30, .iconst (-1), []), (31, .ireturn, [])] : List zE), z_en zTB zNT vwCl zTF zDF zP ⟨"HeldCoatsModel", "told", "(I)I"⟩ prog_14_method_104_code en := List.forall_mem_cons.mpr ⟨ze_s (by decide +kernel) rfl, List.forall_mem_cons.mpr ⟨ze_s (by decide +kernel) rfl, List.forall_mem_cons.mpr ⟨ze_put (by decide +kernel) zK_12 (by decide) zw_1399 (Or.inl rfl), List.forall_mem_cons.mpr ⟨ze_s (by decide +kernel) rfl, List.forall_mem_cons.mpr ⟨ze_get (by decide +kernel) zK_12 (by decide) zw_1437, List.forall_mem_cons.mpr ⟨ze_s (by decide +kernel) rfl, List.forall_mem_cons.mpr ⟨ze_s (by decide +kernel) rfl, List.forall_mem_cons.mpr ⟨ze_s (by decide +kernel) rfl, fun _ h => absurd h List.not_mem_nil⟩⟩⟩⟩⟩⟩⟩⟩
theorem zo_X12_told : z_Mok zTB zNT vwCl zTF zDF zP zm_X12_told := ⟨by decide +kernel, zo_X12_told_0⟩
set_option maxRecDepth 20000 in
theorem zo_X11_sentence_0 : ∀ en ∈ ([(0, .aload_n 0, []), (1, .getfield 58, [11, 6]), (4, .aload_n 0, []), (5, .getfield 19, [11, 1]), (8, .getfield 317, [3, 15]), (11, .invokevirtual 338, [1, 148, 8]), (14, .aload_n 0, []), (15, .getfield 58, [11, 6]), (18, .iconst 1, []), (19, .invokevirtual 342, [1, 149, 8]), (22, .ifCond .eq 17, []), (39, .iconst 0, []), (40, .istore_n 1, []), (41, .aload_n 0, []), (42, .invokevirtual 97, [1, 28, 11]), (45, .iload_n 1, []), (46, .ifCond .ne 13, []), (49, .iconst (-1), []), (50, .aload_n 0, []), (51, .getfield 10, [11, 0]), (54, .getfield 100, [10, 10]), (57, .isub, []), (58, .ireturn, [])] : List zE), z_en zTB zNT vwCl zTF zDF zP ⟨"HeldCoats", "sentence", "()I"⟩ prog_1_method_38_code en := List.forall_mem_cons.mpr ⟨ze_s (by decide +kernel) rfl, List.forall_mem_cons.mpr ⟨ze_get (by decide +kernel) zK_11 (by decide) zw_537, List.forall_mem_cons.mpr ⟨ze_s (by decide +kernel) rfl, List.forall_mem_cons.mpr ⟨ze_get (by decide +kernel) zK_11 (by decide) zw_532, List.forall_mem_cons.mpr ⟨ze_get (by decide +kernel) zK_3 (by decide) zw_236, List.forall_mem_cons.mpr ⟨ze_cv (by decide +kernel) (by rfl) zY_X8_open (Or.inl zw_1163) zw_1164 zw_1165 rfl, List.forall_mem_cons.mpr ⟨ze_s (by decide +kernel) rfl, List.forall_mem_cons.mpr ⟨ze_get (by decide +kernel) zK_11 (by decide) zw_537, List.forall_mem_cons.mpr ⟨ze_s (by decide +kernel) rfl, List.forall_mem_cons.mpr ⟨ze_cv (by decide +kernel) (by rfl) zY_X8_readCond (Or.inr ⟨"HeldCoats", by decide⟩) zw_1171 zs_32 rfl, List.forall_mem_cons.mpr ⟨ze_s (by decide +kernel) rfl, List.forall_mem_cons.mpr ⟨ze_s (by decide +kernel) rfl, List.forall_mem_cons.mpr ⟨ze_s (by decide +kernel) rfl, List.forall_mem_cons.mpr ⟨ze_s (by decide +kernel) rfl, List.forall_mem_cons.mpr ⟨ze_cv (by decide +kernel) (by rfl) zY_X11_closeTape (Or.inl zw_680) zw_682 zs_11 rfl, List.forall_mem_cons.mpr ⟨ze_s (by decide +kernel) rfl, List.forall_mem_cons.mpr ⟨ze_s (by decide +kernel) rfl, List.forall_mem_cons.mpr ⟨ze_s (by decide +kernel) rfl, List.forall_mem_cons.mpr ⟨ze_s (by decide +kernel) rfl, List.forall_mem_cons.mpr ⟨ze_get (by decide +kernel) zK_11 (by decide) zw_531, List.forall_mem_cons.mpr ⟨ze_get (by decide +kernel) zK_10 (by decide) zw_113, List.forall_mem_cons.mpr ⟨ze_s (by decide +kernel) rfl, List.forall_mem_cons.mpr ⟨ze_s (by decide +kernel) rfl, fun _ h => absurd h List.not_mem_nil⟩⟩⟩⟩⟩⟩⟩⟩⟩⟩⟩⟩⟩⟩⟩⟩⟩⟩⟩⟩⟩⟩⟩
theorem zo_X11_sentence : z_Mok zTB zNT vwCl zTF zDF zP zm_X11_sentence := ⟨by decide +kernel, zo_X11_sentence_0⟩
set_option maxRecDepth 20000 in
theorem zo_X8_open_0 : ∀ en ∈ ([(0, .aload_n 0, []), (1, .aload_n 1, []), (2, .putfield 25, [8, 2]), (5, .aload_n 0, []), (6, .getfield 12, [8, 1]), (9, .invokevirtual 29, [1, 33, 7]), (12, .aload_n 0, []), (13, .getfield 18, [8, 0]), (16, .sipush 200, []), (19, .invokevirtual 32, [1, 23, 10]), (22, .return_, [])] : List zE), z_en zTB zNT vwCl zTF zDF zP ⟨"HeldCoats$SentenceReader", "open", "(LHeldCoats$Names;)V"⟩ prog_10_method_2_code en := List.forall_mem_cons.mpr ⟨ze_s (by decide +kernel) rfl, List.forall_mem_cons.mpr ⟨ze_s (by decide +kernel) rfl, List.forall_mem_cons.mpr ⟨ze_put (by decide +kernel) zK_8 (by decide) zw_415 (Or.inl rfl), List.forall_mem_cons.mpr ⟨ze_s (by decide +kernel) rfl, List.forall_mem_cons.mpr ⟨ze_get (by decide +kernel) zK_8 (by decide) zw_413, List.forall_mem_cons.mpr ⟨ze_cv (by decide +kernel) (by rfl) zY_X7_clear (Or.inl zw_1167) zw_704 zw_705 rfl, List.forall_mem_cons.mpr ⟨ze_s (by decide +kernel) rfl, List.forall_mem_cons.mpr ⟨ze_get (by decide +kernel) zK_8 (by decide) zw_412, List.forall_mem_cons.mpr ⟨ze_s (by decide +kernel) rfl, List.forall_mem_cons.mpr ⟨ze_cv (by decide +kernel) (by rfl) zY_X10_open (Or.inl zw_1168) zw_587 zw_588 rfl, List.forall_mem_cons.mpr ⟨ze_s (by decide +kernel) rfl, fun _ h => absurd h List.not_mem_nil⟩⟩⟩⟩⟩⟩⟩⟩⟩⟩⟩
theorem zo_X8_open : z_Mok zTB zNT vwCl zTF zDF zP zm_X8_open := ⟨by decide +kernel, zo_X8_open_0⟩
set_option maxRecDepth 20000 in
theorem zo_X8_readCond_0 : ∀ en ∈ ([(0, .aload_n 0, []), (1, .iload_n 1, []), (2, .invokevirtual 42, [1, 150, 8]), (5, .ifCond .ne 5, []), (8, .iconst 0, []), (9, .ireturn, [])] : List zE), z_en zTB zNT vwCl zTF zDF zP ⟨"HeldCoats$SentenceReader", "readCond", "(I)Z"⟩ prog_10_method_4_code en := List.forall_mem_cons.mpr ⟨ze_s (by decide +kernel) rfl, List.forall_mem_cons.mpr ⟨ze_s (by decide +kernel) rfl, List.forall_mem_cons.mpr ⟨ze_cv (by decide +kernel) (by rfl) zY_X8_readAll (Or.inl zw_1173) zw_1175 zs_33 rfl, List.forall_mem_cons.mpr ⟨ze_s (by decide +kernel) rfl, List.forall_mem_cons.mpr ⟨ze_s (by decide +kernel) rfl, List.forall_mem_cons.mpr ⟨ze_s (by decide +kernel) rfl, fun _ h => absurd h List.not_mem_nil⟩⟩⟩⟩⟩⟩
theorem zo_X8_readCond : z_Mok zTB zNT vwCl zTF zDF zP zm_X8_readCond := ⟨by decide +kernel, zo_X8_readCond_0⟩
set_option maxRecDepth 20000 in
theorem zo_X8_readAll_0 : ∀ en ∈ ([(0, .aload_n 0, []), (1, .iload_n 1, []), (2, .invokevirtual 56, [1, 151, 8]), (5, .ifCond .ne 5, []), (8, .iconst 0, []), (9, .ireturn, [])] : List zE), z_en zTB zNT vwCl zTF zDF zP ⟨"HeldCoats$SentenceReader", "readAll", "(I)Z"⟩ prog_10_method_5_code en := List.forall_mem_cons.mpr ⟨ze_s (by decide +kernel) rfl, List.forall_mem_cons.mpr ⟨ze_s (by decide +kernel) rfl, List.forall_mem_cons.mpr ⟨ze_cv (by decide +kernel) (by rfl) zY_X8_readOne (Or.inl zw_1177) zw_1179 zs_34 rfl, List.forall_mem_cons.mpr ⟨ze_s (by decide +kernel) rfl, List.forall_mem_cons.mpr ⟨ze_s (by decide +kernel) rfl, List.forall_mem_cons.mpr ⟨ze_s (by decide +kernel) rfl, fun _ h => absurd h List.not_mem_nil⟩⟩⟩⟩⟩⟩
theorem zo_X8_readAll : z_Mok zTB zNT vwCl zTF zDF zP zm_X8_readAll := ⟨by decide +kernel, zo_X8_readAll_0⟩
set_option maxRecDepth 20000 in
theorem zo_X8_readOne_0 : ∀ en ∈ ([(0, .aload_n 0, []), (1, .getfield 18, [8, 0]), (4, .bipush 40, []), (6, .invokevirtual 59, [1, 152, 10]), (9, .istore_n 2, []), (10, .iload_n 2, []), (11, .ifCond .ne 35, []), (14, .aload_n 0, []), (15, .getfield 18, [8, 0]), (18, .getfield 62, [10, 6]), (21, .iconst 2, []), (22, .if_icmp .ne 15, []), (37, .aload_n 0, []), (38, .getfield 18, [8, 0]), (41, .iconst 1, []), (42, .invokevirtual 69, [1, 153, 10]), (45, .ireturn, [])] : List zE), z_en zTB zNT vwCl zTF zDF zP ⟨"HeldCoats$SentenceReader", "readOne", "(I)Z"⟩ prog_10_method_6_code en := List.forall_mem_cons.mpr ⟨ze_s (by decide +kernel) rfl, List.forall_mem_cons.mpr ⟨ze_get (by decide +kernel) zK_8 (by decide) zw_412, List.forall_mem_cons.mpr ⟨ze_s (by decide +kernel) rfl, List.forall_mem_cons.mpr ⟨ze_cv (by decide +kernel) (by rfl) zY_X10_isSign (Or.inl zw_1181) zw_673 zw_674 rfl, List.forall_mem_cons.mpr ⟨ze_s (by decide +kernel) rfl, List.forall_mem_cons.mpr ⟨ze_s (by decide +kernel) rfl, List.forall_mem_cons.mpr ⟨ze_s (by decide +kernel) rfl, List.forall_mem_cons.mpr ⟨ze_s (by decide +kernel) rfl, List.forall_mem_cons.mpr ⟨ze_get (by decide +kernel) zK_8 (by decide) zw_412, List.forall_mem_cons.mpr ⟨ze_get (by decide +kernel) zK_10 (by decide) zw_102, List.forall_mem_cons.mpr ⟨ze_s (by decide +kernel) rfl, List.forall_mem_cons.mpr ⟨ze_s (by decide +kernel) rfl, List.forall_mem_cons.mpr ⟨ze_s (by decide +kernel) rfl, List.forall_mem_cons.mpr ⟨ze_get (by decide +kernel) zK_8 (by decide) zw_412, List.forall_mem_cons.mpr ⟨ze_s (by decide +kernel) rfl, List.forall_mem_cons.mpr ⟨ze_cv (by decide +kernel) (by rfl) zY_X10_refuse (Or.inl zw_1182) zw_619 zw_620 rfl, List.forall_mem_cons.mpr ⟨ze_s (by decide +kernel) rfl, fun _ h => absurd h List.not_mem_nil⟩⟩⟩⟩⟩⟩⟩⟩⟩⟩⟩⟩⟩⟩⟩⟩⟩
theorem zo_X8_readOne : z_Mok zTB zNT vwCl zTF zDF zP zm_X8_readOne := ⟨by decide +kernel, zo_X8_readOne_0⟩
set_option maxRecDepth 20000 in
theorem zo_X10_isSign_0 : ∀ en ∈ ([(0, .aload_n 0, []), (1, .getfield 69, [10, 6]), (4, .iconst 5, []), (5, .if_icmp .ne 15, []), (20, .iconst 0, []), (21, .ireturn, [])] : List zE), z_en zTB zNT vwCl zTF zDF zP ⟨"HeldCoats$Tape", "isSign", "(I)Z"⟩ prog_12_method_13_code en := List.forall_mem_cons.mpr ⟨ze_s (by decide +kernel) rfl, List.forall_mem_cons.mpr ⟨ze_get (by decide +kernel) zK_10 (by decide) zw_101, List.forall_mem_cons.mpr ⟨ze_s (by decide +kernel) rfl, List.forall_mem_cons.mpr ⟨ze_s (by decide +kernel) rfl, List.forall_mem_cons.mpr ⟨ze_s (by decide +kernel) rfl, List.forall_mem_cons.mpr ⟨ze_s (by decide +kernel) rfl, fun _ h => absurd h List.not_mem_nil⟩⟩⟩⟩⟩⟩
theorem zo_X10_isSign : z_Mok zTB zNT vwCl zTF zDF zP zm_X10_isSign := ⟨by decide +kernel, zo_X10_isSign_0⟩
set_option maxRecDepth 20000 in
theorem zo_X10_refuse_0 : ∀ en ∈ ([(0, .aload_n 0, []), (1, .iload_n 1, []), (2, .putfield 43, [10, 9]), (5, .aload_n 0, []), (6, .aload_n 0, []), (7, .getfield 56, [10, 4]), (10, .putfield 46, [10, 10]), (13, .iconst 0, []), (14, .ireturn, [])] : List zE), z_en zTB zNT vwCl zTF zDF zP ⟨"HeldCoats$Tape", "refuse", "(I)Z"⟩ prog_12_method_10_code en := List.forall_mem_cons.mpr ⟨ze_s (by decide +kernel) rfl, List.forall_mem_cons.mpr ⟨ze_s (by decide +kernel) rfl, List.forall_mem_cons.mpr ⟨ze_put (by decide +kernel) zK_10 (by decide) zw_109 (Or.inl rfl), List.forall_mem_cons.mpr ⟨ze_s (by decide +kernel) rfl, List.forall_mem_cons.mpr ⟨ze_s (by decide +kernel) rfl, List.forall_mem_cons.mpr ⟨ze_get (by decide +kernel) zK_10 (by decide) zw_97, List.forall_mem_cons.mpr ⟨ze_put (by decide +kernel) zK_10 (by decide) zw_112 (Or.inl rfl), List.forall_mem_cons.mpr ⟨ze_s (by decide +kernel) rfl, List.forall_mem_cons.mpr ⟨ze_s (by decide +kernel) rfl, fun _ h => absurd h List.not_mem_nil⟩⟩⟩⟩⟩⟩⟩⟩⟩
theorem zo_X10_refuse : z_Mok zTB zNT vwCl zTF zDF zP zm_X10_refuse := ⟨by decide +kernel, zo_X10_refuse_0⟩
set_option maxRecDepth 20000 in
theorem zo_X12_sentence_0 : ∀ en ∈ ([(0, .aload_n 0, []), (1, .iconst 0, []), (2, .putfield 1, [12, 0]), (5, .aload_n 0, []), (6, .sipush 200, []), (9, .invokevirtual 219, [1, 36, 12]), (12, .aload_n 0, []), (13, .iconst 0, []), (14, .putfield 156, [12, 15]), (17, .aload_n 0, []), (18, .iconst 0, []), (19, .putfield 409, [12, 40]), (22, .aload_n 0, []), (23, .iconst 0, []), (24, .putfield 425, [12, 41]), (27, .aload_n 0, []), (28, .iconst 0, []), (29, .putfield 412, [12, 42]), (32, .aload_n 0, []), (33, .iconst 1, []), (34, .putfield 419, [12, 43]), (37, .aload_n 0, []), (38, .iconst 0, []), (39, .putfield 428, [12, 44]), (42, .aload_n 0, []), (43, .invokevirtual 168, [1, 37, 12]), (46, .iconst 1, []), (47, .istore_n 1, []), (48, .iload_n 1, []), (49, .ifCond .eq 83, [])] : List zE), z_en zTB zNT vwCl zTF zDF zP ⟨"HeldCoatsModel", "sentence", "()I"⟩ prog_14_method_111_code en := List.forall_mem_cons.mpr ⟨ze_s (by decide +kernel) rfl, List.forall_mem_cons.mpr ⟨ze_s (by decide +kernel) rfl, List.forall_mem_cons.mpr ⟨ze_put (by decide +kernel) zK_12 (by decide) zw_1399 (Or.inl rfl), List.forall_mem_cons.mpr ⟨ze_s (by decide +kernel) rfl, List.forall_mem_cons.mpr ⟨ze_s (by decide +kernel) rfl, List.forall_mem_cons.mpr ⟨ze_cv (by decide +kernel) (by rfl) zY_X12_taken (Or.inl zw_1552) zw_1554 zs_42 rfl, List.forall_mem_cons.mpr ⟨ze_s (by decide +kernel) rfl, List.forall_mem_cons.mpr ⟨ze_s (by decide +kernel) rfl, List.forall_mem_cons.mpr ⟨ze_put (by decide +kernel) zK_12 (by decide) zw_1414 (Or.inl rfl), List.forall_mem_cons.mpr ⟨ze_s (by decide +kernel) rfl, List.forall_mem_cons.mpr ⟨ze_s (by decide +kernel) rfl, List.forall_mem_cons.mpr ⟨ze_put (by decide +kernel) zK_12 (by decide) zw_1439 (Or.inl rfl), List.forall_mem_cons.mpr ⟨ze_s (by decide +kernel) rfl, List.forall_mem_cons.mpr ⟨ze_s (by decide +kernel) rfl, List.forall_mem_cons.mpr ⟨ze_put (by decide +kernel) zK_12 (by decide) zw_1440 (Or.inl rfl), List.forall_mem_cons.mpr ⟨ze_s (by decide +kernel) rfl, List.forall_mem_cons.mpr ⟨ze_s (by decide +kernel) rfl, List.forall_mem_cons.mpr ⟨ze_put (by decide +kernel) zK_12 (by decide) zw_1441 (Or.inl rfl), List.forall_mem_cons.mpr ⟨ze_s (by decide +kernel) rfl, List.forall_mem_cons.mpr ⟨ze_s (by decide +kernel) rfl, List.forall_mem_cons.mpr ⟨ze_put (by decide +kernel) zK_12 (by decide) zw_1442 (Or.inl rfl), List.forall_mem_cons.mpr ⟨ze_s (by decide +kernel) rfl, List.forall_mem_cons.mpr ⟨ze_s (by decide +kernel) rfl, List.forall_mem_cons.mpr ⟨ze_put (by decide +kernel) zK_12 (by decide) zw_1443 (Or.inl rfl), List.forall_mem_cons.mpr ⟨ze_s (by decide +kernel) rfl, List.forall_mem_cons.mpr ⟨ze_cv (by decide +kernel) (by rfl) zY_X12_next (Or.inl zw_1556) zw_1558 zs_43 rfl, List.forall_mem_cons.mpr ⟨ze_s (by decide +kernel) rfl, List.forall_mem_cons.mpr ⟨ze_s (by decide +kernel) rfl, List.forall_mem_cons.mpr ⟨ze_s (by decide +kernel) rfl, List.forall_mem_cons.mpr ⟨ze_s (by decide +kernel) rfl, fun _ h => absurd h List.not_mem_nil⟩⟩⟩⟩⟩⟩⟩⟩⟩⟩⟩⟩⟩⟩⟩⟩⟩⟩⟩⟩⟩⟩⟩⟩⟩⟩⟩⟩⟩⟩
set_option maxRecDepth 20000 in
theorem zo_X12_sentence_1 : ∀ en ∈ ([(52, .aload_n 0, []), (53, .getfield 428, [12, 44]), (56, .ifCond .eq 45, []), (101, .aload_n 0, []), (102, .getfield 428, [12, 44]), (105, .ifCond .eq 13, []), (118, .aload_n 0, []), (119, .invokevirtual 440, [1, 155, 12]), (122, .ifCond .ne (-74), []), (125, .iconst (-1), []), (126, .aload_n 0, []), (127, .getfield 159, [12, 16]), (130, .isub, []), (131, .ireturn, [])] : List zE), z_en zTB zNT vwCl zTF zDF zP ⟨"HeldCoatsModel", "sentence", "()I"⟩ prog_14_method_111_code en := List.forall_mem_cons.mpr ⟨ze_s (by decide +kernel) rfl, List.forall_mem_cons.mpr ⟨ze_get (by decide +kernel) zK_12 (by decide) zw_1443, List.forall_mem_cons.mpr ⟨ze_s (by decide +kernel) rfl, List.forall_mem_cons.mpr ⟨ze_s (by decide +kernel) rfl, List.forall_mem_cons.mpr ⟨ze_get (by decide +kernel) zK_12 (by decide) zw_1443, List.forall_mem_cons.mpr ⟨ze_s (by decide +kernel) rfl, List.forall_mem_cons.mpr ⟨ze_s (by decide +kernel) rfl, List.forall_mem_cons.mpr ⟨ze_cv (by decide +kernel) (by rfl) zY_X12_operand (Or.inl zw_1955) zw_1957 zs_104 rfl, List.forall_mem_cons.mpr ⟨ze_s (by decide +kernel) rfl, List.forall_mem_cons.mpr ⟨ze_s (by decide +kernel) rfl, List.forall_mem_cons.mpr ⟨ze_s (by decide +kernel) rfl, List.forall_mem_cons.mpr ⟨ze_get (by decide +kernel) zK_12 (by decide) zw_1415, List.forall_mem_cons.mpr ⟨ze_s (by decide +kernel) rfl, List.forall_mem_cons.mpr ⟨ze_s (by decide +kernel) rfl, fun _ h => absurd h List.not_mem_nil⟩⟩⟩⟩⟩⟩⟩⟩⟩⟩⟩⟩⟩⟩
theorem zo_X12_sentence : z_Mok zTB zNT vwCl zTF zDF zP zm_X12_sentence := ⟨by decide +kernel, List.forall_mem_append.mpr ⟨zo_X12_sentence_0, zo_X12_sentence_1⟩⟩
set_option maxRecDepth 20000 in
theorem zo_X12_operand_0 : ∀ en ∈ ([(0, .aload_n 0, []), (1, .ldc2_w 108, []), (4, .invokevirtual 202, [1, 156, 12]), (7, .istore_n 1, []), (8, .aload_n 0, []), (9, .bipush 40, []), (11, .invokevirtual 162, [1, 157, 12]), (14, .istore_n 2, []), (15, .aload_n 0, []), (16, .invokevirtual 422, [1, 158, 12]), (19, .istore_n 3, []), (20, .iload_n 1, []), (21, .ifCond .ne 17, []), (24, .iload_n 2, []), (25, .ifCond .ne 13, []), (28, .iload_n 3, []), (29, .ifCond .ge 9, []), (32, .aload_n 0, []), (33, .iconst 1, []), (34, .invokevirtual 165, [1, 159, 12]), (37, .ireturn, [])] : List zE), z_en zTB zNT vwCl zTF zDF zP ⟨"HeldCoatsModel", "operand", "()Z"⟩ prog_14_method_109_code en := List.forall_mem_cons.mpr ⟨ze_s (by decide +kernel) rfl, List.forall_mem_cons.mpr ⟨ze_ldc2 (by decide +kernel) zw_1386, List.forall_mem_cons.mpr ⟨ze_cv (by decide +kernel) (by rfl) zY_X12_isWord (Or.inl zw_1574) zw_1576 zs_46 rfl, List.forall_mem_cons.mpr ⟨ze_s (by decide +kernel) rfl, List.forall_mem_cons.mpr ⟨ze_s (by decide +kernel) rfl, List.forall_mem_cons.mpr ⟨ze_s (by decide +kernel) rfl, List.forall_mem_cons.mpr ⟨ze_cv (by decide +kernel) (by rfl) zY_X12_isSign (Or.inl zw_1628) zw_1630 zs_58 rfl, List.forall_mem_cons.mpr ⟨ze_s (by decide +kernel) rfl, List.forall_mem_cons.mpr ⟨ze_s (by decide +kernel) rfl, List.forall_mem_cons.mpr ⟨ze_cv (by decide +kernel) (by rfl) zY_X12_leafOf (Or.inl zw_1959) zw_1961 zs_105 rfl, List.forall_mem_cons.mpr ⟨ze_s (by decide +kernel) rfl, List.forall_mem_cons.mpr ⟨ze_s (by decide +kernel) rfl, List.forall_mem_cons.mpr ⟨ze_s (by decide +kernel) rfl, List.forall_mem_cons.mpr ⟨ze_s (by decide +kernel) rfl, List.forall_mem_cons.mpr ⟨ze_s (by decide +kernel) rfl, List.forall_mem_cons.mpr ⟨ze_s (by decide +kernel) rfl, List.forall_mem_cons.mpr ⟨ze_s (by decide +kernel) rfl, List.forall_mem_cons.mpr ⟨ze_s (by decide +kernel) rfl, List.forall_mem_cons.mpr ⟨ze_s (by decide +kernel) rfl, List.forall_mem_cons.mpr ⟨ze_cv (by decide +kernel) (by rfl) zY_X12_bad (Or.inl zw_1578) zw_1580 zs_47 rfl, List.forall_mem_cons.mpr ⟨ze_s (by decide +kernel) rfl, fun _ h => absurd h List.not_mem_nil⟩⟩⟩⟩⟩⟩⟩⟩⟩⟩⟩⟩⟩⟩⟩⟩⟩⟩⟩⟩⟩
theorem zo_X12_operand : z_Mok zTB zNT vwCl zTF zDF zP zm_X12_operand := ⟨by decide +kernel, zo_X12_operand_0⟩
set_option maxRecDepth 20000 in
theorem zo_X12_isWord_0 : ∀ en ∈ ([(0, .aload_n 0, []), (1, .getfield 139, [12, 11]), (4, .iconst 1, []), (5, .if_icmp .ne 16, []), (21, .iconst 0, []), (22, .ireturn, [])] : List zE), z_en zTB zNT vwCl zTF zDF zP ⟨"HeldCoatsModel", "isWord", "(J)Z"⟩ prog_14_method_19_code en := List.forall_mem_cons.mpr ⟨ze_s (by decide +kernel) rfl, List.forall_mem_cons.mpr ⟨ze_get (by decide +kernel) zK_12 (by decide) zw_1410, List.forall_mem_cons.mpr ⟨ze_s (by decide +kernel) rfl, List.forall_mem_cons.mpr ⟨ze_s (by decide +kernel) rfl, List.forall_mem_cons.mpr ⟨ze_s (by decide +kernel) rfl, List.forall_mem_cons.mpr ⟨ze_s (by decide +kernel) rfl, fun _ h => absurd h List.not_mem_nil⟩⟩⟩⟩⟩⟩
theorem zo_X12_isWord : z_Mok zTB zNT vwCl zTF zDF zP zm_X12_isWord := ⟨by decide +kernel, zo_X12_isWord_0⟩
set_option maxRecDepth 20000 in
theorem zo_X12_isSign_0 : ∀ en ∈ ([(0, .aload_n 0, []), (1, .getfield 139, [12, 11]), (4, .iconst 3, []), (5, .if_icmp .ne 15, []), (20, .iconst 0, []), (21, .ireturn, [])] : List zE), z_en zTB zNT vwCl zTF zDF zP ⟨"HeldCoatsModel", "isSign", "(I)Z"⟩ prog_14_method_20_code en := List.forall_mem_cons.mpr ⟨ze_s (by decide +kernel) rfl, List.forall_mem_cons.mpr ⟨ze_get (by decide +kernel) zK_12 (by decide) zw_1410, List.forall_mem_cons.mpr ⟨ze_s (by decide +kernel) rfl, List.forall_mem_cons.mpr ⟨ze_s (by decide +kernel) rfl, List.forall_mem_cons.mpr ⟨ze_s (by decide +kernel) rfl, List.forall_mem_cons.mpr ⟨ze_s (by decide +kernel) rfl, fun _ h => absurd h List.not_mem_nil⟩⟩⟩⟩⟩⟩
theorem zo_X12_isSign : z_Mok zTB zNT vwCl zTF zDF zP zm_X12_isSign := ⟨by decide +kernel, zo_X12_isSign_0⟩
set_option maxRecDepth 20000 in
theorem zo_X12_leafOf_0 : ∀ en ∈ ([(0, .aload_n 0, []), (1, .ldc2_w 110, []), (4, .invokevirtual 202, [1, 156, 12]), (7, .ifCond .eq 7, []), (14, .aload_n 0, []), (15, .ldc2_w 112, []), (18, .invokevirtual 202, [1, 156, 12]), (21, .ifCond .eq 7, []), (28, .aload_n 0, []), (29, .ldc2_w 114, []), (32, .invokevirtual 202, [1, 156, 12]), (35, .ifCond .eq 7, []), (42, .aload_n 0, []), (43, .ldc2_w 116, []), (46, .invokevirtual 202, [1, 156, 12]), (49, .ifCond .eq 7, []), (56, .aload_n 0, []), (57, .ldc2_w 118, []), (60, .invokevirtual 202, [1, 156, 12]), (63, .ifCond .eq 7, []), (70, .aload_n 0, []), (71, .ldc2_w 120, []), (74, .invokevirtual 202, [1, 156, 12]), (77, .ifCond .eq 7, []), (84, .aload_n 0, []), (85, .ldc2_w 122, []), (88, .invokevirtual 202, [1, 156, 12]), (91, .ifCond .eq 8, []), (99, .aload_n 0, []), (100, .ldc2_w 124, [])] : List zE), z_en zTB zNT vwCl zTF zDF zP ⟨"HeldCoatsModel", "leafOf", "()I"⟩ prog_14_method_108_code en := List.forall_mem_cons.mpr ⟨ze_s (by decide +kernel) rfl, List.forall_mem_cons.mpr ⟨ze_ldc2 (by decide +kernel) zw_1387, List.forall_mem_cons.mpr ⟨ze_cv (by decide +kernel) (by rfl) zY_X12_isWord (Or.inl zw_1574) zw_1576 zs_46 rfl, List.forall_mem_cons.mpr ⟨ze_s (by decide +kernel) rfl, List.forall_mem_cons.mpr ⟨ze_s (by decide +kernel) rfl, List.forall_mem_cons.mpr ⟨ze_ldc2 (by decide +kernel) zw_1388, List.forall_mem_cons.mpr ⟨ze_cv (by decide +kernel) (by rfl) zY_X12_isWord (Or.inl zw_1574) zw_1576 zs_46 rfl, List.forall_mem_cons.mpr ⟨ze_s (by decide +kernel) rfl, List.forall_mem_cons.mpr ⟨ze_s (by decide +kernel) rfl, List.forall_mem_cons.mpr ⟨ze_ldc2 (by decide +kernel) zw_1389, List.forall_mem_cons.mpr ⟨ze_cv (by decide +kernel) (by rfl) zY_X12_isWord (Or.inl zw_1574) zw_1576 zs_46 rfl, List.forall_mem_cons.mpr ⟨ze_s (by decide +kernel) rfl, List.forall_mem_cons.mpr ⟨ze_s (by decide +kernel) rfl, List.forall_mem_cons.mpr ⟨ze_ldc2 (by decide +kernel) zw_1390, List.forall_mem_cons.mpr ⟨ze_cv (by decide +kernel) (by rfl) zY_X12_isWord (Or.inl zw_1574) zw_1576 zs_46 rfl, List.forall_mem_cons.mpr ⟨ze_s (by decide +kernel) rfl, List.forall_mem_cons.mpr ⟨ze_s (by decide +kernel) rfl, List.forall_mem_cons.mpr ⟨ze_ldc2 (by decide +kernel) zw_1391, List.forall_mem_cons.mpr ⟨ze_cv (by decide +kernel) (by rfl) zY_X12_isWord (Or.inl zw_1574) zw_1576 zs_46 rfl, List.forall_mem_cons.mpr ⟨ze_s (by decide +kernel) rfl, List.forall_mem_cons.mpr ⟨ze_s (by decide +kernel) rfl, List.forall_mem_cons.mpr ⟨ze_ldc2 (by decide +kernel) zw_1392, List.forall_mem_cons.mpr ⟨ze_cv (by decide +kernel) (by rfl) zY_X12_isWord (Or.inl zw_1574) zw_1576 zs_46 rfl, List.forall_mem_cons.mpr ⟨ze_s (by decide +kernel) rfl, List.forall_mem_cons.mpr ⟨ze_s (by decide +kernel) rfl, List.forall_mem_cons.mpr ⟨ze_ldc2 (by decide +kernel) zw_1393, List.forall_mem_cons.mpr ⟨ze_cv (by decide +kernel) (by rfl) zY_X12_isWord (Or.inl zw_1574) zw_1576 zs_46 rfl, List.forall_mem_cons.mpr ⟨ze_s (by decide +kernel) rfl, List.forall_mem_cons.mpr ⟨ze_s (by decide +kernel) rfl, List.forall_mem_cons.mpr ⟨ze_ldc2 (by decide +kernel) zw_1394, fun _ h => absurd h List.not_mem_nil⟩⟩⟩⟩⟩⟩⟩⟩⟩⟩⟩⟩⟩⟩⟩⟩⟩⟩⟩⟩⟩⟩⟩⟩⟩⟩⟩⟩⟩⟩
set_option maxRecDepth 20000 in
theorem zo_X12_leafOf_1 : ∀ en ∈ ([(103, .invokevirtual 202, [1, 156, 12]), (106, .ifCond .eq 8, []), (114, .iconst (-1), []), (115, .ireturn, [])] : List zE), z_en zTB zNT vwCl zTF zDF zP ⟨"HeldCoatsModel", "leafOf", "()I"⟩ prog_14_method_108_code en := List.forall_mem_cons.mpr ⟨ze_cv (by decide +kernel) (by rfl) zY_X12_isWord (Or.inl zw_1574) zw_1576 zs_46 rfl, List.forall_mem_cons.mpr ⟨ze_s (by decide +kernel) rfl, List.forall_mem_cons.mpr ⟨ze_s (by decide +kernel) rfl, List.forall_mem_cons.mpr ⟨ze_s (by decide +kernel) rfl, fun _ h => absurd h List.not_mem_nil⟩⟩⟩⟩
theorem zo_X12_leafOf : z_Mok zTB zNT vwCl zTF zDF zP zm_X12_leafOf := ⟨by decide +kernel, List.forall_mem_append.mpr ⟨zo_X12_leafOf_0, zo_X12_leafOf_1⟩⟩
set_option maxRecDepth 20000 in
theorem zo_X12_bad_0 : ∀ en ∈ ([(0, .aload_n 0, []), (1, .iload_n 1, []), (2, .putfield 156, [12, 15]), (5, .aload_n 0, []), (6, .aload_n 0, []), (7, .getfield 133, [12, 12]), (10, .putfield 159, [12, 16]), (13, .iconst 0, []), (14, .ireturn, [])] : List zE), z_en zTB zNT vwCl zTF zDF zP ⟨"HeldCoatsModel", "bad", "(I)Z"⟩ prog_14_method_18_code en := List.forall_mem_cons.mpr ⟨ze_s (by decide +kernel) rfl, List.forall_mem_cons.mpr ⟨ze_s (by decide +kernel) rfl, List.forall_mem_cons.mpr ⟨ze_put (by decide +kernel) zK_12 (by decide) zw_1414 (Or.inl rfl), List.forall_mem_cons.mpr ⟨ze_s (by decide +kernel) rfl, List.forall_mem_cons.mpr ⟨ze_s (by decide +kernel) rfl, List.forall_mem_cons.mpr ⟨ze_get (by decide +kernel) zK_12 (by decide) zw_1411, List.forall_mem_cons.mpr ⟨ze_put (by decide +kernel) zK_12 (by decide) zw_1415 (Or.inl rfl), List.forall_mem_cons.mpr ⟨ze_s (by decide +kernel) rfl, List.forall_mem_cons.mpr ⟨ze_s (by decide +kernel) rfl, fun _ h => absurd h List.not_mem_nil⟩⟩⟩⟩⟩⟩⟩⟩⟩
theorem zo_X12_bad : z_Mok zTB zNT vwCl zTF zDF zP zm_X12_bad := ⟨by decide +kernel, zo_X12_bad_0⟩
set_option maxRecDepth 20000 in
theorem zo_X11_said_0 : ∀ en ∈ ([(0, .aload_n 0, []), (1, .getfield 51, [11, 5]), (4, .getfield 353, [7, 5]), (7, .ifCond .ne 5, []), (10, .iconst (-1), []), (11, .ireturn, [])] : List zE), z_en zTB zNT vwCl zTF zDF zP ⟨"HeldCoats", "said", "(I)I"⟩ prog_1_method_39_code en := List.forall_mem_cons.mpr ⟨ze_s (by decide +kernel) rfl, List.forall_mem_cons.mpr ⟨ze_get (by decide +kernel) zK_11 (by decide) zw_536, List.forall_mem_cons.mpr ⟨ze_get (by decide +kernel) zK_7 (by decide) zw_388, List.forall_mem_cons.mpr ⟨ze_s (by decide +kernel) rfl, List.forall_mem_cons.mpr ⟨ze_s (by decide +kernel) rfl, List.forall_mem_cons.mpr ⟨ze_s (by decide +kernel) rfl, fun _ h => absurd h List.not_mem_nil⟩⟩⟩⟩⟩⟩
theorem zo_X11_said : z_Mok zTB zNT vwCl zTF zDF zP zm_X11_said := ⟨by decide +kernel, zo_X11_said_0⟩
set_option maxRecDepth 20000 in
theorem zo_X12_said_0 : ∀ en ∈ ([(0, .aload_n 0, []), (1, .iconst 0, []), (2, .putfield 1, [12, 0]), (5, .aload_n 0, []), (6, .getfield 33, [12, 6]), (9, .bipush 118, []), (11, .iaload, []), (12, .ifCond .eq 8, []), (20, .iconst (-1), []), (21, .ireturn, [])] : List zE), z_en zTB zNT vwCl zTF zDF zP ⟨"HeldCoatsModel", "said", "(I)I"⟩ prog_14_method_114_code en := List.forall_mem_cons.mpr ⟨ze_s (by decide +kernel) rfl, List.forall_mem_cons.mpr ⟨ze_s (by decide +kernel) rfl, List.forall_mem_cons.mpr ⟨ze_put (by decide +kernel) zK_12 (by decide) zw_1399 (Or.inl rfl), List.forall_mem_cons.mpr ⟨ze_s (by decide +kernel) rfl, List.forall_mem_cons.mpr ⟨ze_get (by decide +kernel) zK_12 (by decide) zw_1405, List.forall_mem_cons.mpr ⟨ze_s (by decide +kernel) rfl, List.forall_mem_cons.mpr ⟨ze_s (by decide +kernel) rfl, List.forall_mem_cons.mpr ⟨ze_s (by decide +kernel) rfl, List.forall_mem_cons.mpr ⟨ze_s (by decide +kernel) rfl, List.forall_mem_cons.mpr ⟨ze_s (by decide +kernel) rfl, fun _ h => absurd h List.not_mem_nil⟩⟩⟩⟩⟩⟩⟩⟩⟩⟩
theorem zo_X12_said : z_Mok zTB zNT vwCl zTF zDF zP zm_X12_said := ⟨by decide +kernel, zo_X12_said_0⟩
set_option maxRecDepth 20000 in
theorem zo_X11_image_0 : ∀ en ∈ ([(0, .iload_n 1, []), (1, .ifCond .lt 8, []), (4, .iload_n 1, []), (5, .iconst 2, []), (6, .if_icmp .lt 5, []), (9, .iconst 0, []), (10, .ireturn, []), (11, .aload_n 0, []), (12, .getfield 80, [11, 9]), (15, .iload_n 1, []), (16, .aaload, []), (17, .aload_n 0, []), (18, .getfield 19, [11, 1]), (21, .aload_n 0, []), (22, .getfield 37, [11, 3]), (25, .aload_n 0, []), (26, .getfield 51, [11, 5]), (29, .invokevirtual 367, [1, 164, 2]), (32, .iconst 1, []), (33, .ireturn, [])] : List zE), z_en zTB zNT vwCl zTF zDF zP ⟨"HeldCoats", "image", "(I)Z"⟩ prog_1_method_40_code en := List.forall_mem_cons.mpr ⟨ze_s (by decide +kernel) rfl, List.forall_mem_cons.mpr ⟨ze_s (by decide +kernel) rfl, List.forall_mem_cons.mpr ⟨ze_s (by decide +kernel) rfl, List.forall_mem_cons.mpr ⟨ze_s (by decide +kernel) rfl, List.forall_mem_cons.mpr ⟨ze_s (by decide +kernel) rfl, List.forall_mem_cons.mpr ⟨ze_s (by decide +kernel) rfl, List.forall_mem_cons.mpr ⟨ze_s (by decide +kernel) rfl, List.forall_mem_cons.mpr ⟨ze_s (by decide +kernel) rfl, List.forall_mem_cons.mpr ⟨ze_get (by decide +kernel) zK_11 (by decide) zw_540, List.forall_mem_cons.mpr ⟨ze_s (by decide +kernel) rfl, List.forall_mem_cons.mpr ⟨ze_s (by decide +kernel) rfl, List.forall_mem_cons.mpr ⟨ze_s (by decide +kernel) rfl, List.forall_mem_cons.mpr ⟨ze_get (by decide +kernel) zK_11 (by decide) zw_532, List.forall_mem_cons.mpr ⟨ze_s (by decide +kernel) rfl, List.forall_mem_cons.mpr ⟨ze_get (by decide +kernel) zK_11 (by decide) zw_534, List.forall_mem_cons.mpr ⟨ze_s (by decide +kernel) rfl, List.forall_mem_cons.mpr ⟨ze_get (by decide +kernel) zK_11 (by decide) zw_536, List.forall_mem_cons.mpr ⟨ze_cv (by decide +kernel) (by rfl) zY_X2_take (Or.inl zw_1242) zw_1243 zw_1244 rfl, List.forall_mem_cons.mpr ⟨ze_s (by decide +kernel) rfl, List.forall_mem_cons.mpr ⟨ze_s (by decide +kernel) rfl, fun _ h => absurd h List.not_mem_nil⟩⟩⟩⟩⟩⟩⟩⟩⟩⟩⟩⟩⟩⟩⟩⟩⟩⟩⟩⟩
theorem zo_X11_image : z_Mok zTB zNT vwCl zTF zDF zP zm_X11_image := ⟨by decide +kernel, zo_X11_image_0⟩
set_option maxRecDepth 20000 in
theorem zo_X12_image_0 : ∀ en ∈ ([(0, .aload_n 0, []), (1, .iconst 0, []), (2, .putfield 1, [12, 0]), (5, .iload_n 1, []), (6, .iconst 0, []), (7, .iconst 1, []), (8, .invokestatic 171, [1, 45]), (11, .ifCond .ne 5, []), (14, .iconst 0, []), (15, .ireturn, []), (16, .iconst 0, []), (17, .istore_n 2, []), (18, .iload_n 2, []), (19, .sipush 299, []), (22, .if_icmp .ge 27, []), (25, .aload_n 0, []), (26, .getfield 69, [12, 46]), (29, .sipush 299, []), (32, .iload_n 1, []), (33, .imul, []), (34, .iload_n 2, []), (35, .iadd, []), (36, .aload_n 0, []), (37, .getfield 33, [12, 6]), (40, .iload_n 2, []), (41, .iaload, []), (42, .iastore, []), (43, .iinc 2 1, []), (46, .goto (-28), []), (49, .iconst 0, [])] : List zE), z_en zTB zNT vwCl zTF zDF zP ⟨"HeldCoatsModel", "image", "(I)Z"⟩ prog_14_method_115_code en := List.forall_mem_cons.mpr ⟨ze_s (by decide +kernel) rfl, List.forall_mem_cons.mpr ⟨ze_s (by decide +kernel) rfl, List.forall_mem_cons.mpr ⟨ze_put (by decide +kernel) zK_12 (by decide) zw_1399 (Or.inl rfl), List.forall_mem_cons.mpr ⟨ze_s (by decide +kernel) rfl, List.forall_mem_cons.mpr ⟨ze_s (by decide +kernel) rfl, List.forall_mem_cons.mpr ⟨ze_s (by decide +kernel) rfl, List.forall_mem_cons.mpr ⟨ze_cs (by decide +kernel) (by rfl) zY_X12_isIn (Or.inl zw_1602) zw_1603, List.forall_mem_cons.mpr ⟨ze_s (by decide +kernel) rfl, List.forall_mem_cons.mpr ⟨ze_s (by decide +kernel) rfl, List.forall_mem_cons.mpr ⟨ze_s (by decide +kernel) rfl, List.forall_mem_cons.mpr ⟨ze_s (by decide +kernel) rfl, List.forall_mem_cons.mpr ⟨ze_s (by decide +kernel) rfl, List.forall_mem_cons.mpr ⟨ze_s (by decide +kernel) rfl, List.forall_mem_cons.mpr ⟨ze_s (by decide +kernel) rfl, List.forall_mem_cons.mpr ⟨ze_s (by decide +kernel) rfl, List.forall_mem_cons.mpr ⟨ze_s (by decide +kernel) rfl, List.forall_mem_cons.mpr ⟨ze_get (by decide +kernel) zK_12 (by decide) zw_1445, List.forall_mem_cons.mpr ⟨ze_s (by decide +kernel) rfl, List.forall_mem_cons.mpr ⟨ze_s (by decide +kernel) rfl, List.forall_mem_cons.mpr ⟨ze_s (by decide +kernel) rfl, List.forall_mem_cons.mpr ⟨ze_s (by decide +kernel) rfl, List.forall_mem_cons.mpr ⟨ze_s (by decide +kernel) rfl, List.forall_mem_cons.mpr ⟨ze_s (by decide +kernel) rfl, List.forall_mem_cons.mpr ⟨ze_get (by decide +kernel) zK_12 (by decide) zw_1405, List.forall_mem_cons.mpr ⟨ze_s (by decide +kernel) rfl, List.forall_mem_cons.mpr ⟨ze_s (by decide +kernel) rfl, List.forall_mem_cons.mpr ⟨ze_s (by decide +kernel) rfl, List.forall_mem_cons.mpr ⟨ze_s (by decide +kernel) rfl, List.forall_mem_cons.mpr ⟨ze_s (by decide +kernel) rfl, List.forall_mem_cons.mpr ⟨ze_s (by decide +kernel) rfl, fun _ h => absurd h List.not_mem_nil⟩⟩⟩⟩⟩⟩⟩⟩⟩⟩⟩⟩⟩⟩⟩⟩⟩⟩⟩⟩⟩⟩⟩⟩⟩⟩⟩⟩⟩⟩
set_option maxRecDepth 20000 in
theorem zo_X12_image_1 : ∀ en ∈ ([(50, .istore_n 2, []), (51, .iload_n 2, []), (52, .bipush 22, []), (54, .if_icmp .ge 26, []), (57, .aload_n 0, []), (58, .getfield 72, [12, 47]), (61, .bipush 22, []), (63, .iload_n 1, []), (64, .imul, []), (65, .iload_n 2, []), (66, .iadd, []), (67, .aload_n 0, []), (68, .getfield 43, [12, 9]), (71, .iload_n 2, []), (72, .laload, []), (73, .lastore, []), (74, .iinc 2 1, []), (77, .goto (-26), []), (80, .aload_n 0, []), (81, .getfield 75, [12, 48]), (84, .iload_n 1, []), (85, .iconst 1, []), (86, .bastore, []), (87, .iconst 1, []), (88, .ireturn, [])] : List zE), z_en zTB zNT vwCl zTF zDF zP ⟨"HeldCoatsModel", "image", "(I)Z"⟩ prog_14_method_115_code en := List.forall_mem_cons.mpr ⟨ze_s (by decide +kernel) rfl, List.forall_mem_cons.mpr ⟨ze_s (by decide +kernel) rfl, List.forall_mem_cons.mpr ⟨ze_s (by decide +kernel) rfl, List.forall_mem_cons.mpr ⟨ze_s (by decide +kernel) rfl, List.forall_mem_cons.mpr ⟨ze_s (by decide +kernel) rfl, List.forall_mem_cons.mpr ⟨ze_get (by decide +kernel) zK_12 (by decide) zw_1446, List.forall_mem_cons.mpr ⟨ze_s (by decide +kernel) rfl, List.forall_mem_cons.mpr ⟨ze_s (by decide +kernel) rfl, List.forall_mem_cons.mpr ⟨ze_s (by decide +kernel) rfl, List.forall_mem_cons.mpr ⟨ze_s (by decide +kernel) rfl, List.forall_mem_cons.mpr ⟨ze_s (by decide +kernel) rfl, List.forall_mem_cons.mpr ⟨ze_s (by decide +kernel) rfl, List.forall_mem_cons.mpr ⟨ze_get (by decide +kernel) zK_12 (by decide) zw_1408, List.forall_mem_cons.mpr ⟨ze_s (by decide +kernel) rfl, List.forall_mem_cons.mpr ⟨ze_s (by decide +kernel) rfl, List.forall_mem_cons.mpr ⟨ze_s (by decide +kernel) rfl, List.forall_mem_cons.mpr ⟨ze_s (by decide +kernel) rfl, List.forall_mem_cons.mpr ⟨ze_s (by decide +kernel) rfl, List.forall_mem_cons.mpr ⟨ze_s (by decide +kernel) rfl, List.forall_mem_cons.mpr ⟨ze_get (by decide +kernel) zK_12 (by decide) zw_1447, List.forall_mem_cons.mpr ⟨ze_s (by decide +kernel) rfl, List.forall_mem_cons.mpr ⟨ze_s (by decide +kernel) rfl, List.forall_mem_cons.mpr ⟨ze_s (by decide +kernel) rfl, List.forall_mem_cons.mpr ⟨ze_s (by decide +kernel) rfl, List.forall_mem_cons.mpr ⟨ze_s (by decide +kernel) rfl, fun _ h => absurd h List.not_mem_nil⟩⟩⟩⟩⟩⟩⟩⟩⟩⟩⟩⟩⟩⟩⟩⟩⟩⟩⟩⟩⟩⟩⟩⟩⟩
theorem zo_X12_image : z_Mok zTB zNT vwCl zTF zDF zP zm_X12_image := ⟨by decide +kernel, List.forall_mem_append.mpr ⟨zo_X12_image_0, zo_X12_image_1⟩⟩
set_option maxRecDepth 20000 in
theorem zo_X2_take_0 : ∀ en ∈ ([(0, .aload_n 0, []), (1, .getfield 10, [2, 0]), (4, .aload_n 1, []), (5, .invokevirtual 32, [1, 29, 3]), (8, .aload_n 0, []), (9, .getfield 21, [2, 1]), (12, .aload_n 2, []), (13, .invokevirtual 35, [1, 75, 9]), (16, .aload_n 0, []), (17, .getfield 28, [2, 2]), (20, .aload_n 3, []), (21, .invokevirtual 38, [1, 165, 7]), (24, .aload_n 0, []), (25, .iconst 1, []), (26, .putfield 41, [2, 3]), (29, .return_, [])] : List zE), z_en zTB zNT vwCl zTF zDF zP ⟨"HeldCoats$Image", "take", "(LHeldCoats$Law;LHeldCoats$State;LHeldCoats$Sentence;)V"⟩ prog_4_method_2_code en := List.forall_mem_cons.mpr ⟨ze_s (by decide +kernel) rfl, List.forall_mem_cons.mpr ⟨ze_get (by decide +kernel) zK_2 (by decide) zw_517, List.forall_mem_cons.mpr ⟨ze_s (by decide +kernel) rfl, List.forall_mem_cons.mpr ⟨ze_cv (by decide +kernel) (by rfl) zY_X3_copyFrom (Or.inl zw_1246) zw_685 zw_686 rfl, List.forall_mem_cons.mpr ⟨ze_s (by decide +kernel) rfl, List.forall_mem_cons.mpr ⟨ze_get (by decide +kernel) zK_2 (by decide) zw_518, List.forall_mem_cons.mpr ⟨ze_s (by decide +kernel) rfl, List.forall_mem_cons.mpr ⟨ze_cv (by decide +kernel) (by rfl) zY_X9_copyFrom (Or.inl zw_1247) zw_783 zw_784 rfl, List.forall_mem_cons.mpr ⟨ze_s (by decide +kernel) rfl, List.forall_mem_cons.mpr ⟨ze_get (by decide +kernel) zK_2 (by decide) zw_519, List.forall_mem_cons.mpr ⟨ze_s (by decide +kernel) rfl, List.forall_mem_cons.mpr ⟨ze_cv (by decide +kernel) (by rfl) zY_X7_copyFrom (Or.inl zw_1248) zw_1203 zw_1204 rfl, List.forall_mem_cons.mpr ⟨ze_s (by decide +kernel) rfl, List.forall_mem_cons.mpr ⟨ze_s (by decide +kernel) rfl, List.forall_mem_cons.mpr ⟨ze_put (by decide +kernel) zK_2 (by decide) zw_520 (Or.inl rfl), List.forall_mem_cons.mpr ⟨ze_s (by decide +kernel) rfl, fun _ h => absurd h List.not_mem_nil⟩⟩⟩⟩⟩⟩⟩⟩⟩⟩⟩⟩⟩⟩⟩⟩
theorem zo_X2_take : z_Mok zTB zNT vwCl zTF zDF zP zm_X2_take := ⟨by decide +kernel, zo_X2_take_0⟩
set_option maxRecDepth 20000 in
theorem zo_X7_copyFrom_0 : ∀ en ∈ ([(0, .aload_n 1, []), (1, .getfield 11, [7, 0]), (4, .iconst 0, []), (5, .aload_n 0, []), (6, .getfield 11, [7, 0]), (9, .iconst 0, []), (10, .bipush 40, []), (12, .invokestatic 31, [0]), (15, .aload_n 1, []), (16, .getfield 15, [7, 1]), (19, .iconst 0, []), (20, .aload_n 0, []), (21, .getfield 15, [7, 1]), (24, .iconst 0, []), (25, .bipush 40, []), (27, .invokestatic 31, [0]), (30, .aload_n 1, []), (31, .getfield 18, [7, 2]), (34, .iconst 0, []), (35, .aload_n 0, []), (36, .getfield 18, [7, 2]), (39, .iconst 0, []), (40, .bipush 40, []), (42, .invokestatic 31, [0]), (45, .aload_n 0, []), (46, .aload_n 1, []), (47, .getfield 24, [7, 4]), (50, .putfield 24, [7, 4]), (53, .aload_n 0, []), (54, .aload_n 1, [])] : List zE), z_en zTB zNT vwCl zTF zDF zP ⟨"HeldCoats$Sentence", "copyFrom", "(LHeldCoats$Sentence;)V"⟩ prog_9_method_3_code en := List.forall_mem_cons.mpr ⟨ze_s (by decide +kernel) rfl, List.forall_mem_cons.mpr ⟨ze_get (by decide +kernel) zK_7 (by decide) zw_381, List.forall_mem_cons.mpr ⟨ze_s (by decide +kernel) rfl, List.forall_mem_cons.mpr ⟨ze_s (by decide +kernel) rfl, List.forall_mem_cons.mpr ⟨ze_get (by decide +kernel) zK_7 (by decide) zw_381, List.forall_mem_cons.mpr ⟨ze_s (by decide +kernel) rfl, List.forall_mem_cons.mpr ⟨ze_s (by decide +kernel) rfl, List.forall_mem_cons.mpr ⟨ze_cp (by decide +kernel) zw_1206 zw_690 zw_689 zw_18, List.forall_mem_cons.mpr ⟨ze_s (by decide +kernel) rfl, List.forall_mem_cons.mpr ⟨ze_get (by decide +kernel) zK_7 (by decide) zw_382, List.forall_mem_cons.mpr ⟨ze_s (by decide +kernel) rfl, List.forall_mem_cons.mpr ⟨ze_s (by decide +kernel) rfl, List.forall_mem_cons.mpr ⟨ze_get (by decide +kernel) zK_7 (by decide) zw_382, List.forall_mem_cons.mpr ⟨ze_s (by decide +kernel) rfl, List.forall_mem_cons.mpr ⟨ze_s (by decide +kernel) rfl, List.forall_mem_cons.mpr ⟨ze_cp (by decide +kernel) zw_1206 zw_690 zw_689 zw_18, List.forall_mem_cons.mpr ⟨ze_s (by decide +kernel) rfl, List.forall_mem_cons.mpr ⟨ze_get (by decide +kernel) zK_7 (by decide) zw_383, List.forall_mem_cons.mpr ⟨ze_s (by decide +kernel) rfl, List.forall_mem_cons.mpr ⟨ze_s (by decide +kernel) rfl, List.forall_mem_cons.mpr ⟨ze_get (by decide +kernel) zK_7 (by decide) zw_383, List.forall_mem_cons.mpr ⟨ze_s (by decide +kernel) rfl, List.forall_mem_cons.mpr ⟨ze_s (by decide +kernel) rfl, List.forall_mem_cons.mpr ⟨ze_cp (by decide +kernel) zw_1206 zw_690 zw_689 zw_18, List.forall_mem_cons.mpr ⟨ze_s (by decide +kernel) rfl, List.forall_mem_cons.mpr ⟨ze_s (by decide +kernel) rfl, List.forall_mem_cons.mpr ⟨ze_get (by decide +kernel) zK_7 (by decide) zw_385, List.forall_mem_cons.mpr ⟨ze_put (by decide +kernel) zK_7 (by decide) zw_385 (Or.inl rfl), List.forall_mem_cons.mpr ⟨ze_s (by decide +kernel) rfl, List.forall_mem_cons.mpr ⟨ze_s (by decide +kernel) rfl, fun _ h => absurd h List.not_mem_nil⟩⟩⟩⟩⟩⟩⟩⟩⟩⟩⟩⟩⟩⟩⟩⟩⟩⟩⟩⟩⟩⟩⟩⟩⟩⟩⟩⟩⟩⟩
set_option maxRecDepth 20000 in
theorem zo_X7_copyFrom_1 : ∀ en ∈ ([(55, .getfield 28, [7, 5]), (58, .putfield 28, [7, 5]), (61, .return_, [])] : List zE), z_en zTB zNT vwCl zTF zDF zP ⟨"HeldCoats$Sentence", "copyFrom", "(LHeldCoats$Sentence;)V"⟩ prog_9_method_3_code en := List.forall_mem_cons.mpr ⟨ze_get (by decide +kernel) zK_7 (by decide) zw_386, List.forall_mem_cons.mpr ⟨ze_put (by decide +kernel) zK_7 (by decide) zw_386 (Or.inl rfl), List.forall_mem_cons.mpr ⟨ze_s (by decide +kernel) rfl, fun _ h => absurd h List.not_mem_nil⟩⟩⟩
theorem zo_X7_copyFrom : z_Mok zTB zNT vwCl zTF zDF zP zm_X7_copyFrom := ⟨by decide +kernel, List.forall_mem_append.mpr ⟨zo_X7_copyFrom_0, zo_X7_copyFrom_1⟩⟩
set_option maxRecDepth 20000 in
theorem zo_X11_restore_0 : ∀ en ∈ ([(0, .iload_n 1, []), (1, .ifCond .lt 20, []), (4, .iload_n 1, []), (5, .iconst 2, []), (6, .if_icmp .ge 15, []), (9, .aload_n 0, []), (10, .getfield 80, [11, 9]), (13, .iload_n 1, []), (14, .aaload, []), (15, .getfield 371, [2, 3]), (18, .ifCond .ne 5, []), (21, .iconst 0, []), (22, .ireturn, [])] : List zE), z_en zTB zNT vwCl zTF zDF zP ⟨"HeldCoats", "restore", "(I)Z"⟩ prog_1_method_41_code en := List.forall_mem_cons.mpr ⟨ze_s (by decide +kernel) rfl, List.forall_mem_cons.mpr ⟨ze_s (by decide +kernel) rfl, List.forall_mem_cons.mpr ⟨ze_s (by decide +kernel) rfl, List.forall_mem_cons.mpr ⟨ze_s (by decide +kernel) rfl, List.forall_mem_cons.mpr ⟨ze_s (by decide +kernel) rfl, List.forall_mem_cons.mpr ⟨ze_s (by decide +kernel) rfl, List.forall_mem_cons.mpr ⟨ze_get (by decide +kernel) zK_11 (by decide) zw_540, List.forall_mem_cons.mpr ⟨ze_s (by decide +kernel) rfl, List.forall_mem_cons.mpr ⟨ze_s (by decide +kernel) rfl, List.forall_mem_cons.mpr ⟨ze_get (by decide +kernel) zK_2 (by decide) zw_521, List.forall_mem_cons.mpr ⟨ze_s (by decide +kernel) rfl, List.forall_mem_cons.mpr ⟨ze_s (by decide +kernel) rfl, List.forall_mem_cons.mpr ⟨ze_s (by decide +kernel) rfl, fun _ h => absurd h List.not_mem_nil⟩⟩⟩⟩⟩⟩⟩⟩⟩⟩⟩⟩⟩
theorem zo_X11_restore : z_Mok zTB zNT vwCl zTF zDF zP zm_X11_restore := ⟨by decide +kernel, zo_X11_restore_0⟩
set_option maxRecDepth 20000 in
theorem zo_X12_restore_0 : ∀ en ∈ ([(0, .aload_n 0, []), (1, .iconst 0, []), (2, .putfield 1, [12, 0]), (5, .iload_n 1, []), (6, .iconst 0, []), (7, .iconst 1, []), (8, .invokestatic 171, [1, 45]), (11, .ifCond .eq 12, []), (14, .aload_n 0, []), (15, .getfield 75, [12, 48]), (18, .iload_n 1, []), (19, .baload, []), (20, .ifCond .ne 5, []), (23, .iconst 0, []), (24, .ireturn, [])] : List zE), z_en zTB zNT vwCl zTF zDF zP ⟨"HeldCoatsModel", "restore", "(I)Z"⟩ prog_14_method_116_code en := List.forall_mem_cons.mpr ⟨ze_s (by decide +kernel) rfl, List.forall_mem_cons.mpr ⟨ze_s (by decide +kernel) rfl, List.forall_mem_cons.mpr ⟨ze_put (by decide +kernel) zK_12 (by decide) zw_1399 (Or.inl rfl), List.forall_mem_cons.mpr ⟨ze_s (by decide +kernel) rfl, List.forall_mem_cons.mpr ⟨ze_s (by decide +kernel) rfl, List.forall_mem_cons.mpr ⟨ze_s (by decide +kernel) rfl, List.forall_mem_cons.mpr ⟨ze_cs (by decide +kernel) (by rfl) zY_X12_isIn (Or.inl zw_1602) zw_1603, List.forall_mem_cons.mpr ⟨ze_s (by decide +kernel) rfl, List.forall_mem_cons.mpr ⟨ze_s (by decide +kernel) rfl, List.forall_mem_cons.mpr ⟨ze_get (by decide +kernel) zK_12 (by decide) zw_1447, List.forall_mem_cons.mpr ⟨ze_s (by decide +kernel) rfl, List.forall_mem_cons.mpr ⟨ze_s (by decide +kernel) rfl, List.forall_mem_cons.mpr ⟨ze_s (by decide +kernel) rfl, List.forall_mem_cons.mpr ⟨ze_s (by decide +kernel) rfl, List.forall_mem_cons.mpr ⟨ze_s (by decide +kernel) rfl, fun _ h => absurd h List.not_mem_nil⟩⟩⟩⟩⟩⟩⟩⟩⟩⟩⟩⟩⟩⟩⟩
theorem zo_X12_restore : z_Mok zTB zNT vwCl zTF zDF zP zm_X12_restore := ⟨by decide +kernel, zo_X12_restore_0⟩
set_option maxRecDepth 20000 in
theorem zo_X11_count_0 : ∀ en ∈ ([(0, .iload_n 1, []), (1, .tableswitch 111 0 7 #[47, 55, 63, 71, 79, 87, 95, 103], [47]), (48, .aload_n 0, []), (49, .getfield 19, [11, 1]), (52, .getfield 378, [3, 0]), (55, .ireturn, []), (56, .aload_n 0, []), (57, .getfield 19, [11, 1]), (60, .getfield 381, [3, 1]), (63, .ireturn, []), (64, .aload_n 0, []), (65, .getfield 19, [11, 1]), (68, .getfield 307, [3, 2]), (71, .ireturn, []), (72, .aload_n 0, []), (73, .getfield 19, [11, 1]), (76, .getfield 384, [3, 4]), (79, .ireturn, []), (80, .aload_n 0, []), (81, .getfield 19, [11, 1]), (84, .getfield 387, [3, 5]), (87, .ireturn, []), (88, .aload_n 0, []), (89, .getfield 19, [11, 1]), (92, .getfield 390, [3, 6]), (95, .ireturn, []), (96, .aload_n 0, []), (97, .getfield 19, [11, 1]), (100, .getfield 393, [3, 7]), (103, .ireturn, [])] : List zE), z_en zTB zNT vwCl zTF zDF zP ⟨"HeldCoats", "count", "(I)I"⟩ prog_1_method_42_code en := List.forall_mem_cons.mpr ⟨ze_s (by decide +kernel) rfl, List.forall_mem_cons.mpr ⟨ze_s (by decide +kernel) rfl, List.forall_mem_cons.mpr ⟨ze_s (by decide +kernel) rfl, List.forall_mem_cons.mpr ⟨ze_get (by decide +kernel) zK_11 (by decide) zw_532, List.forall_mem_cons.mpr ⟨ze_get (by decide +kernel) zK_3 (by decide) zw_178, List.forall_mem_cons.mpr ⟨ze_s (by decide +kernel) rfl, List.forall_mem_cons.mpr ⟨ze_s (by decide +kernel) rfl, List.forall_mem_cons.mpr ⟨ze_get (by decide +kernel) zK_11 (by decide) zw_532, List.forall_mem_cons.mpr ⟨ze_get (by decide +kernel) zK_3 (by decide) zw_183, List.forall_mem_cons.mpr ⟨ze_s (by decide +kernel) rfl, List.forall_mem_cons.mpr ⟨ze_s (by decide +kernel) rfl, List.forall_mem_cons.mpr ⟨ze_get (by decide +kernel) zK_11 (by decide) zw_532, List.forall_mem_cons.mpr ⟨ze_get (by decide +kernel) zK_3 (by decide) zw_188, List.forall_mem_cons.mpr ⟨ze_s (by decide +kernel) rfl, List.forall_mem_cons.mpr ⟨ze_s (by decide +kernel) rfl, List.forall_mem_cons.mpr ⟨ze_get (by decide +kernel) zK_11 (by decide) zw_532, List.forall_mem_cons.mpr ⟨ze_get (by decide +kernel) zK_3 (by decide) zw_193, List.forall_mem_cons.mpr ⟨ze_s (by decide +kernel) rfl, List.forall_mem_cons.mpr ⟨ze_s (by decide +kernel) rfl, List.forall_mem_cons.mpr ⟨ze_get (by decide +kernel) zK_11 (by decide) zw_532, List.forall_mem_cons.mpr ⟨ze_get (by decide +kernel) zK_3 (by decide) zw_197, List.forall_mem_cons.mpr ⟨ze_s (by decide +kernel) rfl, List.forall_mem_cons.mpr ⟨ze_s (by decide +kernel) rfl, List.forall_mem_cons.mpr ⟨ze_get (by decide +kernel) zK_11 (by decide) zw_532, List.forall_mem_cons.mpr ⟨ze_get (by decide +kernel) zK_3 (by decide) zw_201, List.forall_mem_cons.mpr ⟨ze_s (by decide +kernel) rfl, List.forall_mem_cons.mpr ⟨ze_s (by decide +kernel) rfl, List.forall_mem_cons.mpr ⟨ze_get (by decide +kernel) zK_11 (by decide) zw_532, List.forall_mem_cons.mpr ⟨ze_get (by decide +kernel) zK_3 (by decide) zw_205, List.forall_mem_cons.mpr ⟨ze_s (by decide +kernel) rfl, fun _ h => absurd h List.not_mem_nil⟩⟩⟩⟩⟩⟩⟩⟩⟩⟩⟩⟩⟩⟩⟩⟩⟩⟩⟩⟩⟩⟩⟩⟩⟩⟩⟩⟩⟩⟩
set_option maxRecDepth 20000 in
theorem zo_X11_count_1 : ∀ en ∈ ([(104, .aload_n 0, []), (105, .getfield 10, [11, 0]), (108, .getfield 85, [10, 2]), (111, .ireturn, []), (112, .iconst (-1), []), (113, .ireturn, [])] : List zE), z_en zTB zNT vwCl zTF zDF zP ⟨"HeldCoats", "count", "(I)I"⟩ prog_1_method_42_code en := List.forall_mem_cons.mpr ⟨ze_s (by decide +kernel) rfl, List.forall_mem_cons.mpr ⟨ze_get (by decide +kernel) zK_11 (by decide) zw_531, List.forall_mem_cons.mpr ⟨ze_get (by decide +kernel) zK_10 (by decide) zw_93, List.forall_mem_cons.mpr ⟨ze_s (by decide +kernel) rfl, List.forall_mem_cons.mpr ⟨ze_s (by decide +kernel) rfl, List.forall_mem_cons.mpr ⟨ze_s (by decide +kernel) rfl, fun _ h => absurd h List.not_mem_nil⟩⟩⟩⟩⟩⟩
theorem zo_X11_count : z_Mok zTB zNT vwCl zTF zDF zP zm_X11_count := ⟨by decide +kernel, List.forall_mem_append.mpr ⟨zo_X11_count_0, zo_X11_count_1⟩⟩
set_option maxRecDepth 20000 in
theorem zo_X12_count_0 : ∀ en ∈ ([(0, .aload_n 0, []), (1, .iconst 0, []), (2, .putfield 1, [12, 0]), (5, .iload_n 1, []), (6, .bipush 7, []), (8, .if_icmp .ne 10, []), (11, .aload_n 0, []), (12, .getfield 7, [12, 2]), (15, .goto 23, []), (18, .iload_n 1, []), (19, .iconst 0, []), (20, .bipush 6, []), (22, .invokestatic 171, [1, 45]), (25, .ifCond .eq 12, []), (28, .aload_n 0, []), (29, .getfield 33, [12, 6]), (32, .iload_n 1, []), (33, .iaload, []), (34, .goto 4, []), (37, .iconst (-1), []), (38, .ireturn, [])] : List zE), z_en zTB zNT vwCl zTF zDF zP ⟨"HeldCoatsModel", "count", "(I)I"⟩ prog_14_method_117_code en := List.forall_mem_cons.mpr ⟨ze_s (by decide +kernel) rfl, List.forall_mem_cons.mpr ⟨ze_s (by decide +kernel) rfl, List.forall_mem_cons.mpr ⟨ze_put (by decide +kernel) zK_12 (by decide) zw_1399 (Or.inl rfl), List.forall_mem_cons.mpr ⟨ze_s (by decide +kernel) rfl, List.forall_mem_cons.mpr ⟨ze_s (by decide +kernel) rfl, List.forall_mem_cons.mpr ⟨ze_s (by decide +kernel) rfl, List.forall_mem_cons.mpr ⟨ze_s (by decide +kernel) rfl, List.forall_mem_cons.mpr ⟨ze_get (by decide +kernel) zK_12 (by decide) zw_1401, List.forall_mem_cons.mpr ⟨ze_s (by decide +kernel) rfl, List.forall_mem_cons.mpr ⟨ze_s (by decide +kernel) rfl, List.forall_mem_cons.mpr ⟨ze_s (by decide +kernel) rfl, List.forall_mem_cons.mpr ⟨ze_s (by decide +kernel) rfl, List.forall_mem_cons.mpr ⟨ze_cs (by decide +kernel) (by rfl) zY_X12_isIn (Or.inl zw_1602) zw_1603, List.forall_mem_cons.mpr ⟨ze_s (by decide +kernel) rfl, List.forall_mem_cons.mpr ⟨ze_s (by decide +kernel) rfl, List.forall_mem_cons.mpr ⟨ze_get (by decide +kernel) zK_12 (by decide) zw_1405, List.forall_mem_cons.mpr ⟨ze_s (by decide +kernel) rfl, List.forall_mem_cons.mpr ⟨ze_s (by decide +kernel) rfl, List.forall_mem_cons.mpr ⟨ze_s (by decide +kernel) rfl, List.forall_mem_cons.mpr ⟨ze_s (by decide +kernel) rfl, List.forall_mem_cons.mpr ⟨ze_s (by decide +kernel) rfl, fun _ h => absurd h List.not_mem_nil⟩⟩⟩⟩⟩⟩⟩⟩⟩⟩⟩⟩⟩⟩⟩⟩⟩⟩⟩⟩⟩
theorem zo_X12_count : z_Mok zTB zNT vwCl zTF zDF zP zm_X12_count := ⟨by decide +kernel, zo_X12_count_0⟩
end
section
def zt_law0 : List zE := [(0, .new 8, [11, 11]), (3, .dup, []), (4, .invokespecial 18, [9999]), (7, .astore_n 1, []), (8, .new 19, [12, 49]), (11, .dup, []), (12, .invokespecial 21, [1, 13]), (15, .astore_n 2, []), (16, .iconst 1, []), (17, .newarray .long, []), (19, .astore_n 3, []), (20, .iconst 0, []), (21, .istore 4, []), (23, .iload 4, []), (25, .aload_n 0, []), (26, .arraylength, []), (27, .bipush 6, []), (29, .isub, []), (30, .if_icmp .gt 1379, []), (33, .aload_n 0, []), (34, .iload 4, []), (36, .iaload, []), (37, .bipush 63, []), (39, .iand, []), (40, .tableswitch 1363 0 40 #[180, 253, 278, 291, 304, 341, 409, 477, 502, 539, 576, 613, 638, 663, 676, 713, 726, 787, 800, 825, 850, 875, 912, 949, 974, 987, 1012, 1049, 1062, 1075, 1088, 1101, 1114, 1151, 1200, 1225, 1250, 1263, 1288, 1313, 1338], [180, 9999]), (220, .aload_n 1, []), (221, .aload_n 0, []), (222, .iload 4, []), (224, .iconst 1, []), (225, .iadd, []), (226, .iaload, []), (227, .aload_n 0, []), (228, .iload 4, []), (230, .iconst 2, []), (231, .iadd, []), (232, .iaload, []), (233, .aload_n 0, []), (234, .iload 4, []), (236, .iconst 3, []), (237, .iadd, []), (238, .iaload, []), (239, .aload_n 0, []), (240, .iload 4, []), (242, .iconst 4, []), (243, .iadd, []), (244, .iaload, []), (245, .aload_n 0, []), (246, .iload 4, []), (248, .iconst 5, []), (249, .iadd, []), (250, .iaload, []), (251, .invokevirtual 22, [1, 15, 11]), (254, .aload_n 2, []), (255, .aload_n 0, []), (256, .iload 4, []), (258, .iconst 1, []), (259, .iadd, []), (260, .iaload, []), (261, .aload_n 0, []), (262, .iload 4, []), (264, .iconst 2, []), (265, .iadd, []), (266, .iaload, []), (267, .aload_n 0, []), (268, .iload 4, []), (270, .iconst 3, []), (271, .iadd, []), (272, .iaload, []), (273, .aload_n 0, []), (274, .iload 4, []), (276, .iconst 4, []), (277, .iadd, []), (278, .iaload, []), (279, .aload_n 0, []), (280, .iload 4, []), (282, .iconst 5, []), (283, .iadd, []), (284, .iaload, []), (285, .invokevirtual 26, [1, 17, 12]), (288, .if_icmp .eq 1115, []), (293, .aload_n 1, []), (294, .aload_n 0, []), (295, .iload 4, []), (297, .iconst 1, []), (298, .iadd, []), (299, .iaload, []), (300, .invokevirtual 27, [1, 19, 11]), (303, .aload_n 2, []), (304, .aload_n 0, []), (305, .iload 4, [])]
set_option maxRecDepth 20000 in
theorem zo_law0 : ∀ en ∈ zt_law0, z_en zTB zNT vwCl zTF zDF zP x code en := List.forall_mem_cons.mpr ⟨ze_new (by decide +kernel) zK_11 zw_26 zw_27 zw_1 zD_11 zDD_11, List.forall_mem_cons.mpr ⟨ze_s (by decide +kernel) rfl, List.forall_mem_cons.mpr ⟨ze_xi (by decide +kernel), List.forall_mem_cons.mpr ⟨ze_s (by decide +kernel) rfl, List.forall_mem_cons.mpr ⟨ze_new (by decide +kernel) zK_12 zw_1366 zw_1360 zw_17 zD_12 zDD_12, List.forall_mem_cons.mpr ⟨ze_s (by decide +kernel) rfl, List.forall_mem_cons.mpr ⟨ze_ci (by decide +kernel) (by rfl) zY_X12_init (Or.inl zw_1367) zw_1368 rfl, List.forall_mem_cons.mpr ⟨ze_s (by decide +kernel) rfl, List.forall_mem_cons.mpr ⟨ze_s (by decide +kernel) rfl, List.forall_mem_cons.mpr ⟨ze_newa (by decide +kernel) zw_138, List.forall_mem_cons.mpr ⟨ze_s (by decide +kernel) rfl, List.forall_mem_cons.mpr ⟨ze_s (by decide +kernel) rfl, List.forall_mem_cons.mpr ⟨ze_s (by decide +kernel) rfl, List.forall_mem_cons.mpr ⟨ze_s (by decide +kernel) rfl, List.forall_mem_cons.mpr ⟨ze_s (by decide +kernel) rfl, List.forall_mem_cons.mpr ⟨ze_s (by decide +kernel) rfl, List.forall_mem_cons.mpr ⟨ze_s (by decide +kernel) rfl, List.forall_mem_cons.mpr ⟨ze_s (by decide +kernel) rfl, List.forall_mem_cons.mpr ⟨ze_s (by decide +kernel) rfl, List.forall_mem_cons.mpr ⟨ze_s (by decide +kernel) rfl, List.forall_mem_cons.mpr ⟨ze_s (by decide +kernel) rfl, List.forall_mem_cons.mpr ⟨ze_s (by decide +kernel) rfl, List.forall_mem_cons.mpr ⟨ze_s (by decide +kernel) rfl, List.forall_mem_cons.mpr ⟨ze_s (by decide +kernel) rfl, List.forall_mem_cons.mpr ⟨ze_s (by decide +kernel) rfl, List.forall_mem_cons.mpr ⟨ze_s (by decide +kernel) rfl, List.forall_mem_cons.mpr ⟨ze_s (by decide +kernel) rfl, List.forall_mem_cons.mpr ⟨ze_s (by decide +kernel) rfl, List.forall_mem_cons.mpr ⟨ze_s (by decide +kernel) rfl, List.forall_mem_cons.mpr ⟨ze_s (by decide +kernel) rfl, List.forall_mem_cons.mpr ⟨ze_s (by decide +kernel) rfl, List.forall_mem_cons.mpr ⟨ze_s (by decide +kernel) rfl, List.forall_mem_cons.mpr ⟨ze_s (by decide +kernel) rfl, List.forall_mem_cons.mpr ⟨ze_s (by decide +kernel) rfl, List.forall_mem_cons.mpr ⟨ze_s (by decide +kernel) rfl, List.forall_mem_cons.mpr ⟨ze_s (by decide +kernel) rfl, List.forall_mem_cons.mpr ⟨ze_s (by decide +kernel) rfl, List.forall_mem_cons.mpr ⟨ze_s (by decide +kernel) rfl, List.forall_mem_cons.mpr ⟨ze_s (by decide +kernel) rfl, List.forall_mem_cons.mpr ⟨ze_s (by decide +kernel) rfl, List.forall_mem_cons.mpr ⟨ze_s (by decide +kernel) rfl, List.forall_mem_cons.mpr ⟨ze_s (by decide +kernel) rfl, List.forall_mem_cons.mpr ⟨ze_s (by decide +kernel) rfl, List.forall_mem_cons.mpr ⟨ze_s (by decide +kernel) rfl, List.forall_mem_cons.mpr ⟨ze_s (by decide +kernel) rfl, List.forall_mem_cons.mpr ⟨ze_s (by decide +kernel) rfl, List.forall_mem_cons.mpr ⟨ze_s (by decide +kernel) rfl, List.forall_mem_cons.mpr ⟨ze_s (by decide +kernel) rfl, List.forall_mem_cons.mpr ⟨ze_s (by decide +kernel) rfl, List.forall_mem_cons.mpr ⟨ze_s (by decide +kernel) rfl, List.forall_mem_cons.mpr ⟨ze_s (by decide +kernel) rfl, List.forall_mem_cons.mpr ⟨ze_cv (by decide +kernel) (by rfl) zY_X11_feed (Or.inl zw_565) zw_566 zw_567 rfl, List.forall_mem_cons.mpr ⟨ze_s (by decide +kernel) rfl, List.forall_mem_cons.mpr ⟨ze_s (by decide +kernel) rfl, List.forall_mem_cons.mpr ⟨ze_s (by decide +kernel) rfl, List.forall_mem_cons.mpr ⟨ze_s (by decide +kernel) rfl, List.forall_mem_cons.mpr ⟨ze_s (by decide +kernel) rfl, List.forall_mem_cons.mpr ⟨ze_s (by decide +kernel) rfl, List.forall_mem_cons.mpr ⟨ze_s (by decide +kernel) rfl, List.forall_mem_cons.mpr ⟨ze_s (by decide +kernel) rfl, List.forall_mem_cons.mpr ⟨ze_s (by decide +kernel) rfl, List.forall_mem_cons.mpr ⟨ze_s (by decide +kernel) rfl, List.forall_mem_cons.mpr ⟨ze_s (by decide +kernel) rfl, List.forall_mem_cons.mpr ⟨ze_s (by decide +kernel) rfl, List.forall_mem_cons.mpr ⟨ze_s (by decide +kernel) rfl, List.forall_mem_cons.mpr ⟨ze_s (by decide +kernel) rfl, List.forall_mem_cons.mpr ⟨ze_s (by decide +kernel) rfl, List.forall_mem_cons.mpr ⟨ze_s (by decide +kernel) rfl, List.forall_mem_cons.mpr ⟨ze_s (by decide +kernel) rfl, List.forall_mem_cons.mpr ⟨ze_s (by decide +kernel) rfl, List.forall_mem_cons.mpr ⟨ze_s (by decide +kernel) rfl, List.forall_mem_cons.mpr ⟨ze_s (by decide +kernel) rfl, List.forall_mem_cons.mpr ⟨ze_s (by decide +kernel) rfl, List.forall_mem_cons.mpr ⟨ze_s (by decide +kernel) rfl, List.forall_mem_cons.mpr ⟨ze_s (by decide +kernel) rfl, List.forall_mem_cons.mpr ⟨ze_s (by decide +kernel) rfl, List.forall_mem_cons.mpr ⟨ze_s (by decide +kernel) rfl, List.forall_mem_cons.mpr ⟨ze_s (by decide +kernel) rfl, List.forall_mem_cons.mpr ⟨ze_cv (by decide +kernel) (by rfl) zY_X12_feed (Or.inl zw_1353) zw_1354 zw_1355 rfl, List.forall_mem_cons.mpr ⟨ze_s (by decide +kernel) rfl, List.forall_mem_cons.mpr ⟨ze_s (by decide +kernel) rfl, List.forall_mem_cons.mpr ⟨ze_s (by decide +kernel) rfl, List.forall_mem_cons.mpr ⟨ze_s (by decide +kernel) rfl, List.forall_mem_cons.mpr ⟨ze_s (by decide +kernel) rfl, List.forall_mem_cons.mpr ⟨ze_s (by decide +kernel) rfl, List.forall_mem_cons.mpr ⟨ze_s (by decide +kernel) rfl, List.forall_mem_cons.mpr ⟨ze_cv (by decide +kernel) (by rfl) zY_X11_end (Or.inl zw_573) zw_574 zw_575 rfl, List.forall_mem_cons.mpr ⟨ze_s (by decide +kernel) rfl, List.forall_mem_cons.mpr ⟨ze_s (by decide +kernel) rfl, List.forall_mem_cons.mpr ⟨ze_s (by decide +kernel) rfl, fun _ h => absurd h List.not_mem_nil⟩⟩⟩⟩⟩⟩⟩⟩⟩⟩⟩⟩⟩⟩⟩⟩⟩⟩⟩⟩⟩⟩⟩⟩⟩⟩⟩⟩⟩⟩⟩⟩⟩⟩⟩⟩⟩⟩⟩⟩⟩⟩⟩⟩⟩⟩⟩⟩⟩⟩⟩⟩⟩⟩⟩⟩⟩⟩⟩⟩⟩⟩⟩⟩⟩⟩⟩⟩⟩⟩⟩⟩⟩⟩⟩⟩⟩⟩⟩⟩⟩⟩⟩⟩⟩⟩⟩⟩⟩⟩
end
section
def zt_law1 : List zE := [(307, .iconst 1, []), (308, .iadd, []), (309, .iaload, []), (310, .invokevirtual 31, [1, 20, 12]), (313, .if_icmp .eq 1090, []), (318, .aload_n 1, []), (319, .invokevirtual 32, [1, 21, 11]), (322, .aload_n 2, []), (323, .invokevirtual 36, [1, 35, 12]), (326, .if_icmp .eq 1077, []), (331, .aload_n 1, []), (332, .invokevirtual 37, [1, 39, 11]), (335, .aload_n 2, []), (336, .invokevirtual 40, [1, 40, 12]), (339, .if_icmp .eq 1064, []), (344, .aload_n 1, []), (345, .aload_n 0, []), (346, .iload 4, []), (348, .iconst 1, []), (349, .iadd, []), (350, .iaload, []), (351, .aload_n 0, []), (352, .iload 4, []), (354, .iconst 2, []), (355, .iadd, []), (356, .iaload, []), (357, .invokevirtual 41, [1, 41, 11]), (360, .aload_n 2, []), (361, .aload_n 0, []), (362, .iload 4, []), (364, .iconst 1, []), (365, .iadd, []), (366, .iaload, []), (367, .aload_n 0, []), (368, .iload 4, []), (370, .iconst 2, []), (371, .iadd, []), (372, .iaload, []), (373, .invokevirtual 44, [1, 43, 12]), (376, .if_icmp .eq 1027, []), (395, .invokestatic 45, [9999]), (463, .invokestatic 54, [9999]), (517, .aload_n 1, []), (518, .aload_n 0, []), (519, .iload 4, []), (521, .iconst 1, []), (522, .iadd, []), (523, .iaload, []), (524, .invokevirtual 57, [1, 46, 11]), (527, .aload_n 2, []), (528, .aload_n 0, []), (529, .iload 4, []), (531, .iconst 1, []), (532, .iadd, []), (533, .iaload, []), (534, .invokevirtual 61, [1, 47, 12]), (537, .if_icmp .eq 866, []), (542, .aload_n 1, []), (543, .aload_n 0, []), (544, .iload 4, []), (546, .iconst 1, []), (547, .iadd, []), (548, .iaload, []), (549, .aload_n 0, []), (550, .iload 4, []), (552, .iconst 2, []), (553, .iadd, []), (554, .iaload, []), (555, .invokevirtual 62, [1, 59, 11]), (558, .aload_n 2, []), (559, .aload_n 0, []), (560, .iload 4, []), (562, .iconst 1, []), (563, .iadd, []), (564, .iaload, []), (565, .aload_n 0, []), (566, .iload 4, []), (568, .iconst 2, []), (569, .iadd, []), (570, .iaload, []), (571, .invokevirtual 65, [1, 61, 12]), (574, .if_icmp .eq 829, []), (579, .aload_n 1, []), (580, .aload_n 0, []), (581, .iload 4, []), (583, .iconst 1, []), (584, .iadd, []), (585, .iaload, []), (586, .aload_n 0, []), (587, .iload 4, [])]
set_option maxRecDepth 20000 in
theorem zo_law1 : ∀ en ∈ zt_law1, z_en zTB zNT vwCl zTF zDF zP x code en := List.forall_mem_cons.mpr ⟨ze_s (by decide +kernel) rfl, List.forall_mem_cons.mpr ⟨ze_s (by decide +kernel) rfl, List.forall_mem_cons.mpr ⟨ze_s (by decide +kernel) rfl, List.forall_mem_cons.mpr ⟨ze_cv (by decide +kernel) (by rfl) zY_X12_end (Or.inl zw_1362) zw_1363 zw_1364 rfl, List.forall_mem_cons.mpr ⟨ze_s (by decide +kernel) rfl, List.forall_mem_cons.mpr ⟨ze_s (by decide +kernel) rfl, List.forall_mem_cons.mpr ⟨ze_cv (by decide +kernel) (by rfl) zY_X11_capital (Or.inl zw_577) zw_578 zw_579 rfl, List.forall_mem_cons.mpr ⟨ze_s (by decide +kernel) rfl, List.forall_mem_cons.mpr ⟨ze_cv (by decide +kernel) (by rfl) zY_X12_capital (Or.inl zw_1548) zw_1549 zw_1550 rfl, List.forall_mem_cons.mpr ⟨ze_s (by decide +kernel) rfl, List.forall_mem_cons.mpr ⟨ze_s (by decide +kernel) rfl, List.forall_mem_cons.mpr ⟨ze_cv (by decide +kernel) (by rfl) zY_X11_fault (Or.inl zw_711) zw_712 zw_713 rfl, List.forall_mem_cons.mpr ⟨ze_s (by decide +kernel) rfl, List.forall_mem_cons.mpr ⟨ze_cv (by decide +kernel) (by rfl) zY_X12_fault (Or.inl zw_1632) zw_1633 zw_1634 rfl, List.forall_mem_cons.mpr ⟨ze_s (by decide +kernel) rfl, List.forall_mem_cons.mpr ⟨ze_s (by decide +kernel) rfl, List.forall_mem_cons.mpr ⟨ze_s (by decide +kernel) rfl, List.forall_mem_cons.mpr ⟨ze_s (by decide +kernel) rfl, List.forall_mem_cons.mpr ⟨ze_s (by decide +kernel) rfl, List.forall_mem_cons.mpr ⟨ze_s (by decide +kernel) rfl, List.forall_mem_cons.mpr ⟨ze_s (by decide +kernel) rfl, List.forall_mem_cons.mpr ⟨ze_s (by decide +kernel) rfl, List.forall_mem_cons.mpr ⟨ze_s (by decide +kernel) rfl, List.forall_mem_cons.mpr ⟨ze_s (by decide +kernel) rfl, List.forall_mem_cons.mpr ⟨ze_s (by decide +kernel) rfl, List.forall_mem_cons.mpr ⟨ze_s (by decide +kernel) rfl, List.forall_mem_cons.mpr ⟨ze_cv (by decide +kernel) (by rfl) zY_X11_seat (Or.inl zw_715) zw_716 zw_717 rfl, List.forall_mem_cons.mpr ⟨ze_s (by decide +kernel) rfl, List.forall_mem_cons.mpr ⟨ze_s (by decide +kernel) rfl, List.forall_mem_cons.mpr ⟨ze_s (by decide +kernel) rfl, List.forall_mem_cons.mpr ⟨ze_s (by decide +kernel) rfl, List.forall_mem_cons.mpr ⟨ze_s (by decide +kernel) rfl, List.forall_mem_cons.mpr ⟨ze_s (by decide +kernel) rfl, List.forall_mem_cons.mpr ⟨ze_s (by decide +kernel) rfl, List.forall_mem_cons.mpr ⟨ze_s (by decide +kernel) rfl, List.forall_mem_cons.mpr ⟨ze_s (by decide +kernel) rfl, List.forall_mem_cons.mpr ⟨ze_s (by decide +kernel) rfl, List.forall_mem_cons.mpr ⟨ze_s (by decide +kernel) rfl, List.forall_mem_cons.mpr ⟨ze_cv (by decide +kernel) (by rfl) zY_X12_seat (Or.inl zw_1636) zw_1637 zw_1638 rfl, List.forall_mem_cons.mpr ⟨ze_s (by decide +kernel) rfl, List.forall_mem_cons.mpr ⟨ze_xs (by decide +kernel), List.forall_mem_cons.mpr ⟨ze_xs (by decide +kernel), List.forall_mem_cons.mpr ⟨ze_s (by decide +kernel) rfl, List.forall_mem_cons.mpr ⟨ze_s (by decide +kernel) rfl, List.forall_mem_cons.mpr ⟨ze_s (by decide +kernel) rfl, List.forall_mem_cons.mpr ⟨ze_s (by decide +kernel) rfl, List.forall_mem_cons.mpr ⟨ze_s (by decide +kernel) rfl, List.forall_mem_cons.mpr ⟨ze_s (by decide +kernel) rfl, List.forall_mem_cons.mpr ⟨ze_cv (by decide +kernel) (by rfl) zY_X11_now (Or.inl zw_744) zw_745 zw_746 rfl, List.forall_mem_cons.mpr ⟨ze_s (by decide +kernel) rfl, List.forall_mem_cons.mpr ⟨ze_s (by decide +kernel) rfl, List.forall_mem_cons.mpr ⟨ze_s (by decide +kernel) rfl, List.forall_mem_cons.mpr ⟨ze_s (by decide +kernel) rfl, List.forall_mem_cons.mpr ⟨ze_s (by decide +kernel) rfl, List.forall_mem_cons.mpr ⟨ze_s (by decide +kernel) rfl, List.forall_mem_cons.mpr ⟨ze_cv (by decide +kernel) (by rfl) zY_X12_now (Or.inl zw_1703) zw_1704 zw_1705 rfl, List.forall_mem_cons.mpr ⟨ze_s (by decide +kernel) rfl, List.forall_mem_cons.mpr ⟨ze_s (by decide +kernel) rfl, List.forall_mem_cons.mpr ⟨ze_s (by decide +kernel) rfl, List.forall_mem_cons.mpr ⟨ze_s (by decide +kernel) rfl, List.forall_mem_cons.mpr ⟨ze_s (by decide +kernel) rfl, List.forall_mem_cons.mpr ⟨ze_s (by decide +kernel) rfl, List.forall_mem_cons.mpr ⟨ze_s (by decide +kernel) rfl, List.forall_mem_cons.mpr ⟨ze_s (by decide +kernel) rfl, List.forall_mem_cons.mpr ⟨ze_s (by decide +kernel) rfl, List.forall_mem_cons.mpr ⟨ze_s (by decide +kernel) rfl, List.forall_mem_cons.mpr ⟨ze_s (by decide +kernel) rfl, List.forall_mem_cons.mpr ⟨ze_s (by decide +kernel) rfl, List.forall_mem_cons.mpr ⟨ze_cv (by decide +kernel) (by rfl) zY_X11_lay (Or.inl zw_770) zw_771 zw_772 rfl, List.forall_mem_cons.mpr ⟨ze_s (by decide +kernel) rfl, List.forall_mem_cons.mpr ⟨ze_s (by decide +kernel) rfl, List.forall_mem_cons.mpr ⟨ze_s (by decide +kernel) rfl, List.forall_mem_cons.mpr ⟨ze_s (by decide +kernel) rfl, List.forall_mem_cons.mpr ⟨ze_s (by decide +kernel) rfl, List.forall_mem_cons.mpr ⟨ze_s (by decide +kernel) rfl, List.forall_mem_cons.mpr ⟨ze_s (by decide +kernel) rfl, List.forall_mem_cons.mpr ⟨ze_s (by decide +kernel) rfl, List.forall_mem_cons.mpr ⟨ze_s (by decide +kernel) rfl, List.forall_mem_cons.mpr ⟨ze_s (by decide +kernel) rfl, List.forall_mem_cons.mpr ⟨ze_s (by decide +kernel) rfl, List.forall_mem_cons.mpr ⟨ze_cv (by decide +kernel) (by rfl) zY_X12_lay (Or.inl zw_1715) zw_1716 zw_1717 rfl, List.forall_mem_cons.mpr ⟨ze_s (by decide +kernel) rfl, List.forall_mem_cons.mpr ⟨ze_s (by decide +kernel) rfl, List.forall_mem_cons.mpr ⟨ze_s (by decide +kernel) rfl, List.forall_mem_cons.mpr ⟨ze_s (by decide +kernel) rfl, List.forall_mem_cons.mpr ⟨ze_s (by decide +kernel) rfl, List.forall_mem_cons.mpr ⟨ze_s (by decide +kernel) rfl, List.forall_mem_cons.mpr ⟨ze_s (by decide +kernel) rfl, List.forall_mem_cons.mpr ⟨ze_s (by decide +kernel) rfl, List.forall_mem_cons.mpr ⟨ze_s (by decide +kernel) rfl, fun _ h => absurd h List.not_mem_nil⟩⟩⟩⟩⟩⟩⟩⟩⟩⟩⟩⟩⟩⟩⟩⟩⟩⟩⟩⟩⟩⟩⟩⟩⟩⟩⟩⟩⟩⟩⟩⟩⟩⟩⟩⟩⟩⟩⟩⟩⟩⟩⟩⟩⟩⟩⟩⟩⟩⟩⟩⟩⟩⟩⟩⟩⟩⟩⟩⟩⟩⟩⟩⟩⟩⟩⟩⟩⟩⟩⟩⟩⟩⟩⟩⟩⟩⟩⟩⟩⟩⟩⟩⟩⟩⟩⟩⟩⟩⟩
end
section
def zt_law2 : List zE := [(589, .iconst 2, []), (590, .iadd, []), (591, .iaload, []), (592, .invokevirtual 66, [1, 63, 11]), (595, .aload_n 2, []), (596, .aload_n 0, []), (597, .iload 4, []), (599, .iconst 1, []), (600, .iadd, []), (601, .iaload, []), (602, .aload_n 0, []), (603, .iload 4, []), (605, .iconst 2, []), (606, .iadd, []), (607, .iaload, []), (608, .invokevirtual 69, [1, 65, 12]), (611, .if_icmp .eq 792, []), (616, .aload_n 1, []), (617, .aload_n 0, []), (618, .iload 4, []), (620, .iconst 1, []), (621, .iadd, []), (622, .iaload, []), (623, .aload_n 0, []), (624, .iload 4, []), (626, .iconst 2, []), (627, .iadd, []), (628, .iaload, []), (629, .invokevirtual 70, [1, 67, 11]), (632, .aload_n 2, []), (633, .aload_n 0, []), (634, .iload 4, []), (636, .iconst 1, []), (637, .iadd, []), (638, .iaload, []), (639, .aload_n 0, []), (640, .iload 4, []), (642, .iconst 2, []), (643, .iadd, []), (644, .iaload, []), (645, .invokevirtual 73, [1, 68, 12]), (648, .if_icmp .eq 755, []), (653, .aload_n 1, []), (654, .aload_n 0, []), (655, .iload 4, []), (657, .iconst 1, []), (658, .iadd, []), (659, .iaload, []), (660, .invokevirtual 74, [1, 69, 11]), (663, .aload_n 2, []), (664, .aload_n 0, []), (665, .iload 4, []), (667, .iconst 1, []), (668, .iadd, []), (669, .iaload, []), (670, .invokevirtual 77, [1, 70, 12]), (673, .if_icmp .eq 730, []), (678, .aload_n 1, []), (679, .aload_n 0, []), (680, .iload 4, []), (682, .iconst 1, []), (683, .iadd, []), (684, .iaload, []), (685, .invokevirtual 78, [1, 71, 11]), (688, .aload_n 2, []), (689, .aload_n 0, []), (690, .iload 4, []), (692, .iconst 1, []), (693, .iadd, []), (694, .iaload, []), (695, .invokevirtual 81, [1, 73, 12]), (698, .if_icmp .eq 705, []), (703, .aload_n 1, []), (704, .invokevirtual 82, [1, 85, 11]), (707, .aload_n 2, []), (708, .invokevirtual 85, [1, 87, 12]), (711, .if_icmp .eq 692, []), (716, .aload_n 1, []), (717, .aload_n 0, []), (718, .iload 4, []), (720, .iconst 1, []), (721, .iadd, []), (722, .iaload, []), (723, .aload_n 0, []), (724, .iload 4, []), (726, .iconst 2, []), (727, .iadd, []), (728, .iaload, []), (729, .invokevirtual 86, [1, 88, 11]), (732, .aload_n 2, [])]
set_option maxRecDepth 20000 in
theorem zo_law2 : ∀ en ∈ zt_law2, z_en zTB zNT vwCl zTF zDF zP x code en := List.forall_mem_cons.mpr ⟨ze_s (by decide +kernel) rfl, List.forall_mem_cons.mpr ⟨ze_s (by decide +kernel) rfl, List.forall_mem_cons.mpr ⟨ze_s (by decide +kernel) rfl, List.forall_mem_cons.mpr ⟨ze_cv (by decide +kernel) (by rfl) zY_X11_wear (Or.inl zw_806) zw_807 zw_808 rfl, List.forall_mem_cons.mpr ⟨ze_s (by decide +kernel) rfl, List.forall_mem_cons.mpr ⟨ze_s (by decide +kernel) rfl, List.forall_mem_cons.mpr ⟨ze_s (by decide +kernel) rfl, List.forall_mem_cons.mpr ⟨ze_s (by decide +kernel) rfl, List.forall_mem_cons.mpr ⟨ze_s (by decide +kernel) rfl, List.forall_mem_cons.mpr ⟨ze_s (by decide +kernel) rfl, List.forall_mem_cons.mpr ⟨ze_s (by decide +kernel) rfl, List.forall_mem_cons.mpr ⟨ze_s (by decide +kernel) rfl, List.forall_mem_cons.mpr ⟨ze_s (by decide +kernel) rfl, List.forall_mem_cons.mpr ⟨ze_s (by decide +kernel) rfl, List.forall_mem_cons.mpr ⟨ze_s (by decide +kernel) rfl, List.forall_mem_cons.mpr ⟨ze_cv (by decide +kernel) (by rfl) zY_X12_wear (Or.inl zw_1735) zw_1736 zw_1737 rfl, List.forall_mem_cons.mpr ⟨ze_s (by decide +kernel) rfl, List.forall_mem_cons.mpr ⟨ze_s (by decide +kernel) rfl, List.forall_mem_cons.mpr ⟨ze_s (by decide +kernel) rfl, List.forall_mem_cons.mpr ⟨ze_s (by decide +kernel) rfl, List.forall_mem_cons.mpr ⟨ze_s (by decide +kernel) rfl, List.forall_mem_cons.mpr ⟨ze_s (by decide +kernel) rfl, List.forall_mem_cons.mpr ⟨ze_s (by decide +kernel) rfl, List.forall_mem_cons.mpr ⟨ze_s (by decide +kernel) rfl, List.forall_mem_cons.mpr ⟨ze_s (by decide +kernel) rfl, List.forall_mem_cons.mpr ⟨ze_s (by decide +kernel) rfl, List.forall_mem_cons.mpr ⟨ze_s (by decide +kernel) rfl, List.forall_mem_cons.mpr ⟨ze_s (by decide +kernel) rfl, List.forall_mem_cons.mpr ⟨ze_cv (by decide +kernel) (by rfl) zY_X11_lend (Or.inl zw_826) zw_827 zw_828 rfl, List.forall_mem_cons.mpr ⟨ze_s (by decide +kernel) rfl, List.forall_mem_cons.mpr ⟨ze_s (by decide +kernel) rfl, List.forall_mem_cons.mpr ⟨ze_s (by decide +kernel) rfl, List.forall_mem_cons.mpr ⟨ze_s (by decide +kernel) rfl, List.forall_mem_cons.mpr ⟨ze_s (by decide +kernel) rfl, List.forall_mem_cons.mpr ⟨ze_s (by decide +kernel) rfl, List.forall_mem_cons.mpr ⟨ze_s (by decide +kernel) rfl, List.forall_mem_cons.mpr ⟨ze_s (by decide +kernel) rfl, List.forall_mem_cons.mpr ⟨ze_s (by decide +kernel) rfl, List.forall_mem_cons.mpr ⟨ze_s (by decide +kernel) rfl, List.forall_mem_cons.mpr ⟨ze_s (by decide +kernel) rfl, List.forall_mem_cons.mpr ⟨ze_cv (by decide +kernel) (by rfl) zY_X12_lend (Or.inl zw_1751) zw_1752 zw_1753 rfl, List.forall_mem_cons.mpr ⟨ze_s (by decide +kernel) rfl, List.forall_mem_cons.mpr ⟨ze_s (by decide +kernel) rfl, List.forall_mem_cons.mpr ⟨ze_s (by decide +kernel) rfl, List.forall_mem_cons.mpr ⟨ze_s (by decide +kernel) rfl, List.forall_mem_cons.mpr ⟨ze_s (by decide +kernel) rfl, List.forall_mem_cons.mpr ⟨ze_s (by decide +kernel) rfl, List.forall_mem_cons.mpr ⟨ze_s (by decide +kernel) rfl, List.forall_mem_cons.mpr ⟨ze_cv (by decide +kernel) (by rfl) zY_X11_keep (Or.inl zw_834) zw_835 zw_836 rfl, List.forall_mem_cons.mpr ⟨ze_s (by decide +kernel) rfl, List.forall_mem_cons.mpr ⟨ze_s (by decide +kernel) rfl, List.forall_mem_cons.mpr ⟨ze_s (by decide +kernel) rfl, List.forall_mem_cons.mpr ⟨ze_s (by decide +kernel) rfl, List.forall_mem_cons.mpr ⟨ze_s (by decide +kernel) rfl, List.forall_mem_cons.mpr ⟨ze_s (by decide +kernel) rfl, List.forall_mem_cons.mpr ⟨ze_cv (by decide +kernel) (by rfl) zY_X12_keep (Or.inl zw_1759) zw_1760 zw_1761 rfl, List.forall_mem_cons.mpr ⟨ze_s (by decide +kernel) rfl, List.forall_mem_cons.mpr ⟨ze_s (by decide +kernel) rfl, List.forall_mem_cons.mpr ⟨ze_s (by decide +kernel) rfl, List.forall_mem_cons.mpr ⟨ze_s (by decide +kernel) rfl, List.forall_mem_cons.mpr ⟨ze_s (by decide +kernel) rfl, List.forall_mem_cons.mpr ⟨ze_s (by decide +kernel) rfl, List.forall_mem_cons.mpr ⟨ze_s (by decide +kernel) rfl, List.forall_mem_cons.mpr ⟨ze_cv (by decide +kernel) (by rfl) zY_X11_days (Or.inl zw_846) zw_847 zw_848 rfl, List.forall_mem_cons.mpr ⟨ze_s (by decide +kernel) rfl, List.forall_mem_cons.mpr ⟨ze_s (by decide +kernel) rfl, List.forall_mem_cons.mpr ⟨ze_s (by decide +kernel) rfl, List.forall_mem_cons.mpr ⟨ze_s (by decide +kernel) rfl, List.forall_mem_cons.mpr ⟨ze_s (by decide +kernel) rfl, List.forall_mem_cons.mpr ⟨ze_s (by decide +kernel) rfl, List.forall_mem_cons.mpr ⟨ze_cv (by decide +kernel) (by rfl) zY_X12_days (Or.inl zw_1767) zw_1768 zw_1769 rfl, List.forall_mem_cons.mpr ⟨ze_s (by decide +kernel) rfl, List.forall_mem_cons.mpr ⟨ze_s (by decide +kernel) rfl, List.forall_mem_cons.mpr ⟨ze_cv (by decide +kernel) (by rfl) zY_X11_undo (Or.inl zw_883) zw_884 zw_885 rfl, List.forall_mem_cons.mpr ⟨ze_s (by decide +kernel) rfl, List.forall_mem_cons.mpr ⟨ze_cv (by decide +kernel) (by rfl) zY_X12_undo (Or.inl zw_1783) zw_1784 zw_1785 rfl, List.forall_mem_cons.mpr ⟨ze_s (by decide +kernel) rfl, List.forall_mem_cons.mpr ⟨ze_s (by decide +kernel) rfl, List.forall_mem_cons.mpr ⟨ze_s (by decide +kernel) rfl, List.forall_mem_cons.mpr ⟨ze_s (by decide +kernel) rfl, List.forall_mem_cons.mpr ⟨ze_s (by decide +kernel) rfl, List.forall_mem_cons.mpr ⟨ze_s (by decide +kernel) rfl, List.forall_mem_cons.mpr ⟨ze_s (by decide +kernel) rfl, List.forall_mem_cons.mpr ⟨ze_s (by decide +kernel) rfl, List.forall_mem_cons.mpr ⟨ze_s (by decide +kernel) rfl, List.forall_mem_cons.mpr ⟨ze_s (by decide +kernel) rfl, List.forall_mem_cons.mpr ⟨ze_s (by decide +kernel) rfl, List.forall_mem_cons.mpr ⟨ze_s (by decide +kernel) rfl, List.forall_mem_cons.mpr ⟨ze_cv (by decide +kernel) (by rfl) zY_X11_best (Or.inl zw_891) zw_892 zw_893 rfl, List.forall_mem_cons.mpr ⟨ze_s (by decide +kernel) rfl, fun _ h => absurd h List.not_mem_nil⟩⟩⟩⟩⟩⟩⟩⟩⟩⟩⟩⟩⟩⟩⟩⟩⟩⟩⟩⟩⟩⟩⟩⟩⟩⟩⟩⟩⟩⟩⟩⟩⟩⟩⟩⟩⟩⟩⟩⟩⟩⟩⟩⟩⟩⟩⟩⟩⟩⟩⟩⟩⟩⟩⟩⟩⟩⟩⟩⟩⟩⟩⟩⟩⟩⟩⟩⟩⟩⟩⟩⟩⟩⟩⟩⟩⟩⟩⟩⟩⟩⟩⟩⟩⟩⟩⟩⟩⟩⟩
end
section
def zt_law3 : List zE := [(733, .aload_n 0, []), (734, .iload 4, []), (736, .iconst 1, []), (737, .iadd, []), (738, .iaload, []), (739, .aload_n 0, []), (740, .iload 4, []), (742, .iconst 2, []), (743, .iadd, []), (744, .iaload, []), (745, .invokevirtual 89, [1, 89, 12]), (748, .if_icmp .eq 655, []), (753, .aload_n 1, []), (754, .invokevirtual 90, [1, 90, 11]), (757, .aload_n 2, []), (758, .invokevirtual 93, [1, 91, 12]), (761, .if_icmp .eq 642, []), (766, .aload_n 1, []), (767, .aload_n 0, []), (768, .iload 4, []), (770, .iconst 1, []), (771, .iadd, []), (772, .iaload, []), (773, .aload_n 0, []), (774, .iload 4, []), (776, .iconst 2, []), (777, .iadd, []), (778, .iaload, []), (779, .aload_n 0, []), (780, .iload 4, []), (782, .iconst 3, []), (783, .iadd, []), (784, .iaload, []), (785, .aload_n 0, []), (786, .iload 4, []), (788, .iconst 4, []), (789, .iadd, []), (790, .iaload, []), (791, .invokevirtual 94, [1, 92, 11]), (794, .aload_n 2, []), (795, .aload_n 0, []), (796, .iload 4, []), (798, .iconst 1, []), (799, .iadd, []), (800, .iaload, []), (801, .aload_n 0, []), (802, .iload 4, []), (804, .iconst 2, []), (805, .iadd, []), (806, .iaload, []), (807, .aload_n 0, []), (808, .iload 4, []), (810, .iconst 3, []), (811, .iadd, []), (812, .iaload, []), (813, .aload_n 0, []), (814, .iload 4, []), (816, .iconst 4, []), (817, .iadd, []), (818, .iaload, []), (819, .invokevirtual 98, [1, 93, 12]), (822, .if_icmp .eq 581, []), (827, .aload_n 1, []), (828, .invokevirtual 99, [1, 94, 11]), (831, .aload_n 2, []), (832, .invokevirtual 102, [1, 95, 12]), (835, .if_icmp .eq 568, []), (840, .aload_n 1, []), (841, .aload_n 0, []), (842, .iload 4, []), (844, .iconst 1, []), (845, .iadd, []), (846, .iaload, []), (847, .invokevirtual 103, [1, 96, 11]), (850, .aload_n 2, []), (851, .aload_n 0, []), (852, .iload 4, []), (854, .iconst 1, []), (855, .iadd, []), (856, .iaload, []), (857, .invokevirtual 106, [1, 97, 12]), (860, .if_icmp .eq 543, []), (865, .aload_n 1, []), (866, .aload_n 0, []), (867, .iload 4, []), (869, .iconst 1, []), (870, .iadd, []), (871, .iaload, []), (872, .invokevirtual 107, [1, 98, 11]), (875, .aload_n 2, [])]
set_option maxRecDepth 20000 in
theorem zo_law3 : ∀ en ∈ zt_law3, z_en zTB zNT vwCl zTF zDF zP x code en := List.forall_mem_cons.mpr ⟨ze_s (by decide +kernel) rfl, List.forall_mem_cons.mpr ⟨ze_s (by decide +kernel) rfl, List.forall_mem_cons.mpr ⟨ze_s (by decide +kernel) rfl, List.forall_mem_cons.mpr ⟨ze_s (by decide +kernel) rfl, List.forall_mem_cons.mpr ⟨ze_s (by decide +kernel) rfl, List.forall_mem_cons.mpr ⟨ze_s (by decide +kernel) rfl, List.forall_mem_cons.mpr ⟨ze_s (by decide +kernel) rfl, List.forall_mem_cons.mpr ⟨ze_s (by decide +kernel) rfl, List.forall_mem_cons.mpr ⟨ze_s (by decide +kernel) rfl, List.forall_mem_cons.mpr ⟨ze_s (by decide +kernel) rfl, List.forall_mem_cons.mpr ⟨ze_cv (by decide +kernel) (by rfl) zY_X12_best (Or.inl zw_1787) zw_1788 zw_1789 rfl, List.forall_mem_cons.mpr ⟨ze_s (by decide +kernel) rfl, List.forall_mem_cons.mpr ⟨ze_s (by decide +kernel) rfl, List.forall_mem_cons.mpr ⟨ze_cv (by decide +kernel) (by rfl) zY_X11_laid (Or.inl zw_928) zw_929 zw_930 rfl, List.forall_mem_cons.mpr ⟨ze_s (by decide +kernel) rfl, List.forall_mem_cons.mpr ⟨ze_cv (by decide +kernel) (by rfl) zY_X12_laid (Or.inl zw_1798) zw_1799 zw_1800 rfl, List.forall_mem_cons.mpr ⟨ze_s (by decide +kernel) rfl, List.forall_mem_cons.mpr ⟨ze_s (by decide +kernel) rfl, List.forall_mem_cons.mpr ⟨ze_s (by decide +kernel) rfl, List.forall_mem_cons.mpr ⟨ze_s (by decide +kernel) rfl, List.forall_mem_cons.mpr ⟨ze_s (by decide +kernel) rfl, List.forall_mem_cons.mpr ⟨ze_s (by decide +kernel) rfl, List.forall_mem_cons.mpr ⟨ze_s (by decide +kernel) rfl, List.forall_mem_cons.mpr ⟨ze_s (by decide +kernel) rfl, List.forall_mem_cons.mpr ⟨ze_s (by decide +kernel) rfl, List.forall_mem_cons.mpr ⟨ze_s (by decide +kernel) rfl, List.forall_mem_cons.mpr ⟨ze_s (by decide +kernel) rfl, List.forall_mem_cons.mpr ⟨ze_s (by decide +kernel) rfl, List.forall_mem_cons.mpr ⟨ze_s (by decide +kernel) rfl, List.forall_mem_cons.mpr ⟨ze_s (by decide +kernel) rfl, List.forall_mem_cons.mpr ⟨ze_s (by decide +kernel) rfl, List.forall_mem_cons.mpr ⟨ze_s (by decide +kernel) rfl, List.forall_mem_cons.mpr ⟨ze_s (by decide +kernel) rfl, List.forall_mem_cons.mpr ⟨ze_s (by decide +kernel) rfl, List.forall_mem_cons.mpr ⟨ze_s (by decide +kernel) rfl, List.forall_mem_cons.mpr ⟨ze_s (by decide +kernel) rfl, List.forall_mem_cons.mpr ⟨ze_s (by decide +kernel) rfl, List.forall_mem_cons.mpr ⟨ze_s (by decide +kernel) rfl, List.forall_mem_cons.mpr ⟨ze_cv (by decide +kernel) (by rfl) zY_X11_share (Or.inl zw_932) zw_933 zw_934 rfl, List.forall_mem_cons.mpr ⟨ze_s (by decide +kernel) rfl, List.forall_mem_cons.mpr ⟨ze_s (by decide +kernel) rfl, List.forall_mem_cons.mpr ⟨ze_s (by decide +kernel) rfl, List.forall_mem_cons.mpr ⟨ze_s (by decide +kernel) rfl, List.forall_mem_cons.mpr ⟨ze_s (by decide +kernel) rfl, List.forall_mem_cons.mpr ⟨ze_s (by decide +kernel) rfl, List.forall_mem_cons.mpr ⟨ze_s (by decide +kernel) rfl, List.forall_mem_cons.mpr ⟨ze_s (by decide +kernel) rfl, List.forall_mem_cons.mpr ⟨ze_s (by decide +kernel) rfl, List.forall_mem_cons.mpr ⟨ze_s (by decide +kernel) rfl, List.forall_mem_cons.mpr ⟨ze_s (by decide +kernel) rfl, List.forall_mem_cons.mpr ⟨ze_s (by decide +kernel) rfl, List.forall_mem_cons.mpr ⟨ze_s (by decide +kernel) rfl, List.forall_mem_cons.mpr ⟨ze_s (by decide +kernel) rfl, List.forall_mem_cons.mpr ⟨ze_s (by decide +kernel) rfl, List.forall_mem_cons.mpr ⟨ze_s (by decide +kernel) rfl, List.forall_mem_cons.mpr ⟨ze_s (by decide +kernel) rfl, List.forall_mem_cons.mpr ⟨ze_s (by decide +kernel) rfl, List.forall_mem_cons.mpr ⟨ze_s (by decide +kernel) rfl, List.forall_mem_cons.mpr ⟨ze_s (by decide +kernel) rfl, List.forall_mem_cons.mpr ⟨ze_s (by decide +kernel) rfl, List.forall_mem_cons.mpr ⟨ze_cv (by decide +kernel) (by rfl) zY_X12_share (Or.inl zw_1802) zw_1803 zw_1804 rfl, List.forall_mem_cons.mpr ⟨ze_s (by decide +kernel) rfl, List.forall_mem_cons.mpr ⟨ze_s (by decide +kernel) rfl, List.forall_mem_cons.mpr ⟨ze_cv (by decide +kernel) (by rfl) zY_X11_turns (Or.inl zw_941) zw_942 zw_943 rfl, List.forall_mem_cons.mpr ⟨ze_s (by decide +kernel) rfl, List.forall_mem_cons.mpr ⟨ze_cv (by decide +kernel) (by rfl) zY_X12_turns (Or.inl zw_1810) zw_1811 zw_1812 rfl, List.forall_mem_cons.mpr ⟨ze_s (by decide +kernel) rfl, List.forall_mem_cons.mpr ⟨ze_s (by decide +kernel) rfl, List.forall_mem_cons.mpr ⟨ze_s (by decide +kernel) rfl, List.forall_mem_cons.mpr ⟨ze_s (by decide +kernel) rfl, List.forall_mem_cons.mpr ⟨ze_s (by decide +kernel) rfl, List.forall_mem_cons.mpr ⟨ze_s (by decide +kernel) rfl, List.forall_mem_cons.mpr ⟨ze_s (by decide +kernel) rfl, List.forall_mem_cons.mpr ⟨ze_cv (by decide +kernel) (by rfl) zY_X11_ahead (Or.inl zw_945) zw_946 zw_947 rfl, List.forall_mem_cons.mpr ⟨ze_s (by decide +kernel) rfl, List.forall_mem_cons.mpr ⟨ze_s (by decide +kernel) rfl, List.forall_mem_cons.mpr ⟨ze_s (by decide +kernel) rfl, List.forall_mem_cons.mpr ⟨ze_s (by decide +kernel) rfl, List.forall_mem_cons.mpr ⟨ze_s (by decide +kernel) rfl, List.forall_mem_cons.mpr ⟨ze_s (by decide +kernel) rfl, List.forall_mem_cons.mpr ⟨ze_cv (by decide +kernel) (by rfl) zY_X12_ahead (Or.inl zw_1814) zw_1815 zw_1816 rfl, List.forall_mem_cons.mpr ⟨ze_s (by decide +kernel) rfl, List.forall_mem_cons.mpr ⟨ze_s (by decide +kernel) rfl, List.forall_mem_cons.mpr ⟨ze_s (by decide +kernel) rfl, List.forall_mem_cons.mpr ⟨ze_s (by decide +kernel) rfl, List.forall_mem_cons.mpr ⟨ze_s (by decide +kernel) rfl, List.forall_mem_cons.mpr ⟨ze_s (by decide +kernel) rfl, List.forall_mem_cons.mpr ⟨ze_s (by decide +kernel) rfl, List.forall_mem_cons.mpr ⟨ze_cv (by decide +kernel) (by rfl) zY_X11_queue (Or.inl zw_950) zw_951 zw_952 rfl, List.forall_mem_cons.mpr ⟨ze_s (by decide +kernel) rfl, fun _ h => absurd h List.not_mem_nil⟩⟩⟩⟩⟩⟩⟩⟩⟩⟩⟩⟩⟩⟩⟩⟩⟩⟩⟩⟩⟩⟩⟩⟩⟩⟩⟩⟩⟩⟩⟩⟩⟩⟩⟩⟩⟩⟩⟩⟩⟩⟩⟩⟩⟩⟩⟩⟩⟩⟩⟩⟩⟩⟩⟩⟩⟩⟩⟩⟩⟩⟩⟩⟩⟩⟩⟩⟩⟩⟩⟩⟩⟩⟩⟩⟩⟩⟩⟩⟩⟩⟩⟩⟩⟩⟩⟩⟩⟩⟩
end
section
def zt_law4 : List zE := [(876, .aload_n 0, []), (877, .iload 4, []), (879, .iconst 1, []), (880, .iadd, []), (881, .iaload, []), (882, .invokevirtual 110, [1, 99, 12]), (885, .if_icmp .eq 518, []), (890, .aload_n 1, []), (891, .aload_n 0, []), (892, .iload 4, []), (894, .iconst 1, []), (895, .iadd, []), (896, .iaload, []), (897, .invokevirtual 111, [1, 100, 11]), (900, .aload_n 2, []), (901, .aload_n 0, []), (902, .iload 4, []), (904, .iconst 1, []), (905, .iadd, []), (906, .iaload, []), (907, .invokevirtual 114, [1, 102, 12]), (910, .if_icmp .eq 493, []), (915, .aload_n 1, []), (916, .aload_n 0, []), (917, .iload 4, []), (919, .iconst 1, []), (920, .iadd, []), (921, .iaload, []), (922, .aload_n 0, []), (923, .iload 4, []), (925, .iconst 2, []), (926, .iadd, []), (927, .iaload, []), (928, .invokevirtual 115, [1, 105, 11]), (931, .aload_n 2, []), (932, .aload_n 0, []), (933, .iload 4, []), (935, .iconst 1, []), (936, .iadd, []), (937, .iaload, []), (938, .aload_n 0, []), (939, .iload 4, []), (941, .iconst 2, []), (942, .iadd, []), (943, .iaload, []), (944, .invokevirtual 118, [1, 106, 12]), (947, .if_icmp .eq 456, []), (952, .aload_n 1, []), (953, .aload_n 0, []), (954, .iload 4, []), (956, .iconst 1, []), (957, .iadd, []), (958, .iaload, []), (959, .aload_n 0, []), (960, .iload 4, []), (962, .iconst 2, []), (963, .iadd, []), (964, .iaload, []), (965, .invokevirtual 119, [1, 108, 11]), (968, .aload_n 2, []), (969, .aload_n 0, []), (970, .iload 4, []), (972, .iconst 1, []), (973, .iadd, []), (974, .iaload, []), (975, .aload_n 0, []), (976, .iload 4, []), (978, .iconst 2, []), (979, .iadd, []), (980, .iaload, []), (981, .invokevirtual 122, [1, 109, 12]), (984, .if_icmp .eq 419, []), (989, .aload_n 1, []), (990, .aload_n 0, []), (991, .iload 4, []), (993, .iconst 1, []), (994, .iadd, []), (995, .iaload, []), (996, .invokevirtual 123, [1, 110, 11]), (999, .aload_n 2, []), (1000, .aload_n 0, []), (1001, .iload 4, []), (1003, .iconst 1, []), (1004, .iadd, []), (1005, .iaload, []), (1006, .invokevirtual 126, [1, 111, 12]), (1009, .if_icmp .eq 394, []), (1014, .aload_n 1, []), (1015, .invokevirtual 127, [1, 116, 11]), (1018, .aload_n 2, [])]
set_option maxRecDepth 20000 in
theorem zo_law4 : ∀ en ∈ zt_law4, z_en zTB zNT vwCl zTF zDF zP x code en := List.forall_mem_cons.mpr ⟨ze_s (by decide +kernel) rfl, List.forall_mem_cons.mpr ⟨ze_s (by decide +kernel) rfl, List.forall_mem_cons.mpr ⟨ze_s (by decide +kernel) rfl, List.forall_mem_cons.mpr ⟨ze_s (by decide +kernel) rfl, List.forall_mem_cons.mpr ⟨ze_s (by decide +kernel) rfl, List.forall_mem_cons.mpr ⟨ze_cv (by decide +kernel) (by rfl) zY_X12_queue (Or.inl zw_1822) zw_1823 zw_1824 rfl, List.forall_mem_cons.mpr ⟨ze_s (by decide +kernel) rfl, List.forall_mem_cons.mpr ⟨ze_s (by decide +kernel) rfl, List.forall_mem_cons.mpr ⟨ze_s (by decide +kernel) rfl, List.forall_mem_cons.mpr ⟨ze_s (by decide +kernel) rfl, List.forall_mem_cons.mpr ⟨ze_s (by decide +kernel) rfl, List.forall_mem_cons.mpr ⟨ze_s (by decide +kernel) rfl, List.forall_mem_cons.mpr ⟨ze_s (by decide +kernel) rfl, List.forall_mem_cons.mpr ⟨ze_cv (by decide +kernel) (by rfl) zY_X11_bribes (Or.inl zw_954) zw_955 zw_956 rfl, List.forall_mem_cons.mpr ⟨ze_s (by decide +kernel) rfl, List.forall_mem_cons.mpr ⟨ze_s (by decide +kernel) rfl, List.forall_mem_cons.mpr ⟨ze_s (by decide +kernel) rfl, List.forall_mem_cons.mpr ⟨ze_s (by decide +kernel) rfl, List.forall_mem_cons.mpr ⟨ze_s (by decide +kernel) rfl, List.forall_mem_cons.mpr ⟨ze_s (by decide +kernel) rfl, List.forall_mem_cons.mpr ⟨ze_cv (by decide +kernel) (by rfl) zY_X12_bribes (Or.inl zw_1826) zw_1827 zw_1828 rfl, List.forall_mem_cons.mpr ⟨ze_s (by decide +kernel) rfl, List.forall_mem_cons.mpr ⟨ze_s (by decide +kernel) rfl, List.forall_mem_cons.mpr ⟨ze_s (by decide +kernel) rfl, List.forall_mem_cons.mpr ⟨ze_s (by decide +kernel) rfl, List.forall_mem_cons.mpr ⟨ze_s (by decide +kernel) rfl, List.forall_mem_cons.mpr ⟨ze_s (by decide +kernel) rfl, List.forall_mem_cons.mpr ⟨ze_s (by decide +kernel) rfl, List.forall_mem_cons.mpr ⟨ze_s (by decide +kernel) rfl, List.forall_mem_cons.mpr ⟨ze_s (by decide +kernel) rfl, List.forall_mem_cons.mpr ⟨ze_s (by decide +kernel) rfl, List.forall_mem_cons.mpr ⟨ze_s (by decide +kernel) rfl, List.forall_mem_cons.mpr ⟨ze_s (by decide +kernel) rfl, List.forall_mem_cons.mpr ⟨ze_cv (by decide +kernel) (by rfl) zY_X11_frost (Or.inl zw_966) zw_967 zw_968 rfl, List.forall_mem_cons.mpr ⟨ze_s (by decide +kernel) rfl, List.forall_mem_cons.mpr ⟨ze_s (by decide +kernel) rfl, List.forall_mem_cons.mpr ⟨ze_s (by decide +kernel) rfl, List.forall_mem_cons.mpr ⟨ze_s (by decide +kernel) rfl, List.forall_mem_cons.mpr ⟨ze_s (by decide +kernel) rfl, List.forall_mem_cons.mpr ⟨ze_s (by decide +kernel) rfl, List.forall_mem_cons.mpr ⟨ze_s (by decide +kernel) rfl, List.forall_mem_cons.mpr ⟨ze_s (by decide +kernel) rfl, List.forall_mem_cons.mpr ⟨ze_s (by decide +kernel) rfl, List.forall_mem_cons.mpr ⟨ze_s (by decide +kernel) rfl, List.forall_mem_cons.mpr ⟨ze_s (by decide +kernel) rfl, List.forall_mem_cons.mpr ⟨ze_cv (by decide +kernel) (by rfl) zY_X12_frost (Or.inl zw_1830) zw_1831 zw_1832 rfl, List.forall_mem_cons.mpr ⟨ze_s (by decide +kernel) rfl, List.forall_mem_cons.mpr ⟨ze_s (by decide +kernel) rfl, List.forall_mem_cons.mpr ⟨ze_s (by decide +kernel) rfl, List.forall_mem_cons.mpr ⟨ze_s (by decide +kernel) rfl, List.forall_mem_cons.mpr ⟨ze_s (by decide +kernel) rfl, List.forall_mem_cons.mpr ⟨ze_s (by decide +kernel) rfl, List.forall_mem_cons.mpr ⟨ze_s (by decide +kernel) rfl, List.forall_mem_cons.mpr ⟨ze_s (by decide +kernel) rfl, List.forall_mem_cons.mpr ⟨ze_s (by decide +kernel) rfl, List.forall_mem_cons.mpr ⟨ze_s (by decide +kernel) rfl, List.forall_mem_cons.mpr ⟨ze_s (by decide +kernel) rfl, List.forall_mem_cons.mpr ⟨ze_s (by decide +kernel) rfl, List.forall_mem_cons.mpr ⟨ze_cv (by decide +kernel) (by rfl) zY_X11_frostAt (Or.inl zw_974) zw_975 zw_976 rfl, List.forall_mem_cons.mpr ⟨ze_s (by decide +kernel) rfl, List.forall_mem_cons.mpr ⟨ze_s (by decide +kernel) rfl, List.forall_mem_cons.mpr ⟨ze_s (by decide +kernel) rfl, List.forall_mem_cons.mpr ⟨ze_s (by decide +kernel) rfl, List.forall_mem_cons.mpr ⟨ze_s (by decide +kernel) rfl, List.forall_mem_cons.mpr ⟨ze_s (by decide +kernel) rfl, List.forall_mem_cons.mpr ⟨ze_s (by decide +kernel) rfl, List.forall_mem_cons.mpr ⟨ze_s (by decide +kernel) rfl, List.forall_mem_cons.mpr ⟨ze_s (by decide +kernel) rfl, List.forall_mem_cons.mpr ⟨ze_s (by decide +kernel) rfl, List.forall_mem_cons.mpr ⟨ze_s (by decide +kernel) rfl, List.forall_mem_cons.mpr ⟨ze_cv (by decide +kernel) (by rfl) zY_X12_frostAt (Or.inl zw_1842) zw_1843 zw_1844 rfl, List.forall_mem_cons.mpr ⟨ze_s (by decide +kernel) rfl, List.forall_mem_cons.mpr ⟨ze_s (by decide +kernel) rfl, List.forall_mem_cons.mpr ⟨ze_s (by decide +kernel) rfl, List.forall_mem_cons.mpr ⟨ze_s (by decide +kernel) rfl, List.forall_mem_cons.mpr ⟨ze_s (by decide +kernel) rfl, List.forall_mem_cons.mpr ⟨ze_s (by decide +kernel) rfl, List.forall_mem_cons.mpr ⟨ze_s (by decide +kernel) rfl, List.forall_mem_cons.mpr ⟨ze_cv (by decide +kernel) (by rfl) zY_X11_word (Or.inl zw_978) zw_979 zw_980 rfl, List.forall_mem_cons.mpr ⟨ze_s (by decide +kernel) rfl, List.forall_mem_cons.mpr ⟨ze_s (by decide +kernel) rfl, List.forall_mem_cons.mpr ⟨ze_s (by decide +kernel) rfl, List.forall_mem_cons.mpr ⟨ze_s (by decide +kernel) rfl, List.forall_mem_cons.mpr ⟨ze_s (by decide +kernel) rfl, List.forall_mem_cons.mpr ⟨ze_s (by decide +kernel) rfl, List.forall_mem_cons.mpr ⟨ze_cv (by decide +kernel) (by rfl) zY_X12_word (Or.inl zw_1846) zw_1847 zw_1848 rfl, List.forall_mem_cons.mpr ⟨ze_s (by decide +kernel) rfl, List.forall_mem_cons.mpr ⟨ze_s (by decide +kernel) rfl, List.forall_mem_cons.mpr ⟨ze_cv (by decide +kernel) (by rfl) zY_X11_bare (Or.inl zw_994) zw_995 zw_996 rfl, List.forall_mem_cons.mpr ⟨ze_s (by decide +kernel) rfl, fun _ h => absurd h List.not_mem_nil⟩⟩⟩⟩⟩⟩⟩⟩⟩⟩⟩⟩⟩⟩⟩⟩⟩⟩⟩⟩⟩⟩⟩⟩⟩⟩⟩⟩⟩⟩⟩⟩⟩⟩⟩⟩⟩⟩⟩⟩⟩⟩⟩⟩⟩⟩⟩⟩⟩⟩⟩⟩⟩⟩⟩⟩⟩⟩⟩⟩⟩⟩⟩⟩⟩⟩⟩⟩⟩⟩⟩⟩⟩⟩⟩⟩⟩⟩⟩⟩⟩⟩⟩⟩⟩⟩⟩⟩⟩⟩
end
section
def zt_law5 : List zE := [(1019, .invokevirtual 130, [1, 118, 12]), (1022, .if_icmp .eq 381, []), (1027, .aload_n 1, []), (1028, .aload_n 0, []), (1029, .iload 4, []), (1031, .iconst 1, []), (1032, .iadd, []), (1033, .iaload, []), (1034, .invokevirtual 131, [1, 120, 11]), (1037, .aload_n 2, []), (1038, .aload_n 0, []), (1039, .iload 4, []), (1041, .iconst 1, []), (1042, .iadd, []), (1043, .iaload, []), (1044, .invokevirtual 134, [1, 121, 12]), (1047, .if_icmp .eq 356, []), (1052, .aload_n 1, []), (1053, .aload_n 0, []), (1054, .iload 4, []), (1056, .iconst 1, []), (1057, .iadd, []), (1058, .iaload, []), (1059, .aload_n 0, []), (1060, .iload 4, []), (1062, .iconst 2, []), (1063, .iadd, []), (1064, .iaload, []), (1065, .invokevirtual 135, [1, 122, 11]), (1068, .aload_n 2, []), (1069, .aload_n 0, []), (1070, .iload 4, []), (1072, .iconst 1, []), (1073, .iadd, []), (1074, .iaload, []), (1075, .aload_n 0, []), (1076, .iload 4, []), (1078, .iconst 2, []), (1079, .iadd, []), (1080, .iaload, []), (1081, .invokevirtual 138, [1, 123, 12]), (1084, .if_icmp .eq 319, []), (1089, .aload_n 1, []), (1090, .invokevirtual 139, [1, 124, 11]), (1093, .aload_n 2, []), (1094, .invokevirtual 142, [1, 126, 12]), (1097, .if_icmp .eq 306, []), (1102, .aload_n 1, []), (1103, .invokevirtual 143, [1, 127, 11]), (1106, .aload_n 2, []), (1107, .invokevirtual 146, [1, 128, 12]), (1110, .if_icmp .eq 293, []), (1115, .aload_n 1, []), (1116, .invokevirtual 147, [1, 129, 11]), (1119, .aload_n 2, []), (1120, .invokevirtual 150, [1, 130, 12]), (1123, .if_icmp .eq 280, []), (1128, .aload_n 1, []), (1129, .invokevirtual 151, [1, 131, 11]), (1132, .aload_n 2, []), (1133, .invokevirtual 154, [1, 134, 12]), (1136, .if_icmp .eq 267, []), (1141, .aload_n 1, []), (1142, .invokevirtual 155, [1, 135, 11]), (1145, .aload_n 2, []), (1146, .invokevirtual 158, [1, 136, 12]), (1149, .if_icmp .eq 254, []), (1154, .aload_n 1, []), (1155, .aload_n 0, []), (1156, .iload 4, []), (1158, .iconst 1, []), (1159, .iadd, []), (1160, .iaload, []), (1161, .aload_n 0, []), (1162, .iload 4, []), (1164, .iconst 2, []), (1165, .iadd, []), (1166, .iaload, []), (1167, .invokevirtual 159, [1, 137, 11]), (1170, .aload_n 2, []), (1171, .aload_n 0, []), (1172, .iload 4, []), (1174, .iconst 1, []), (1175, .iadd, []), (1176, .iaload, []), (1177, .aload_n 0, []), (1178, .iload 4, []), (1180, .iconst 2, []), (1181, .iadd, []), (1182, .iaload, [])]
set_option maxRecDepth 20000 in
theorem zo_law5 : ∀ en ∈ zt_law5, z_en zTB zNT vwCl zTF zDF zP x code en := List.forall_mem_cons.mpr ⟨ze_cv (by decide +kernel) (by rfl) zY_X12_bare (Or.inl zw_1858) zw_1859 zw_1860 rfl, List.forall_mem_cons.mpr ⟨ze_s (by decide +kernel) rfl, List.forall_mem_cons.mpr ⟨ze_s (by decide +kernel) rfl, List.forall_mem_cons.mpr ⟨ze_s (by decide +kernel) rfl, List.forall_mem_cons.mpr ⟨ze_s (by decide +kernel) rfl, List.forall_mem_cons.mpr ⟨ze_s (by decide +kernel) rfl, List.forall_mem_cons.mpr ⟨ze_s (by decide +kernel) rfl, List.forall_mem_cons.mpr ⟨ze_s (by decide +kernel) rfl, List.forall_mem_cons.mpr ⟨ze_cv (by decide +kernel) (by rfl) zY_X11_rules (Or.inl zw_1002) zw_1003 zw_1004 rfl, List.forall_mem_cons.mpr ⟨ze_s (by decide +kernel) rfl, List.forall_mem_cons.mpr ⟨ze_s (by decide +kernel) rfl, List.forall_mem_cons.mpr ⟨ze_s (by decide +kernel) rfl, List.forall_mem_cons.mpr ⟨ze_s (by decide +kernel) rfl, List.forall_mem_cons.mpr ⟨ze_s (by decide +kernel) rfl, List.forall_mem_cons.mpr ⟨ze_s (by decide +kernel) rfl, List.forall_mem_cons.mpr ⟨ze_cv (by decide +kernel) (by rfl) zY_X12_rules (Or.inl zw_1866) zw_1867 zw_1868 rfl, List.forall_mem_cons.mpr ⟨ze_s (by decide +kernel) rfl, List.forall_mem_cons.mpr ⟨ze_s (by decide +kernel) rfl, List.forall_mem_cons.mpr ⟨ze_s (by decide +kernel) rfl, List.forall_mem_cons.mpr ⟨ze_s (by decide +kernel) rfl, List.forall_mem_cons.mpr ⟨ze_s (by decide +kernel) rfl, List.forall_mem_cons.mpr ⟨ze_s (by decide +kernel) rfl, List.forall_mem_cons.mpr ⟨ze_s (by decide +kernel) rfl, List.forall_mem_cons.mpr ⟨ze_s (by decide +kernel) rfl, List.forall_mem_cons.mpr ⟨ze_s (by decide +kernel) rfl, List.forall_mem_cons.mpr ⟨ze_s (by decide +kernel) rfl, List.forall_mem_cons.mpr ⟨ze_s (by decide +kernel) rfl, List.forall_mem_cons.mpr ⟨ze_s (by decide +kernel) rfl, List.forall_mem_cons.mpr ⟨ze_cv (by decide +kernel) (by rfl) zY_X11_harm (Or.inl zw_1006) zw_1007 zw_1008 rfl, List.forall_mem_cons.mpr ⟨ze_s (by decide +kernel) rfl, List.forall_mem_cons.mpr ⟨ze_s (by decide +kernel) rfl, List.forall_mem_cons.mpr ⟨ze_s (by decide +kernel) rfl, List.forall_mem_cons.mpr ⟨ze_s (by decide +kernel) rfl, List.forall_mem_cons.mpr ⟨ze_s (by decide +kernel) rfl, List.forall_mem_cons.mpr ⟨ze_s (by decide +kernel) rfl, List.forall_mem_cons.mpr ⟨ze_s (by decide +kernel) rfl, List.forall_mem_cons.mpr ⟨ze_s (by decide +kernel) rfl, List.forall_mem_cons.mpr ⟨ze_s (by decide +kernel) rfl, List.forall_mem_cons.mpr ⟨ze_s (by decide +kernel) rfl, List.forall_mem_cons.mpr ⟨ze_s (by decide +kernel) rfl, List.forall_mem_cons.mpr ⟨ze_cv (by decide +kernel) (by rfl) zY_X12_harm (Or.inl zw_1870) zw_1871 zw_1872 rfl, List.forall_mem_cons.mpr ⟨ze_s (by decide +kernel) rfl, List.forall_mem_cons.mpr ⟨ze_s (by decide +kernel) rfl, List.forall_mem_cons.mpr ⟨ze_cv (by decide +kernel) (by rfl) zY_X11_hooks (Or.inl zw_1014) zw_1015 zw_1016 rfl, List.forall_mem_cons.mpr ⟨ze_s (by decide +kernel) rfl, List.forall_mem_cons.mpr ⟨ze_cv (by decide +kernel) (by rfl) zY_X12_hooks (Or.inl zw_1874) zw_1875 zw_1876 rfl, List.forall_mem_cons.mpr ⟨ze_s (by decide +kernel) rfl, List.forall_mem_cons.mpr ⟨ze_s (by decide +kernel) rfl, List.forall_mem_cons.mpr ⟨ze_cv (by decide +kernel) (by rfl) zY_X11_surely (Or.inl zw_1035) zw_1036 zw_1037 rfl, List.forall_mem_cons.mpr ⟨ze_s (by decide +kernel) rfl, List.forall_mem_cons.mpr ⟨ze_cv (by decide +kernel) (by rfl) zY_X12_surely (Or.inl zw_1882) zw_1883 zw_1884 rfl, List.forall_mem_cons.mpr ⟨ze_s (by decide +kernel) rfl, List.forall_mem_cons.mpr ⟨ze_s (by decide +kernel) rfl, List.forall_mem_cons.mpr ⟨ze_cv (by decide +kernel) (by rfl) zY_X11_never (Or.inl zw_1039) zw_1040 zw_1041 rfl, List.forall_mem_cons.mpr ⟨ze_s (by decide +kernel) rfl, List.forall_mem_cons.mpr ⟨ze_cv (by decide +kernel) (by rfl) zY_X12_never (Or.inl zw_1886) zw_1887 zw_1888 rfl, List.forall_mem_cons.mpr ⟨ze_s (by decide +kernel) rfl, List.forall_mem_cons.mpr ⟨ze_s (by decide +kernel) rfl, List.forall_mem_cons.mpr ⟨ze_cv (by decide +kernel) (by rfl) zY_X11_rounds (Or.inl zw_1043) zw_1044 zw_1045 rfl, List.forall_mem_cons.mpr ⟨ze_s (by decide +kernel) rfl, List.forall_mem_cons.mpr ⟨ze_cv (by decide +kernel) (by rfl) zY_X12_rounds (Or.inl zw_1890) zw_1891 zw_1892 rfl, List.forall_mem_cons.mpr ⟨ze_s (by decide +kernel) rfl, List.forall_mem_cons.mpr ⟨ze_s (by decide +kernel) rfl, List.forall_mem_cons.mpr ⟨ze_cv (by decide +kernel) (by rfl) zY_X11_price (Or.inl zw_1061) zw_1062 zw_1063 rfl, List.forall_mem_cons.mpr ⟨ze_s (by decide +kernel) rfl, List.forall_mem_cons.mpr ⟨ze_cv (by decide +kernel) (by rfl) zY_X12_price (Or.inl zw_1894) zw_1895 zw_1896 rfl, List.forall_mem_cons.mpr ⟨ze_s (by decide +kernel) rfl, List.forall_mem_cons.mpr ⟨ze_s (by decide +kernel) rfl, List.forall_mem_cons.mpr ⟨ze_s (by decide +kernel) rfl, List.forall_mem_cons.mpr ⟨ze_s (by decide +kernel) rfl, List.forall_mem_cons.mpr ⟨ze_s (by decide +kernel) rfl, List.forall_mem_cons.mpr ⟨ze_s (by decide +kernel) rfl, List.forall_mem_cons.mpr ⟨ze_s (by decide +kernel) rfl, List.forall_mem_cons.mpr ⟨ze_s (by decide +kernel) rfl, List.forall_mem_cons.mpr ⟨ze_s (by decide +kernel) rfl, List.forall_mem_cons.mpr ⟨ze_s (by decide +kernel) rfl, List.forall_mem_cons.mpr ⟨ze_s (by decide +kernel) rfl, List.forall_mem_cons.mpr ⟨ze_s (by decide +kernel) rfl, List.forall_mem_cons.mpr ⟨ze_cv (by decide +kernel) (by rfl) zY_X11_drawn (Or.inl zw_1065) zw_1066 zw_1067 rfl, List.forall_mem_cons.mpr ⟨ze_s (by decide +kernel) rfl, List.forall_mem_cons.mpr ⟨ze_s (by decide +kernel) rfl, List.forall_mem_cons.mpr ⟨ze_s (by decide +kernel) rfl, List.forall_mem_cons.mpr ⟨ze_s (by decide +kernel) rfl, List.forall_mem_cons.mpr ⟨ze_s (by decide +kernel) rfl, List.forall_mem_cons.mpr ⟨ze_s (by decide +kernel) rfl, List.forall_mem_cons.mpr ⟨ze_s (by decide +kernel) rfl, List.forall_mem_cons.mpr ⟨ze_s (by decide +kernel) rfl, List.forall_mem_cons.mpr ⟨ze_s (by decide +kernel) rfl, List.forall_mem_cons.mpr ⟨ze_s (by decide +kernel) rfl, List.forall_mem_cons.mpr ⟨ze_s (by decide +kernel) rfl, fun _ h => absurd h List.not_mem_nil⟩⟩⟩⟩⟩⟩⟩⟩⟩⟩⟩⟩⟩⟩⟩⟩⟩⟩⟩⟩⟩⟩⟩⟩⟩⟩⟩⟩⟩⟩⟩⟩⟩⟩⟩⟩⟩⟩⟩⟩⟩⟩⟩⟩⟩⟩⟩⟩⟩⟩⟩⟩⟩⟩⟩⟩⟩⟩⟩⟩⟩⟩⟩⟩⟩⟩⟩⟩⟩⟩⟩⟩⟩⟩⟩⟩⟩⟩⟩⟩⟩⟩⟩⟩⟩⟩⟩⟩⟩⟩
end
section
def zt_law6 : List zE := [(1183, .invokevirtual 162, [1, 138, 12]), (1186, .if_icmp .eq 217, []), (1191, .aload_n 1, []), (1192, .aload_n 0, []), (1193, .iload 4, []), (1195, .iconst 1, []), (1196, .iadd, []), (1197, .iaload, []), (1198, .aload_n 0, []), (1199, .iload 4, []), (1201, .iconst 2, []), (1202, .iadd, []), (1203, .iaload, []), (1204, .aload_n 0, []), (1205, .iload 4, []), (1207, .iconst 3, []), (1208, .iadd, []), (1209, .iaload, []), (1210, .invokevirtual 163, [1, 139, 11]), (1213, .aload_n 2, []), (1214, .aload_n 0, []), (1215, .iload 4, []), (1217, .iconst 1, []), (1218, .iadd, []), (1219, .iaload, []), (1220, .aload_n 0, []), (1221, .iload 4, []), (1223, .iconst 2, []), (1224, .iadd, []), (1225, .iaload, []), (1226, .aload_n 0, []), (1227, .iload 4, []), (1229, .iconst 3, []), (1230, .iadd, []), (1231, .iaload, []), (1232, .invokevirtual 167, [1, 140, 12]), (1235, .if_icmp .eq 168, []), (1240, .aload_n 1, []), (1241, .aload_n 0, []), (1242, .iload 4, []), (1244, .iconst 1, []), (1245, .iadd, []), (1246, .iaload, []), (1247, .invokevirtual 168, [1, 141, 11]), (1250, .aload_n 2, []), (1251, .aload_n 0, []), (1252, .iload 4, []), (1254, .iconst 1, []), (1255, .iadd, []), (1256, .iaload, []), (1257, .invokevirtual 171, [1, 142, 12]), (1260, .if_icmp .eq 143, []), (1265, .aload_n 1, []), (1266, .aload_n 0, []), (1267, .iload 4, []), (1269, .iconst 1, []), (1270, .iadd, []), (1271, .iaload, []), (1272, .invokevirtual 172, [1, 145, 11]), (1275, .aload_n 2, []), (1276, .aload_n 0, []), (1277, .iload 4, []), (1279, .iconst 1, []), (1280, .iadd, []), (1281, .iaload, []), (1282, .invokevirtual 175, [1, 146, 12]), (1285, .if_icmp .eq 118, []), (1290, .aload_n 1, []), (1291, .invokevirtual 176, [1, 147, 11]), (1294, .aload_n 2, []), (1295, .invokevirtual 179, [1, 154, 12]), (1298, .if_icmp .eq 105, []), (1303, .aload_n 1, []), (1304, .aload_n 0, []), (1305, .iload 4, []), (1307, .iconst 1, []), (1308, .iadd, []), (1309, .iaload, []), (1310, .invokevirtual 180, [1, 160, 11]), (1313, .aload_n 2, []), (1314, .aload_n 0, []), (1315, .iload 4, []), (1317, .iconst 1, []), (1318, .iadd, []), (1319, .iaload, []), (1320, .invokevirtual 183, [1, 161, 12]), (1323, .if_icmp .eq 80, []), (1328, .aload_n 1, []), (1329, .aload_n 0, []), (1330, .iload 4, [])]
set_option maxRecDepth 20000 in
theorem zo_law6 : ∀ en ∈ zt_law6, z_en zTB zNT vwCl zTF zDF zP x code en := List.forall_mem_cons.mpr ⟨ze_cv (by decide +kernel) (by rfl) zY_X12_drawn (Or.inl zw_1898) zw_1899 zw_1900 rfl, List.forall_mem_cons.mpr ⟨ze_s (by decide +kernel) rfl, List.forall_mem_cons.mpr ⟨ze_s (by decide +kernel) rfl, List.forall_mem_cons.mpr ⟨ze_s (by decide +kernel) rfl, List.forall_mem_cons.mpr ⟨ze_s (by decide +kernel) rfl, List.forall_mem_cons.mpr ⟨ze_s (by decide +kernel) rfl, List.forall_mem_cons.mpr ⟨ze_s (by decide +kernel) rfl, List.forall_mem_cons.mpr ⟨ze_s (by decide +kernel) rfl, List.forall_mem_cons.mpr ⟨ze_s (by decide +kernel) rfl, List.forall_mem_cons.mpr ⟨ze_s (by decide +kernel) rfl, List.forall_mem_cons.mpr ⟨ze_s (by decide +kernel) rfl, List.forall_mem_cons.mpr ⟨ze_s (by decide +kernel) rfl, List.forall_mem_cons.mpr ⟨ze_s (by decide +kernel) rfl, List.forall_mem_cons.mpr ⟨ze_s (by decide +kernel) rfl, List.forall_mem_cons.mpr ⟨ze_s (by decide +kernel) rfl, List.forall_mem_cons.mpr ⟨ze_s (by decide +kernel) rfl, List.forall_mem_cons.mpr ⟨ze_s (by decide +kernel) rfl, List.forall_mem_cons.mpr ⟨ze_s (by decide +kernel) rfl, List.forall_mem_cons.mpr ⟨ze_cv (by decide +kernel) (by rfl) zY_X11_odds (Or.inl zw_1089) zw_1090 zw_1091 rfl, List.forall_mem_cons.mpr ⟨ze_s (by decide +kernel) rfl, List.forall_mem_cons.mpr ⟨ze_s (by decide +kernel) rfl, List.forall_mem_cons.mpr ⟨ze_s (by decide +kernel) rfl, List.forall_mem_cons.mpr ⟨ze_s (by decide +kernel) rfl, List.forall_mem_cons.mpr ⟨ze_s (by decide +kernel) rfl, List.forall_mem_cons.mpr ⟨ze_s (by decide +kernel) rfl, List.forall_mem_cons.mpr ⟨ze_s (by decide +kernel) rfl, List.forall_mem_cons.mpr ⟨ze_s (by decide +kernel) rfl, List.forall_mem_cons.mpr ⟨ze_s (by decide +kernel) rfl, List.forall_mem_cons.mpr ⟨ze_s (by decide +kernel) rfl, List.forall_mem_cons.mpr ⟨ze_s (by decide +kernel) rfl, List.forall_mem_cons.mpr ⟨ze_s (by decide +kernel) rfl, List.forall_mem_cons.mpr ⟨ze_s (by decide +kernel) rfl, List.forall_mem_cons.mpr ⟨ze_s (by decide +kernel) rfl, List.forall_mem_cons.mpr ⟨ze_s (by decide +kernel) rfl, List.forall_mem_cons.mpr ⟨ze_s (by decide +kernel) rfl, List.forall_mem_cons.mpr ⟨ze_cv (by decide +kernel) (by rfl) zY_X12_odds (Or.inl zw_1915) zw_1916 zw_1917 rfl, List.forall_mem_cons.mpr ⟨ze_s (by decide +kernel) rfl, List.forall_mem_cons.mpr ⟨ze_s (by decide +kernel) rfl, List.forall_mem_cons.mpr ⟨ze_s (by decide +kernel) rfl, List.forall_mem_cons.mpr ⟨ze_s (by decide +kernel) rfl, List.forall_mem_cons.mpr ⟨ze_s (by decide +kernel) rfl, List.forall_mem_cons.mpr ⟨ze_s (by decide +kernel) rfl, List.forall_mem_cons.mpr ⟨ze_s (by decide +kernel) rfl, List.forall_mem_cons.mpr ⟨ze_cv (by decide +kernel) (by rfl) zY_X11_book (Or.inl zw_1101) zw_1102 zw_1103 rfl, List.forall_mem_cons.mpr ⟨ze_s (by decide +kernel) rfl, List.forall_mem_cons.mpr ⟨ze_s (by decide +kernel) rfl, List.forall_mem_cons.mpr ⟨ze_s (by decide +kernel) rfl, List.forall_mem_cons.mpr ⟨ze_s (by decide +kernel) rfl, List.forall_mem_cons.mpr ⟨ze_s (by decide +kernel) rfl, List.forall_mem_cons.mpr ⟨ze_s (by decide +kernel) rfl, List.forall_mem_cons.mpr ⟨ze_cv (by decide +kernel) (by rfl) zY_X12_book (Or.inl zw_1919) zw_1920 zw_1921 rfl, List.forall_mem_cons.mpr ⟨ze_s (by decide +kernel) rfl, List.forall_mem_cons.mpr ⟨ze_s (by decide +kernel) rfl, List.forall_mem_cons.mpr ⟨ze_s (by decide +kernel) rfl, List.forall_mem_cons.mpr ⟨ze_s (by decide +kernel) rfl, List.forall_mem_cons.mpr ⟨ze_s (by decide +kernel) rfl, List.forall_mem_cons.mpr ⟨ze_s (by decide +kernel) rfl, List.forall_mem_cons.mpr ⟨ze_s (by decide +kernel) rfl, List.forall_mem_cons.mpr ⟨ze_cv (by decide +kernel) (by rfl) zY_X11_told (Or.inl zw_1155) zw_1156 zw_1157 rfl, List.forall_mem_cons.mpr ⟨ze_s (by decide +kernel) rfl, List.forall_mem_cons.mpr ⟨ze_s (by decide +kernel) rfl, List.forall_mem_cons.mpr ⟨ze_s (by decide +kernel) rfl, List.forall_mem_cons.mpr ⟨ze_s (by decide +kernel) rfl, List.forall_mem_cons.mpr ⟨ze_s (by decide +kernel) rfl, List.forall_mem_cons.mpr ⟨ze_s (by decide +kernel) rfl, List.forall_mem_cons.mpr ⟨ze_cv (by decide +kernel) (by rfl) zY_X12_told (Or.inl zw_1931) zw_1932 zw_1933 rfl, List.forall_mem_cons.mpr ⟨ze_s (by decide +kernel) rfl, List.forall_mem_cons.mpr ⟨ze_s (by decide +kernel) rfl, List.forall_mem_cons.mpr ⟨ze_cv (by decide +kernel) (by rfl) zY_X11_sentence (Or.inl zw_1159) zw_1160 zw_1161 rfl, List.forall_mem_cons.mpr ⟨ze_s (by decide +kernel) rfl, List.forall_mem_cons.mpr ⟨ze_cv (by decide +kernel) (by rfl) zY_X12_sentence (Or.inl zw_1935) zw_1936 zw_1937 rfl, List.forall_mem_cons.mpr ⟨ze_s (by decide +kernel) rfl, List.forall_mem_cons.mpr ⟨ze_s (by decide +kernel) rfl, List.forall_mem_cons.mpr ⟨ze_s (by decide +kernel) rfl, List.forall_mem_cons.mpr ⟨ze_s (by decide +kernel) rfl, List.forall_mem_cons.mpr ⟨ze_s (by decide +kernel) rfl, List.forall_mem_cons.mpr ⟨ze_s (by decide +kernel) rfl, List.forall_mem_cons.mpr ⟨ze_s (by decide +kernel) rfl, List.forall_mem_cons.mpr ⟨ze_cv (by decide +kernel) (by rfl) zY_X11_said (Or.inl zw_1207) zw_1208 zw_1209 rfl, List.forall_mem_cons.mpr ⟨ze_s (by decide +kernel) rfl, List.forall_mem_cons.mpr ⟨ze_s (by decide +kernel) rfl, List.forall_mem_cons.mpr ⟨ze_s (by decide +kernel) rfl, List.forall_mem_cons.mpr ⟨ze_s (by decide +kernel) rfl, List.forall_mem_cons.mpr ⟨ze_s (by decide +kernel) rfl, List.forall_mem_cons.mpr ⟨ze_s (by decide +kernel) rfl, List.forall_mem_cons.mpr ⟨ze_cv (by decide +kernel) (by rfl) zY_X12_said (Or.inl zw_1963) zw_1964 zw_1965 rfl, List.forall_mem_cons.mpr ⟨ze_s (by decide +kernel) rfl, List.forall_mem_cons.mpr ⟨ze_s (by decide +kernel) rfl, List.forall_mem_cons.mpr ⟨ze_s (by decide +kernel) rfl, List.forall_mem_cons.mpr ⟨ze_s (by decide +kernel) rfl, fun _ h => absurd h List.not_mem_nil⟩⟩⟩⟩⟩⟩⟩⟩⟩⟩⟩⟩⟩⟩⟩⟩⟩⟩⟩⟩⟩⟩⟩⟩⟩⟩⟩⟩⟩⟩⟩⟩⟩⟩⟩⟩⟩⟩⟩⟩⟩⟩⟩⟩⟩⟩⟩⟩⟩⟩⟩⟩⟩⟩⟩⟩⟩⟩⟩⟩⟩⟩⟩⟩⟩⟩⟩⟩⟩⟩⟩⟩⟩⟩⟩⟩⟩⟩⟩⟩⟩⟩⟩⟩⟩⟩⟩⟩⟩⟩
end
section
def zt_law7 : List zE := [(1332, .iconst 1, []), (1333, .iadd, []), (1334, .iaload, []), (1335, .invokevirtual 184, [1, 162, 11]), (1338, .aload_n 2, []), (1339, .aload_n 0, []), (1340, .iload 4, []), (1342, .iconst 1, []), (1343, .iadd, []), (1344, .iaload, []), (1345, .invokevirtual 187, [1, 163, 12]), (1348, .if_icmp .eq 55, []), (1353, .aload_n 1, []), (1354, .aload_n 0, []), (1355, .iload 4, []), (1357, .iconst 1, []), (1358, .iadd, []), (1359, .iaload, []), (1360, .invokevirtual 188, [1, 166, 11]), (1363, .aload_n 2, []), (1364, .aload_n 0, []), (1365, .iload 4, []), (1367, .iconst 1, []), (1368, .iadd, []), (1369, .iaload, []), (1370, .invokevirtual 191, [1, 167, 12]), (1373, .if_icmp .eq 30, []), (1378, .aload_n 1, []), (1379, .aload_n 0, []), (1380, .iload 4, []), (1382, .iconst 1, []), (1383, .iadd, []), (1384, .iaload, []), (1385, .invokevirtual 192, [1, 168, 11]), (1388, .aload_n 2, []), (1389, .aload_n 0, []), (1390, .iload 4, []), (1392, .iconst 1, []), (1393, .iadd, []), (1394, .iaload, []), (1395, .invokevirtual 195, [1, 169, 12]), (1398, .if_icmp .eq 5, []), (1403, .iinc 4 6, []), (1406, .goto (-1383), []), (1409, .iconst 1, []), (1410, .ireturn, [])]
set_option maxRecDepth 20000 in
theorem zo_law7 : ∀ en ∈ zt_law7, z_en zTB zNT vwCl zTF zDF zP x code en := List.forall_mem_cons.mpr ⟨ze_s (by decide +kernel) rfl, List.forall_mem_cons.mpr ⟨ze_s (by decide +kernel) rfl, List.forall_mem_cons.mpr ⟨ze_s (by decide +kernel) rfl, List.forall_mem_cons.mpr ⟨ze_cv (by decide +kernel) (by rfl) zY_X11_image (Or.inl zw_1238) zw_1239 zw_1240 rfl, List.forall_mem_cons.mpr ⟨ze_s (by decide +kernel) rfl, List.forall_mem_cons.mpr ⟨ze_s (by decide +kernel) rfl, List.forall_mem_cons.mpr ⟨ze_s (by decide +kernel) rfl, List.forall_mem_cons.mpr ⟨ze_s (by decide +kernel) rfl, List.forall_mem_cons.mpr ⟨ze_s (by decide +kernel) rfl, List.forall_mem_cons.mpr ⟨ze_s (by decide +kernel) rfl, List.forall_mem_cons.mpr ⟨ze_cv (by decide +kernel) (by rfl) zY_X12_image (Or.inl zw_1975) zw_1976 zw_1977 rfl, List.forall_mem_cons.mpr ⟨ze_s (by decide +kernel) rfl, List.forall_mem_cons.mpr ⟨ze_s (by decide +kernel) rfl, List.forall_mem_cons.mpr ⟨ze_s (by decide +kernel) rfl, List.forall_mem_cons.mpr ⟨ze_s (by decide +kernel) rfl, List.forall_mem_cons.mpr ⟨ze_s (by decide +kernel) rfl, List.forall_mem_cons.mpr ⟨ze_s (by decide +kernel) rfl, List.forall_mem_cons.mpr ⟨ze_s (by decide +kernel) rfl, List.forall_mem_cons.mpr ⟨ze_cv (by decide +kernel) (by rfl) zY_X11_restore (Or.inl zw_1249) zw_1250 zw_1251 rfl, List.forall_mem_cons.mpr ⟨ze_s (by decide +kernel) rfl, List.forall_mem_cons.mpr ⟨ze_s (by decide +kernel) rfl, List.forall_mem_cons.mpr ⟨ze_s (by decide +kernel) rfl, List.forall_mem_cons.mpr ⟨ze_s (by decide +kernel) rfl, List.forall_mem_cons.mpr ⟨ze_s (by decide +kernel) rfl, List.forall_mem_cons.mpr ⟨ze_s (by decide +kernel) rfl, List.forall_mem_cons.mpr ⟨ze_cv (by decide +kernel) (by rfl) zY_X12_restore (Or.inl zw_1979) zw_1980 zw_1981 rfl, List.forall_mem_cons.mpr ⟨ze_s (by decide +kernel) rfl, List.forall_mem_cons.mpr ⟨ze_s (by decide +kernel) rfl, List.forall_mem_cons.mpr ⟨ze_s (by decide +kernel) rfl, List.forall_mem_cons.mpr ⟨ze_s (by decide +kernel) rfl, List.forall_mem_cons.mpr ⟨ze_s (by decide +kernel) rfl, List.forall_mem_cons.mpr ⟨ze_s (by decide +kernel) rfl, List.forall_mem_cons.mpr ⟨ze_s (by decide +kernel) rfl, List.forall_mem_cons.mpr ⟨ze_cv (by decide +kernel) (by rfl) zY_X11_count (Or.inl zw_1257) zw_1258 zw_1259 rfl, List.forall_mem_cons.mpr ⟨ze_s (by decide +kernel) rfl, List.forall_mem_cons.mpr ⟨ze_s (by decide +kernel) rfl, List.forall_mem_cons.mpr ⟨ze_s (by decide +kernel) rfl, List.forall_mem_cons.mpr ⟨ze_s (by decide +kernel) rfl, List.forall_mem_cons.mpr ⟨ze_s (by decide +kernel) rfl, List.forall_mem_cons.mpr ⟨ze_s (by decide +kernel) rfl, List.forall_mem_cons.mpr ⟨ze_cv (by decide +kernel) (by rfl) zY_X12_count (Or.inl zw_1983) zw_1984 zw_1985 rfl, List.forall_mem_cons.mpr ⟨ze_s (by decide +kernel) rfl, List.forall_mem_cons.mpr ⟨ze_s (by decide +kernel) rfl, List.forall_mem_cons.mpr ⟨ze_s (by decide +kernel) rfl, List.forall_mem_cons.mpr ⟨ze_s (by decide +kernel) rfl, List.forall_mem_cons.mpr ⟨ze_s (by decide +kernel) rfl, fun _ h => absurd h List.not_mem_nil⟩⟩⟩⟩⟩⟩⟩⟩⟩⟩⟩⟩⟩⟩⟩⟩⟩⟩⟩⟩⟩⟩⟩⟩⟩⟩⟩⟩⟩⟩⟩⟩⟩⟩⟩⟩⟩⟩⟩⟩⟩⟩⟩⟩⟩⟩
end
section
def zt_law : List zE := zt_law0 ++ (zt_law1 ++ (zt_law2 ++ (zt_law3 ++ (zt_law4 ++ (zt_law5 ++ (zt_law6 ++ (zt_law7)))))))
def zm_law : zM := (x, code, 7, ret, zt_law, 600000, 7000000, 1)
theorem zo_law : z_Mok zTB zNT vwCl zTF zDF zP zm_law := ⟨by decide +kernel, List.forall_mem_append.mpr ⟨zo_law0, List.forall_mem_append.mpr ⟨zo_law1, List.forall_mem_append.mpr ⟨zo_law2, List.forall_mem_append.mpr ⟨zo_law3, List.forall_mem_append.mpr ⟨zo_law4, List.forall_mem_append.mpr ⟨zo_law5, List.forall_mem_append.mpr ⟨zo_law6, zo_law7⟩⟩⟩⟩⟩⟩⟩⟩
set_option maxRecDepth 20000 in
theorem zP_ok : ∀ M ∈ zP, z_Mok zTB zNT vwCl zTF zDF zP M := List.forall_mem_cons.mpr ⟨zo_X11_init, List.forall_mem_cons.mpr ⟨zo_X3_init, List.forall_mem_cons.mpr ⟨zo_X5_init, List.forall_mem_cons.mpr ⟨zo_X3_clear, List.forall_mem_cons.mpr ⟨zo_X5_clear, List.forall_mem_cons.mpr ⟨zo_X4_init, List.forall_mem_cons.mpr ⟨zo_X9_init, List.forall_mem_cons.mpr ⟨zo_X6_init, List.forall_mem_cons.mpr ⟨zo_X7_init, List.forall_mem_cons.mpr ⟨zo_X8_init, List.forall_mem_cons.mpr ⟨zo_X0_init, List.forall_mem_cons.mpr ⟨zo_X1_init, List.forall_mem_cons.mpr ⟨zo_X2_init, List.forall_mem_cons.mpr ⟨zo_X12_init, List.forall_mem_cons.mpr ⟨zo_X12_clears, List.forall_mem_cons.mpr ⟨zo_X11_feed, List.forall_mem_cons.mpr ⟨zo_X10_addNumber, List.forall_mem_cons.mpr ⟨zo_X12_feed, List.forall_mem_cons.mpr ⟨zo_X12_four, List.forall_mem_cons.mpr ⟨zo_X11_end, List.forall_mem_cons.mpr ⟨zo_X12_end, List.forall_mem_cons.mpr ⟨zo_X11_capital, List.forall_mem_cons.mpr ⟨zo_X4_readText, List.forall_mem_cons.mpr ⟨zo_X10_open, List.forall_mem_cons.mpr ⟨zo_X10_advance, List.forall_mem_cons.mpr ⟨zo_X10_firstUnblank, List.forall_mem_cons.mpr ⟨zo_X10_stopAtEnd, List.forall_mem_cons.mpr ⟨zo_X10_isOver, List.forall_mem_cons.mpr ⟨zo_X11_closeTape, List.forall_mem_cons.mpr ⟨zo_X3_copyFrom, List.forall_mem_cons.mpr ⟨zo_X5_copyFrom, List.forall_mem_cons.mpr ⟨zo_X9_begin, List.forall_mem_cons.mpr ⟨zo_J7_fill_53178, List.forall_mem_cons.mpr ⟨zo_X7_clear, List.forall_mem_cons.mpr ⟨zo_X6_clear, List.forall_mem_cons.mpr ⟨zo_X12_capital, List.forall_mem_cons.mpr ⟨zo_X12_taken, List.forall_mem_cons.mpr ⟨zo_X12_next, List.forall_mem_cons.mpr ⟨zo_X12_peek, List.forall_mem_cons.mpr ⟨zo_X11_fault, List.forall_mem_cons.mpr ⟨zo_X12_fault, List.forall_mem_cons.mpr ⟨zo_X11_seat, List.forall_mem_cons.mpr ⟨zo_X3_hasSeat, List.forall_mem_cons.mpr ⟨zo_X12_seat, List.forall_mem_cons.mpr ⟨zo_X12_isSeat, List.forall_mem_cons.mpr ⟨zo_X12_isIn, List.forall_mem_cons.mpr ⟨zo_X11_now, List.forall_mem_cons.mpr ⟨zo_X12_now, List.forall_mem_cons.mpr ⟨zo_X3_coldOn, List.forall_mem_cons.mpr ⟨zo_X12_coldOn, List.forall_mem_cons.mpr ⟨zo_X3_isSummer, List.forall_mem_cons.mpr ⟨zo_X12_isSummer, List.forall_mem_cons.mpr ⟨zo_X9_ruler, List.forall_mem_cons.mpr ⟨zo_X9_rulerWithoutSummer, List.forall_mem_cons.mpr ⟨zo_X12_ruler, List.forall_mem_cons.mpr ⟨zo_X12_rulerBy, List.forall_mem_cons.mpr ⟨zo_X9_eaten, List.forall_mem_cons.mpr ⟨zo_X9_coatsAt, List.forall_mem_cons.mpr ⟨zo_X12_coatsAt, List.forall_mem_cons.mpr ⟨zo_X11_lay, List.forall_mem_cons.mpr ⟨zo_X3_hasCoat, List.forall_mem_cons.mpr ⟨zo_X12_lay, List.forall_mem_cons.mpr ⟨zo_X12_isCoat, List.forall_mem_cons.mpr ⟨zo_X11_wear, List.forall_mem_cons.mpr ⟨zo_X3_hasMan, List.forall_mem_cons.mpr ⟨zo_X12_wear, List.forall_mem_cons.mpr ⟨zo_X12_isMan, List.forall_mem_cons.mpr ⟨zo_X11_lend, List.forall_mem_cons.mpr ⟨zo_X12_lend, List.forall_mem_cons.mpr ⟨zo_X11_keep, List.forall_mem_cons.mpr ⟨zo_X12_keep, List.forall_mem_cons.mpr ⟨zo_X11_days, List.forall_mem_cons.mpr ⟨zo_X11_isDays, List.forall_mem_cons.mpr ⟨zo_X12_days, List.forall_mem_cons.mpr ⟨zo_X6_mark, List.forall_mem_cons.mpr ⟨zo_X9_copyFrom, List.forall_mem_cons.mpr ⟨zo_X9_passDays, List.forall_mem_cons.mpr ⟨zo_X9_daysLeftOf, List.forall_mem_cons.mpr ⟨zo_X9_passDay, List.forall_mem_cons.mpr ⟨zo_X9_freeze, List.forall_mem_cons.mpr ⟨zo_X11_undoableIfAny, List.forall_mem_cons.mpr ⟨zo_X6_hold, List.forall_mem_cons.mpr ⟨zo_X12_keepsAll, List.forall_mem_cons.mpr ⟨zo_X12_goesOn, List.forall_mem_cons.mpr ⟨zo_X12_day, List.forall_mem_cons.mpr ⟨zo_X11_undo, List.forall_mem_cons.mpr ⟨zo_X6_takeBack, List.forall_mem_cons.mpr ⟨zo_X12_undo, List.forall_mem_cons.mpr ⟨zo_X11_best, List.forall_mem_cons.mpr ⟨zo_X12_best, List.forall_mem_cons.mpr ⟨zo_X11_laid, List.forall_mem_cons.mpr ⟨zo_X12_laid, List.forall_mem_cons.mpr ⟨zo_X11_share, List.forall_mem_cons.mpr ⟨zo_X12_share, List.forall_mem_cons.mpr ⟨zo_X11_turns, List.forall_mem_cons.mpr ⟨zo_X12_turns, List.forall_mem_cons.mpr ⟨zo_X11_ahead, List.forall_mem_cons.mpr ⟨zo_X12_ahead, List.forall_mem_cons.mpr ⟨zo_X11_queue, List.forall_mem_cons.mpr ⟨zo_X12_queue, List.forall_mem_cons.mpr ⟨zo_X11_bribes, List.forall_mem_cons.mpr ⟨zo_X9_inCloakroom, List.forall_mem_cons.mpr ⟨zo_X12_bribes, List.forall_mem_cons.mpr ⟨zo_X1_fewestBribes, List.forall_mem_cons.mpr ⟨zo_X12_bits, List.forall_mem_cons.mpr ⟨zo_X11_frost, List.forall_mem_cons.mpr ⟨zo_X12_frost, List.forall_mem_cons.mpr ⟨zo_X12_areTwo, List.forall_mem_cons.mpr ⟨zo_X11_frostAt, List.forall_mem_cons.mpr ⟨zo_X12_frostAt, List.forall_mem_cons.mpr ⟨zo_X11_word, List.forall_mem_cons.mpr ⟨zo_X12_word, List.forall_mem_cons.mpr ⟨zo_X1_daysRuledOtherwise, List.forall_mem_cons.mpr ⟨zo_X1_trialOfNow, List.forall_mem_cons.mpr ⟨zo_X12_tries, List.forall_mem_cons.mpr ⟨zo_X12_back, List.forall_mem_cons.mpr ⟨zo_X11_bare, List.forall_mem_cons.mpr ⟨zo_X1_firstDayRuledBy, List.forall_mem_cons.mpr ⟨zo_X12_bare, List.forall_mem_cons.mpr ⟨zo_X12_firstOf, List.forall_mem_cons.mpr ⟨zo_X11_rules, List.forall_mem_cons.mpr ⟨zo_X12_rules, List.forall_mem_cons.mpr ⟨zo_X11_harm, List.forall_mem_cons.mpr ⟨zo_X12_harm, List.forall_mem_cons.mpr ⟨zo_X11_hooks, List.forall_mem_cons.mpr ⟨zo_X1_waysToHaveLain, List.forall_mem_cons.mpr ⟨zo_X12_hooks, List.forall_mem_cons.mpr ⟨zo_X11_surely, List.forall_mem_cons.mpr ⟨zo_X12_surely, List.forall_mem_cons.mpr ⟨zo_X11_never, List.forall_mem_cons.mpr ⟨zo_X12_never, List.forall_mem_cons.mpr ⟨zo_X11_rounds, List.forall_mem_cons.mpr ⟨zo_X1_roundsTillRest, List.forall_mem_cons.mpr ⟨zo_X1_menWanting, List.forall_mem_cons.mpr ⟨zo_X12_rounds, List.forall_mem_cons.mpr ⟨zo_X11_price, List.forall_mem_cons.mpr ⟨zo_X12_price, List.forall_mem_cons.mpr ⟨zo_X11_drawn, List.forall_mem_cons.mpr ⟨zo_X12_drawn, List.forall_mem_cons.mpr ⟨zo_X11_odds, List.forall_mem_cons.mpr ⟨zo_X12_odds, List.forall_mem_cons.mpr ⟨zo_X11_book, List.forall_mem_cons.mpr ⟨zo_X12_book, List.forall_mem_cons.mpr ⟨zo_X0_readText, List.forall_mem_cons.mpr ⟨zo_X0_judge, List.forall_mem_cons.mpr ⟨zo_X11_told, List.forall_mem_cons.mpr ⟨zo_X12_told, List.forall_mem_cons.mpr ⟨zo_X11_sentence, List.forall_mem_cons.mpr ⟨zo_X8_open, List.forall_mem_cons.mpr ⟨zo_X8_readCond, List.forall_mem_cons.mpr ⟨zo_X8_readAll, List.forall_mem_cons.mpr ⟨zo_X8_readOne, List.forall_mem_cons.mpr ⟨zo_X10_isSign, List.forall_mem_cons.mpr ⟨zo_X10_refuse, List.forall_mem_cons.mpr ⟨zo_X12_sentence, List.forall_mem_cons.mpr ⟨zo_X12_operand, List.forall_mem_cons.mpr ⟨zo_X12_isWord, List.forall_mem_cons.mpr ⟨zo_X12_isSign, List.forall_mem_cons.mpr ⟨zo_X12_leafOf, List.forall_mem_cons.mpr ⟨zo_X12_bad, List.forall_mem_cons.mpr ⟨zo_X11_said, List.forall_mem_cons.mpr ⟨zo_X12_said, List.forall_mem_cons.mpr ⟨zo_X11_image, List.forall_mem_cons.mpr ⟨zo_X12_image, List.forall_mem_cons.mpr ⟨zo_X2_take, List.forall_mem_cons.mpr ⟨zo_X7_copyFrom, List.forall_mem_cons.mpr ⟨zo_X11_restore, List.forall_mem_cons.mpr ⟨zo_X12_restore, List.forall_mem_cons.mpr ⟨zo_X11_count, List.forall_mem_cons.mpr ⟨zo_X12_count, fun _ h => absurd h List.not_mem_nil⟩⟩⟩⟩⟩⟩⟩⟩⟩⟩⟩⟩⟩⟩⟩⟩⟩⟩⟩⟩⟩⟩⟩⟩⟩⟩⟩⟩⟩⟩⟩⟩⟩⟩⟩⟩⟩⟩⟩⟩⟩⟩⟩⟩⟩⟩⟩⟩⟩⟩⟩⟩⟩⟩⟩⟩⟩⟩⟩⟩⟩⟩⟩⟩⟩⟩⟩⟩⟩⟩⟩⟩⟩⟩⟩⟩⟩⟩⟩⟩⟩⟩⟩⟩⟩⟩⟩⟩⟩⟩⟩⟩⟩⟩⟩⟩⟩⟩⟩⟩⟩⟩⟩⟩⟩⟩⟩⟩⟩⟩⟩⟩⟩⟩⟩⟩⟩⟩⟩⟩⟩⟩⟩⟩⟩⟩⟩⟩⟩⟩⟩⟩⟩⟩⟩⟩⟩⟩⟩⟩⟩⟩⟩⟩⟩⟩⟩⟩⟩⟩⟩⟩⟩⟩⟩⟩⟩⟩⟩⟩⟩⟩⟩⟩⟩⟩⟩⟩⟩⟩
theorem z_prog : z_all zTB zNT vwCl zTF zDF zP := ⟨zTB_good, ⟨_, _, rfl⟩, ⟨_, _, rfl⟩, fun _ M h => zP_ok M (List.mem_of_getElem? h)⟩
/-- the cells when both objects are made -/
def zw0 : zW := [.inl (11, [.inr (.inl (some 2)), .inr (.inl (some 5)), .inr (.inl (some 17)), .inr (.inl (some 30)), .inr (.inl (some 39)), .inr (.inl (some 122)), .inr (.inl (some 127)), .inr (.inl (some 137)), .inr (.inl (some 142)), .inr (.inl (some 155)), .inl (.inl (some 0))]),
  .inl (10, [.inr (.inl (some 3)), .inr (.inl (some 4)), .inl (.inl (some 0)), .inl (.inl (some 0)), .inl (.inl (some 0)), .inl (.inl (some 0)), .inl (.inl (some 0)), .inl (.inl (some 0)), .inr (.inr ()), .inl (.inl (some 0)), .inl (.inl (some 0))]),
  .inr (.inl (0, List.replicate 940 (.inl (some 0)))),
  .inr (.inr (.inl 24)),
  .inl (3, [.inl (.inl (some 0)), .inl (.inl (some 0)), .inl (.inl (some 0)), .inl (.inl (some 0)), .inl (.inl (some 0)), .inl (.inl (some 9)), .inl (.inl (some 1)), .inl (.inl (some 200)), .inr (.inl (some 6)), .inr (.inl (some 7)), .inr (.inl (some 8)), .inr (.inl (some 9)), .inr (.inl (some 10)), .inr (.inl (some 11)), .inr (.inl (some 12)), .inr (.inl (some 13))]),
  .inr (.inl (0, [(.inl (some 0)), (.inl (some 0)), (.inl (some 0)), (.inl (some 0)), (.inl (some 0)), (.inl (some 0)), (.inl (some 0)), (.inl (some 0))])),
  .inr (.inl (0, [(.inl (some 0)), (.inl (some 0)), (.inl (some 0)), (.inl (some 0)), (.inl (some 0)), (.inl (some 0))])),
  .inr (.inl (0, [(.inl (some 0)), (.inl (some 0)), (.inl (some 0)), (.inl (some 0)), (.inl (some 0)), (.inl (some 0)), (.inl (some 0)), (.inl (some 0))])),
  .inr (.inl (0, [(.inl (some 0)), (.inl (some 0)), (.inl (some 0)), (.inl (some 0)), (.inl (some 0)), (.inl (some 0)), (.inl (some 0)), (.inl (some 0))])),
  .inr (.inl (0, [(.inl (some 0)), (.inl (some 0)), (.inl (some 0)), (.inl (some 0)), (.inl (some 0)), (.inl (some 0)), (.inl (some 0)), (.inl (some 0))])),
  .inr (.inl (0, [(.inl (some 0)), (.inl (some 0)), (.inl (some 0)), (.inl (some 0)), (.inl (some 0)), (.inl (some 0)), (.inl (some 0)), (.inl (some 0))])),
  .inr (.inl (0, [(.inl (some 0)), (.inl (some 0)), (.inl (some 0)), (.inl (some 0)), (.inl (some 0)), (.inl (some 0)), (.inl (some 0)), (.inl (some 0))])),
  .inl (5, [.inr (.inl (some 14)), .inr (.inl (some 15)), .inr (.inl (some 16)), .inl (.inl (some 0))]),
  .inr (.inr (.inl 22)),
  .inr (.inl (0, List.replicate 22 (.inl (some 0)))),
  .inr (.inl (0, List.replicate 22 (.inl (some 0)))),
  .inl (4, [.inr (.inl (some 2)), .inr (.inl (some 18)), .inl (.inl (some 0)), .inl (.inl (some 0))]),
  .inl (3, [.inl (.inl (some 0)), .inl (.inl (some 0)), .inl (.inl (some 0)), .inl (.inl (some 0)), .inl (.inl (some 0)), .inl (.inl (some 9)), .inl (.inl (some 1)), .inl (.inl (some 200)), .inr (.inl (some 19)), .inr (.inl (some 20)), .inr (.inl (some 21)), .inr (.inl (some 22)), .inr (.inl (some 23)), .inr (.inl (some 24)), .inr (.inl (some 25)), .inr (.inl (some 26))]),
  .inr (.inl (0, [(.inl (some 0)), (.inl (some 0)), (.inl (some 0)), (.inl (some 0)), (.inl (some 0)), (.inl (some 0)), (.inl (some 0)), (.inl (some 0))])),
  .inr (.inl (0, [(.inl (some 0)), (.inl (some 0)), (.inl (some 0)), (.inl (some 0)), (.inl (some 0)), (.inl (some 0))])),
  .inr (.inl (0, [(.inl (some 0)), (.inl (some 0)), (.inl (some 0)), (.inl (some 0)), (.inl (some 0)), (.inl (some 0)), (.inl (some 0)), (.inl (some 0))])),
  .inr (.inl (0, [(.inl (some 0)), (.inl (some 0)), (.inl (some 0)), (.inl (some 0)), (.inl (some 0)), (.inl (some 0)), (.inl (some 0)), (.inl (some 0))])),
  .inr (.inl (0, [(.inl (some 0)), (.inl (some 0)), (.inl (some 0)), (.inl (some 0)), (.inl (some 0)), (.inl (some 0)), (.inl (some 0)), (.inl (some 0))])),
  .inr (.inl (0, [(.inl (some 0)), (.inl (some 0)), (.inl (some 0)), (.inl (some 0)), (.inl (some 0)), (.inl (some 0)), (.inl (some 0)), (.inl (some 0))])),
  .inr (.inl (0, [(.inl (some 0)), (.inl (some 0)), (.inl (some 0)), (.inl (some 0)), (.inl (some 0)), (.inl (some 0)), (.inl (some 0)), (.inl (some 0))])),
  .inl (5, [.inr (.inl (some 27)), .inr (.inl (some 28)), .inr (.inl (some 29)), .inl (.inl (some 0))]),
  .inr (.inr (.inl 22)),
  .inr (.inl (0, List.replicate 22 (.inl (some 0)))),
  .inr (.inl (0, List.replicate 22 (.inl (some 0)))),
  .inl (9, [.inr (.inl (some 5)), .inl (.inl (some 0)), .inl (.inl (some 0)), .inl (.inl (some (-1))), .inl (.inl (some 0)), .inr (.inl (some 31)), .inr (.inl (some 32)), .inr (.inl (some 33)), .inr (.inl (some 34)), .inr (.inl (some 35)), .inr (.inl (some 36)), .inr (.inl (some 37)), .inr (.inl (some 38))]),
  .inr (.inl (0, [(.inl (some 0)), (.inl (some 0)), (.inl (some 0)), (.inl (some 0)), (.inl (some 0)), (.inl (some 0)), (.inl (some 0)), (.inl (some 0))])),
  .inr (.inl (0, [(.inl (some 0)), (.inl (some 0)), (.inl (some 0)), (.inl (some 0)), (.inl (some 0)), (.inl (some 0)), (.inl (some 0)), (.inl (some 0))])),
  .inr (.inl (0, [(.inl (some 0)), (.inl (some 0)), (.inl (some 0)), (.inl (some 0)), (.inl (some 0)), (.inl (some 0)), (.inl (some 0)), (.inl (some 0))])),
  .inr (.inl (0, [(.inl (some 0)), (.inl (some 0)), (.inl (some 0)), (.inl (some 0)), (.inl (some 0)), (.inl (some 0)), (.inl (some 0)), (.inl (some 0))])),
  .inr (.inl (0, [(.inl (some 0)), (.inl (some 0)), (.inl (some 0)), (.inl (some 0)), (.inl (some 0)), (.inl (some 0)), (.inl (some 0)), (.inl (some 0))])),
  .inr (.inl (0, [(.inl (some 0)), (.inl (some 0)), (.inl (some 0)), (.inl (some 0)), (.inl (some 0)), (.inl (some 0))])),
  .inr (.inl (0, [(.inl (some 0)), (.inl (some 0)), (.inl (some 0)), (.inl (some 0)), (.inl (some 0)), (.inl (some 0))])),
  .inr (.inl (0, [(.inl (some 0)), (.inl (some 0)), (.inl (some 0)), (.inl (some 0)), (.inl (some 0)), (.inl (some 0))])),
  .inl (6, [.inr (.inl (some 40)), .inl (.inl (some 0)), .inl (.inl (some 0))]),
  .inr (.inr (.inr (4, [some 41, some 50, some 59, some 68, some 77, some 86, some 95, some 104, some 113]))),
  .inl (9, [.inr (.inl (some 5)), .inl (.inl (some 0)), .inl (.inl (some 0)), .inl (.inl (some (-1))), .inl (.inl (some 0)), .inr (.inl (some 42)), .inr (.inl (some 43)), .inr (.inl (some 44)), .inr (.inl (some 45)), .inr (.inl (some 46)), .inr (.inl (some 47)), .inr (.inl (some 48)), .inr (.inl (some 49))]),
  .inr (.inl (0, [(.inl (some 0)), (.inl (some 0)), (.inl (some 0)), (.inl (some 0)), (.inl (some 0)), (.inl (some 0)), (.inl (some 0)), (.inl (some 0))])),
  .inr (.inl (0, [(.inl (some 0)), (.inl (some 0)), (.inl (some 0)), (.inl (some 0)), (.inl (some 0)), (.inl (some 0)), (.inl (some 0)), (.inl (some 0))])),
  .inr (.inl (0, [(.inl (some 0)), (.inl (some 0)), (.inl (some 0)), (.inl (some 0)), (.inl (some 0)), (.inl (some 0)), (.inl (some 0)), (.inl (some 0))])),
  .inr (.inl (0, [(.inl (some 0)), (.inl (some 0)), (.inl (some 0)), (.inl (some 0)), (.inl (some 0)), (.inl (some 0)), (.inl (some 0)), (.inl (some 0))])),
  .inr (.inl (0, [(.inl (some 0)), (.inl (some 0)), (.inl (some 0)), (.inl (some 0)), (.inl (some 0)), (.inl (some 0)), (.inl (some 0)), (.inl (some 0))])),
  .inr (.inl (0, [(.inl (some 0)), (.inl (some 0)), (.inl (some 0)), (.inl (some 0)), (.inl (some 0)), (.inl (some 0))])),
  .inr (.inl (0, [(.inl (some 0)), (.inl (some 0)), (.inl (some 0)), (.inl (some 0)), (.inl (some 0)), (.inl (some 0))])),
  .inr (.inl (0, [(.inl (some 0)), (.inl (some 0)), (.inl (some 0)), (.inl (some 0)), (.inl (some 0)), (.inl (some 0))])),
  .inl (9, [.inr (.inl (some 5)), .inl (.inl (some 0)), .inl (.inl (some 0)), .inl (.inl (some (-1))), .inl (.inl (some 0)), .inr (.inl (some 51)), .inr (.inl (some 52)), .inr (.inl (some 53)), .inr (.inl (some 54)), .inr (.inl (some 55)), .inr (.inl (some 56)), .inr (.inl (some 57)), .inr (.inl (some 58))]),
  .inr (.inl (0, [(.inl (some 0)), (.inl (some 0)), (.inl (some 0)), (.inl (some 0)), (.inl (some 0)), (.inl (some 0)), (.inl (some 0)), (.inl (some 0))])),
  .inr (.inl (0, [(.inl (some 0)), (.inl (some 0)), (.inl (some 0)), (.inl (some 0)), (.inl (some 0)), (.inl (some 0)), (.inl (some 0)), (.inl (some 0))])),
  .inr (.inl (0, [(.inl (some 0)), (.inl (some 0)), (.inl (some 0)), (.inl (some 0)), (.inl (some 0)), (.inl (some 0)), (.inl (some 0)), (.inl (some 0))])),
  .inr (.inl (0, [(.inl (some 0)), (.inl (some 0)), (.inl (some 0)), (.inl (some 0)), (.inl (some 0)), (.inl (some 0)), (.inl (some 0)), (.inl (some 0))])),
  .inr (.inl (0, [(.inl (some 0)), (.inl (some 0)), (.inl (some 0)), (.inl (some 0)), (.inl (some 0)), (.inl (some 0)), (.inl (some 0)), (.inl (some 0))])),
  .inr (.inl (0, [(.inl (some 0)), (.inl (some 0)), (.inl (some 0)), (.inl (some 0)), (.inl (some 0)), (.inl (some 0))])),
  .inr (.inl (0, [(.inl (some 0)), (.inl (some 0)), (.inl (some 0)), (.inl (some 0)), (.inl (some 0)), (.inl (some 0))])),
  .inr (.inl (0, [(.inl (some 0)), (.inl (some 0)), (.inl (some 0)), (.inl (some 0)), (.inl (some 0)), (.inl (some 0))])),
  .inl (9, [.inr (.inl (some 5)), .inl (.inl (some 0)), .inl (.inl (some 0)), .inl (.inl (some (-1))), .inl (.inl (some 0)), .inr (.inl (some 60)), .inr (.inl (some 61)), .inr (.inl (some 62)), .inr (.inl (some 63)), .inr (.inl (some 64)), .inr (.inl (some 65)), .inr (.inl (some 66)), .inr (.inl (some 67))]),
  .inr (.inl (0, [(.inl (some 0)), (.inl (some 0)), (.inl (some 0)), (.inl (some 0)), (.inl (some 0)), (.inl (some 0)), (.inl (some 0)), (.inl (some 0))])),
  .inr (.inl (0, [(.inl (some 0)), (.inl (some 0)), (.inl (some 0)), (.inl (some 0)), (.inl (some 0)), (.inl (some 0)), (.inl (some 0)), (.inl (some 0))])),
  .inr (.inl (0, [(.inl (some 0)), (.inl (some 0)), (.inl (some 0)), (.inl (some 0)), (.inl (some 0)), (.inl (some 0)), (.inl (some 0)), (.inl (some 0))])),
  .inr (.inl (0, [(.inl (some 0)), (.inl (some 0)), (.inl (some 0)), (.inl (some 0)), (.inl (some 0)), (.inl (some 0)), (.inl (some 0)), (.inl (some 0))])),
  .inr (.inl (0, [(.inl (some 0)), (.inl (some 0)), (.inl (some 0)), (.inl (some 0)), (.inl (some 0)), (.inl (some 0)), (.inl (some 0)), (.inl (some 0))])),
  .inr (.inl (0, [(.inl (some 0)), (.inl (some 0)), (.inl (some 0)), (.inl (some 0)), (.inl (some 0)), (.inl (some 0))])),
  .inr (.inl (0, [(.inl (some 0)), (.inl (some 0)), (.inl (some 0)), (.inl (some 0)), (.inl (some 0)), (.inl (some 0))])),
  .inr (.inl (0, [(.inl (some 0)), (.inl (some 0)), (.inl (some 0)), (.inl (some 0)), (.inl (some 0)), (.inl (some 0))])),
  .inl (9, [.inr (.inl (some 5)), .inl (.inl (some 0)), .inl (.inl (some 0)), .inl (.inl (some (-1))), .inl (.inl (some 0)), .inr (.inl (some 69)), .inr (.inl (some 70)), .inr (.inl (some 71)), .inr (.inl (some 72)), .inr (.inl (some 73)), .inr (.inl (some 74)), .inr (.inl (some 75)), .inr (.inl (some 76))]),
  .inr (.inl (0, [(.inl (some 0)), (.inl (some 0)), (.inl (some 0)), (.inl (some 0)), (.inl (some 0)), (.inl (some 0)), (.inl (some 0)), (.inl (some 0))])),
  .inr (.inl (0, [(.inl (some 0)), (.inl (some 0)), (.inl (some 0)), (.inl (some 0)), (.inl (some 0)), (.inl (some 0)), (.inl (some 0)), (.inl (some 0))])),
  .inr (.inl (0, [(.inl (some 0)), (.inl (some 0)), (.inl (some 0)), (.inl (some 0)), (.inl (some 0)), (.inl (some 0)), (.inl (some 0)), (.inl (some 0))])),
  .inr (.inl (0, [(.inl (some 0)), (.inl (some 0)), (.inl (some 0)), (.inl (some 0)), (.inl (some 0)), (.inl (some 0)), (.inl (some 0)), (.inl (some 0))])),
  .inr (.inl (0, [(.inl (some 0)), (.inl (some 0)), (.inl (some 0)), (.inl (some 0)), (.inl (some 0)), (.inl (some 0)), (.inl (some 0)), (.inl (some 0))])),
  .inr (.inl (0, [(.inl (some 0)), (.inl (some 0)), (.inl (some 0)), (.inl (some 0)), (.inl (some 0)), (.inl (some 0))])),
  .inr (.inl (0, [(.inl (some 0)), (.inl (some 0)), (.inl (some 0)), (.inl (some 0)), (.inl (some 0)), (.inl (some 0))])),
  .inr (.inl (0, [(.inl (some 0)), (.inl (some 0)), (.inl (some 0)), (.inl (some 0)), (.inl (some 0)), (.inl (some 0))])),
  .inl (9, [.inr (.inl (some 5)), .inl (.inl (some 0)), .inl (.inl (some 0)), .inl (.inl (some (-1))), .inl (.inl (some 0)), .inr (.inl (some 78)), .inr (.inl (some 79)), .inr (.inl (some 80)), .inr (.inl (some 81)), .inr (.inl (some 82)), .inr (.inl (some 83)), .inr (.inl (some 84)), .inr (.inl (some 85))]),
  .inr (.inl (0, [(.inl (some 0)), (.inl (some 0)), (.inl (some 0)), (.inl (some 0)), (.inl (some 0)), (.inl (some 0)), (.inl (some 0)), (.inl (some 0))])),
  .inr (.inl (0, [(.inl (some 0)), (.inl (some 0)), (.inl (some 0)), (.inl (some 0)), (.inl (some 0)), (.inl (some 0)), (.inl (some 0)), (.inl (some 0))])),
  .inr (.inl (0, [(.inl (some 0)), (.inl (some 0)), (.inl (some 0)), (.inl (some 0)), (.inl (some 0)), (.inl (some 0)), (.inl (some 0)), (.inl (some 0))])),
  .inr (.inl (0, [(.inl (some 0)), (.inl (some 0)), (.inl (some 0)), (.inl (some 0)), (.inl (some 0)), (.inl (some 0)), (.inl (some 0)), (.inl (some 0))])),
  .inr (.inl (0, [(.inl (some 0)), (.inl (some 0)), (.inl (some 0)), (.inl (some 0)), (.inl (some 0)), (.inl (some 0)), (.inl (some 0)), (.inl (some 0))])),
  .inr (.inl (0, [(.inl (some 0)), (.inl (some 0)), (.inl (some 0)), (.inl (some 0)), (.inl (some 0)), (.inl (some 0))])),
  .inr (.inl (0, [(.inl (some 0)), (.inl (some 0)), (.inl (some 0)), (.inl (some 0)), (.inl (some 0)), (.inl (some 0))])),
  .inr (.inl (0, [(.inl (some 0)), (.inl (some 0)), (.inl (some 0)), (.inl (some 0)), (.inl (some 0)), (.inl (some 0))])),
  .inl (9, [.inr (.inl (some 5)), .inl (.inl (some 0)), .inl (.inl (some 0)), .inl (.inl (some (-1))), .inl (.inl (some 0)), .inr (.inl (some 87)), .inr (.inl (some 88)), .inr (.inl (some 89)), .inr (.inl (some 90)), .inr (.inl (some 91)), .inr (.inl (some 92)), .inr (.inl (some 93)), .inr (.inl (some 94))]),
  .inr (.inl (0, [(.inl (some 0)), (.inl (some 0)), (.inl (some 0)), (.inl (some 0)), (.inl (some 0)), (.inl (some 0)), (.inl (some 0)), (.inl (some 0))])),
  .inr (.inl (0, [(.inl (some 0)), (.inl (some 0)), (.inl (some 0)), (.inl (some 0)), (.inl (some 0)), (.inl (some 0)), (.inl (some 0)), (.inl (some 0))])),
  .inr (.inl (0, [(.inl (some 0)), (.inl (some 0)), (.inl (some 0)), (.inl (some 0)), (.inl (some 0)), (.inl (some 0)), (.inl (some 0)), (.inl (some 0))])),
  .inr (.inl (0, [(.inl (some 0)), (.inl (some 0)), (.inl (some 0)), (.inl (some 0)), (.inl (some 0)), (.inl (some 0)), (.inl (some 0)), (.inl (some 0))])),
  .inr (.inl (0, [(.inl (some 0)), (.inl (some 0)), (.inl (some 0)), (.inl (some 0)), (.inl (some 0)), (.inl (some 0)), (.inl (some 0)), (.inl (some 0))])),
  .inr (.inl (0, [(.inl (some 0)), (.inl (some 0)), (.inl (some 0)), (.inl (some 0)), (.inl (some 0)), (.inl (some 0))])),
  .inr (.inl (0, [(.inl (some 0)), (.inl (some 0)), (.inl (some 0)), (.inl (some 0)), (.inl (some 0)), (.inl (some 0))])),
  .inr (.inl (0, [(.inl (some 0)), (.inl (some 0)), (.inl (some 0)), (.inl (some 0)), (.inl (some 0)), (.inl (some 0))])),
  .inl (9, [.inr (.inl (some 5)), .inl (.inl (some 0)), .inl (.inl (some 0)), .inl (.inl (some (-1))), .inl (.inl (some 0)), .inr (.inl (some 96)), .inr (.inl (some 97)), .inr (.inl (some 98)), .inr (.inl (some 99)), .inr (.inl (some 100)), .inr (.inl (some 101)), .inr (.inl (some 102)), .inr (.inl (some 103))]),
  .inr (.inl (0, [(.inl (some 0)), (.inl (some 0)), (.inl (some 0)), (.inl (some 0)), (.inl (some 0)), (.inl (some 0)), (.inl (some 0)), (.inl (some 0))])),
  .inr (.inl (0, [(.inl (some 0)), (.inl (some 0)), (.inl (some 0)), (.inl (some 0)), (.inl (some 0)), (.inl (some 0)), (.inl (some 0)), (.inl (some 0))])),
  .inr (.inl (0, [(.inl (some 0)), (.inl (some 0)), (.inl (some 0)), (.inl (some 0)), (.inl (some 0)), (.inl (some 0)), (.inl (some 0)), (.inl (some 0))])),
  .inr (.inl (0, [(.inl (some 0)), (.inl (some 0)), (.inl (some 0)), (.inl (some 0)), (.inl (some 0)), (.inl (some 0)), (.inl (some 0)), (.inl (some 0))])),
  .inr (.inl (0, [(.inl (some 0)), (.inl (some 0)), (.inl (some 0)), (.inl (some 0)), (.inl (some 0)), (.inl (some 0)), (.inl (some 0)), (.inl (some 0))])),
  .inr (.inl (0, [(.inl (some 0)), (.inl (some 0)), (.inl (some 0)), (.inl (some 0)), (.inl (some 0)), (.inl (some 0))])),
  .inr (.inl (0, [(.inl (some 0)), (.inl (some 0)), (.inl (some 0)), (.inl (some 0)), (.inl (some 0)), (.inl (some 0))])),
  .inr (.inl (0, [(.inl (some 0)), (.inl (some 0)), (.inl (some 0)), (.inl (some 0)), (.inl (some 0)), (.inl (some 0))])),
  .inl (9, [.inr (.inl (some 5)), .inl (.inl (some 0)), .inl (.inl (some 0)), .inl (.inl (some (-1))), .inl (.inl (some 0)), .inr (.inl (some 105)), .inr (.inl (some 106)), .inr (.inl (some 107)), .inr (.inl (some 108)), .inr (.inl (some 109)), .inr (.inl (some 110)), .inr (.inl (some 111)), .inr (.inl (some 112))]),
  .inr (.inl (0, [(.inl (some 0)), (.inl (some 0)), (.inl (some 0)), (.inl (some 0)), (.inl (some 0)), (.inl (some 0)), (.inl (some 0)), (.inl (some 0))])),
  .inr (.inl (0, [(.inl (some 0)), (.inl (some 0)), (.inl (some 0)), (.inl (some 0)), (.inl (some 0)), (.inl (some 0)), (.inl (some 0)), (.inl (some 0))])),
  .inr (.inl (0, [(.inl (some 0)), (.inl (some 0)), (.inl (some 0)), (.inl (some 0)), (.inl (some 0)), (.inl (some 0)), (.inl (some 0)), (.inl (some 0))])),
  .inr (.inl (0, [(.inl (some 0)), (.inl (some 0)), (.inl (some 0)), (.inl (some 0)), (.inl (some 0)), (.inl (some 0)), (.inl (some 0)), (.inl (some 0))])),
  .inr (.inl (0, [(.inl (some 0)), (.inl (some 0)), (.inl (some 0)), (.inl (some 0)), (.inl (some 0)), (.inl (some 0)), (.inl (some 0)), (.inl (some 0))])),
  .inr (.inl (0, [(.inl (some 0)), (.inl (some 0)), (.inl (some 0)), (.inl (some 0)), (.inl (some 0)), (.inl (some 0))])),
  .inr (.inl (0, [(.inl (some 0)), (.inl (some 0)), (.inl (some 0)), (.inl (some 0)), (.inl (some 0)), (.inl (some 0))])),
  .inr (.inl (0, [(.inl (some 0)), (.inl (some 0)), (.inl (some 0)), (.inl (some 0)), (.inl (some 0)), (.inl (some 0))])),
  .inl (9, [.inr (.inl (some 5)), .inl (.inl (some 0)), .inl (.inl (some 0)), .inl (.inl (some (-1))), .inl (.inl (some 0)), .inr (.inl (some 114)), .inr (.inl (some 115)), .inr (.inl (some 116)), .inr (.inl (some 117)), .inr (.inl (some 118)), .inr (.inl (some 119)), .inr (.inl (some 120)), .inr (.inl (some 121))]),
  .inr (.inl (0, [(.inl (some 0)), (.inl (some 0)), (.inl (some 0)), (.inl (some 0)), (.inl (some 0)), (.inl (some 0)), (.inl (some 0)), (.inl (some 0))])),
  .inr (.inl (0, [(.inl (some 0)), (.inl (some 0)), (.inl (some 0)), (.inl (some 0)), (.inl (some 0)), (.inl (some 0)), (.inl (some 0)), (.inl (some 0))])),
  .inr (.inl (0, [(.inl (some 0)), (.inl (some 0)), (.inl (some 0)), (.inl (some 0)), (.inl (some 0)), (.inl (some 0)), (.inl (some 0)), (.inl (some 0))])),
  .inr (.inl (0, [(.inl (some 0)), (.inl (some 0)), (.inl (some 0)), (.inl (some 0)), (.inl (some 0)), (.inl (some 0)), (.inl (some 0)), (.inl (some 0))])),
  .inr (.inl (0, [(.inl (some 0)), (.inl (some 0)), (.inl (some 0)), (.inl (some 0)), (.inl (some 0)), (.inl (some 0)), (.inl (some 0)), (.inl (some 0))])),
  .inr (.inl (0, [(.inl (some 0)), (.inl (some 0)), (.inl (some 0)), (.inl (some 0)), (.inl (some 0)), (.inl (some 0))])),
  .inr (.inl (0, [(.inl (some 0)), (.inl (some 0)), (.inl (some 0)), (.inl (some 0)), (.inl (some 0)), (.inl (some 0))])),
  .inr (.inl (0, [(.inl (some 0)), (.inl (some 0)), (.inl (some 0)), (.inl (some 0)), (.inl (some 0)), (.inl (some 0))])),
  .inl (7, [.inr (.inl (some 123)), .inr (.inl (some 124)), .inr (.inl (some 125)), .inr (.inl (some 126)), .inl (.inl (some 0)), .inl (.inl (some 0))]),
  .inr (.inl (0, List.replicate 40 (.inl (some 0)))),
  .inr (.inl (0, List.replicate 40 (.inl (some 0)))),
  .inr (.inl (0, List.replicate 40 (.inl (some 0)))),
  .inr (.inl (0, List.replicate 40 (.inl (some 0)))),
  .inl (8, [.inr (.inl (some 2)), .inr (.inl (some 128)), .inr (.inl (some 133))]),
  .inl (7, [.inr (.inl (some 129)), .inr (.inl (some 130)), .inr (.inl (some 131)), .inr (.inl (some 132)), .inl (.inl (some 0)), .inl (.inl (some 0))]),
  .inr (.inl (0, List.replicate 40 (.inl (some 0)))),
  .inr (.inl (0, List.replicate 40 (.inl (some 0)))),
  .inr (.inl (0, List.replicate 40 (.inl (some 0)))),
  .inr (.inl (0, List.replicate 40 (.inl (some 0)))),
  .inl (5, [.inr (.inl (some 134)), .inr (.inl (some 135)), .inr (.inl (some 136)), .inl (.inl (some 0))]),
  .inr (.inr (.inl 22)),
  .inr (.inl (0, List.replicate 22 (.inl (some 0)))),
  .inr (.inl (0, List.replicate 22 (.inl (some 0)))),
  .inl (0, [.inr (.inl (some 138)), .inr (.inl (some 139)), .inr (.inl (some 140)), .inr (.inl (some 141)), .inl (.inl (some 0))]),
  .inr (.inl (0, List.replicate 40 (.inl (some 0)))),
  .inr (.inl (0, List.replicate 40 (.inl (some 0)))),
  .inr (.inl (0, List.replicate 40 (.inl (some 0)))),
  .inr (.inl (0, [(.inl (some (-1))), (.inl (some (-1))), (.inl (some (-1))), (.inl (some (-1)))])),
  .inl (1, [.inr (.inl (some 5)), .inr (.inl (some 30)), .inr (.inl (some 146)), .inr (.inl (some 143)), .inr (.inl (some 144)), .inr (.inl (some 145)), .inl (.inl (some (-1))), .inl (.inl (some (-1))), .inl (.inl (some (-1))), .inl (.inl (some (-1))), .inl (.inl (some (-1))), .inl (.inl (some 0)), .inl (.inl (some 0)), .inl (.inl (some 0))]),
  .inr (.inl (0, List.replicate 9 (.inl (some 0)))),
  .inr (.inl (0, [(.inl (some 0)), (.inl (some 0)), (.inl (some 0)), (.inl (some 0)), (.inl (some 0)), (.inl (some 0))])),
  .inr (.inl (0, [(.inl (some 0)), (.inl (some 0)), (.inl (some 0)), (.inl (some 0)), (.inl (some 0)), (.inl (some 0))])),
  .inl (9, [.inr (.inl (some 5)), .inl (.inl (some 0)), .inl (.inl (some 0)), .inl (.inl (some (-1))), .inl (.inl (some 0)), .inr (.inl (some 147)), .inr (.inl (some 148)), .inr (.inl (some 149)), .inr (.inl (some 150)), .inr (.inl (some 151)), .inr (.inl (some 152)), .inr (.inl (some 153)), .inr (.inl (some 154))]),
  .inr (.inl (0, [(.inl (some 0)), (.inl (some 0)), (.inl (some 0)), (.inl (some 0)), (.inl (some 0)), (.inl (some 0)), (.inl (some 0)), (.inl (some 0))])),
  .inr (.inl (0, [(.inl (some 0)), (.inl (some 0)), (.inl (some 0)), (.inl (some 0)), (.inl (some 0)), (.inl (some 0)), (.inl (some 0)), (.inl (some 0))])),
  .inr (.inl (0, [(.inl (some 0)), (.inl (some 0)), (.inl (some 0)), (.inl (some 0)), (.inl (some 0)), (.inl (some 0)), (.inl (some 0)), (.inl (some 0))])),
  .inr (.inl (0, [(.inl (some 0)), (.inl (some 0)), (.inl (some 0)), (.inl (some 0)), (.inl (some 0)), (.inl (some 0)), (.inl (some 0)), (.inl (some 0))])),
  .inr (.inl (0, [(.inl (some 0)), (.inl (some 0)), (.inl (some 0)), (.inl (some 0)), (.inl (some 0)), (.inl (some 0)), (.inl (some 0)), (.inl (some 0))])),
  .inr (.inl (0, [(.inl (some 0)), (.inl (some 0)), (.inl (some 0)), (.inl (some 0)), (.inl (some 0)), (.inl (some 0))])),
  .inr (.inl (0, [(.inl (some 0)), (.inl (some 0)), (.inl (some 0)), (.inl (some 0)), (.inl (some 0)), (.inl (some 0))])),
  .inr (.inl (0, [(.inl (some 0)), (.inl (some 0)), (.inl (some 0)), (.inl (some 0)), (.inl (some 0)), (.inl (some 0))])),
  .inr (.inr (.inr (5, [some 156, some 183]))),
  .inl (2, [.inr (.inl (some 157)), .inr (.inl (some 169)), .inr (.inl (some 178)), .inl (.inl (some 0))]),
  .inl (3, [.inl (.inl (some 0)), .inl (.inl (some 0)), .inl (.inl (some 0)), .inl (.inl (some 0)), .inl (.inl (some 0)), .inl (.inl (some 9)), .inl (.inl (some 1)), .inl (.inl (some 200)), .inr (.inl (some 158)), .inr (.inl (some 159)), .inr (.inl (some 160)), .inr (.inl (some 161)), .inr (.inl (some 162)), .inr (.inl (some 163)), .inr (.inl (some 164)), .inr (.inl (some 165))]),
  .inr (.inl (0, [(.inl (some 0)), (.inl (some 0)), (.inl (some 0)), (.inl (some 0)), (.inl (some 0)), (.inl (some 0)), (.inl (some 0)), (.inl (some 0))])),
  .inr (.inl (0, [(.inl (some 0)), (.inl (some 0)), (.inl (some 0)), (.inl (some 0)), (.inl (some 0)), (.inl (some 0))])),
  .inr (.inl (0, [(.inl (some 0)), (.inl (some 0)), (.inl (some 0)), (.inl (some 0)), (.inl (some 0)), (.inl (some 0)), (.inl (some 0)), (.inl (some 0))])),
  .inr (.inl (0, [(.inl (some 0)), (.inl (some 0)), (.inl (some 0)), (.inl (some 0)), (.inl (some 0)), (.inl (some 0)), (.inl (some 0)), (.inl (some 0))])),
  .inr (.inl (0, [(.inl (some 0)), (.inl (some 0)), (.inl (some 0)), (.inl (some 0)), (.inl (some 0)), (.inl (some 0)), (.inl (some 0)), (.inl (some 0))])),
  .inr (.inl (0, [(.inl (some 0)), (.inl (some 0)), (.inl (some 0)), (.inl (some 0)), (.inl (some 0)), (.inl (some 0)), (.inl (some 0)), (.inl (some 0))])),
  .inr (.inl (0, [(.inl (some 0)), (.inl (some 0)), (.inl (some 0)), (.inl (some 0)), (.inl (some 0)), (.inl (some 0)), (.inl (some 0)), (.inl (some 0))])),
  .inl (5, [.inr (.inl (some 166)), .inr (.inl (some 167)), .inr (.inl (some 168)), .inl (.inl (some 0))]),
  .inr (.inr (.inl 22)),
  .inr (.inl (0, List.replicate 22 (.inl (some 0)))),
  .inr (.inl (0, List.replicate 22 (.inl (some 0)))),
  .inl (9, [.inr (.inl (some 157)), .inl (.inl (some 0)), .inl (.inl (some 0)), .inl (.inl (some (-1))), .inl (.inl (some 0)), .inr (.inl (some 170)), .inr (.inl (some 171)), .inr (.inl (some 172)), .inr (.inl (some 173)), .inr (.inl (some 174)), .inr (.inl (some 175)), .inr (.inl (some 176)), .inr (.inl (some 177))]),
  .inr (.inl (0, [(.inl (some 0)), (.inl (some 0)), (.inl (some 0)), (.inl (some 0)), (.inl (some 0)), (.inl (some 0)), (.inl (some 0)), (.inl (some 0))])),
  .inr (.inl (0, [(.inl (some 0)), (.inl (some 0)), (.inl (some 0)), (.inl (some 0)), (.inl (some 0)), (.inl (some 0)), (.inl (some 0)), (.inl (some 0))])),
  .inr (.inl (0, [(.inl (some 0)), (.inl (some 0)), (.inl (some 0)), (.inl (some 0)), (.inl (some 0)), (.inl (some 0)), (.inl (some 0)), (.inl (some 0))])),
  .inr (.inl (0, [(.inl (some 0)), (.inl (some 0)), (.inl (some 0)), (.inl (some 0)), (.inl (some 0)), (.inl (some 0)), (.inl (some 0)), (.inl (some 0))])),
  .inr (.inl (0, [(.inl (some 0)), (.inl (some 0)), (.inl (some 0)), (.inl (some 0)), (.inl (some 0)), (.inl (some 0)), (.inl (some 0)), (.inl (some 0))])),
  .inr (.inl (0, [(.inl (some 0)), (.inl (some 0)), (.inl (some 0)), (.inl (some 0)), (.inl (some 0)), (.inl (some 0))])),
  .inr (.inl (0, [(.inl (some 0)), (.inl (some 0)), (.inl (some 0)), (.inl (some 0)), (.inl (some 0)), (.inl (some 0))])),
  .inr (.inl (0, [(.inl (some 0)), (.inl (some 0)), (.inl (some 0)), (.inl (some 0)), (.inl (some 0)), (.inl (some 0))])),
  .inl (7, [.inr (.inl (some 179)), .inr (.inl (some 180)), .inr (.inl (some 181)), .inr (.inl (some 182)), .inl (.inl (some 0)), .inl (.inl (some 0))]),
  .inr (.inl (0, List.replicate 40 (.inl (some 0)))),
  .inr (.inl (0, List.replicate 40 (.inl (some 0)))),
  .inr (.inl (0, List.replicate 40 (.inl (some 0)))),
  .inr (.inl (0, List.replicate 40 (.inl (some 0)))),
  .inl (2, [.inr (.inl (some 184)), .inr (.inl (some 196)), .inr (.inl (some 205)), .inl (.inl (some 0))]),
  .inl (3, [.inl (.inl (some 0)), .inl (.inl (some 0)), .inl (.inl (some 0)), .inl (.inl (some 0)), .inl (.inl (some 0)), .inl (.inl (some 9)), .inl (.inl (some 1)), .inl (.inl (some 200)), .inr (.inl (some 185)), .inr (.inl (some 186)), .inr (.inl (some 187)), .inr (.inl (some 188)), .inr (.inl (some 189)), .inr (.inl (some 190)), .inr (.inl (some 191)), .inr (.inl (some 192))]),
  .inr (.inl (0, [(.inl (some 0)), (.inl (some 0)), (.inl (some 0)), (.inl (some 0)), (.inl (some 0)), (.inl (some 0)), (.inl (some 0)), (.inl (some 0))])),
  .inr (.inl (0, [(.inl (some 0)), (.inl (some 0)), (.inl (some 0)), (.inl (some 0)), (.inl (some 0)), (.inl (some 0))])),
  .inr (.inl (0, [(.inl (some 0)), (.inl (some 0)), (.inl (some 0)), (.inl (some 0)), (.inl (some 0)), (.inl (some 0)), (.inl (some 0)), (.inl (some 0))])),
  .inr (.inl (0, [(.inl (some 0)), (.inl (some 0)), (.inl (some 0)), (.inl (some 0)), (.inl (some 0)), (.inl (some 0)), (.inl (some 0)), (.inl (some 0))])),
  .inr (.inl (0, [(.inl (some 0)), (.inl (some 0)), (.inl (some 0)), (.inl (some 0)), (.inl (some 0)), (.inl (some 0)), (.inl (some 0)), (.inl (some 0))])),
  .inr (.inl (0, [(.inl (some 0)), (.inl (some 0)), (.inl (some 0)), (.inl (some 0)), (.inl (some 0)), (.inl (some 0)), (.inl (some 0)), (.inl (some 0))])),
  .inr (.inl (0, [(.inl (some 0)), (.inl (some 0)), (.inl (some 0)), (.inl (some 0)), (.inl (some 0)), (.inl (some 0)), (.inl (some 0)), (.inl (some 0))])),
  .inl (5, [.inr (.inl (some 193)), .inr (.inl (some 194)), .inr (.inl (some 195)), .inl (.inl (some 0))]),
  .inr (.inr (.inl 22)),
  .inr (.inl (0, List.replicate 22 (.inl (some 0)))),
  .inr (.inl (0, List.replicate 22 (.inl (some 0)))),
  .inl (9, [.inr (.inl (some 184)), .inl (.inl (some 0)), .inl (.inl (some 0)), .inl (.inl (some (-1))), .inl (.inl (some 0)), .inr (.inl (some 197)), .inr (.inl (some 198)), .inr (.inl (some 199)), .inr (.inl (some 200)), .inr (.inl (some 201)), .inr (.inl (some 202)), .inr (.inl (some 203)), .inr (.inl (some 204))]),
  .inr (.inl (0, [(.inl (some 0)), (.inl (some 0)), (.inl (some 0)), (.inl (some 0)), (.inl (some 0)), (.inl (some 0)), (.inl (some 0)), (.inl (some 0))])),
  .inr (.inl (0, [(.inl (some 0)), (.inl (some 0)), (.inl (some 0)), (.inl (some 0)), (.inl (some 0)), (.inl (some 0)), (.inl (some 0)), (.inl (some 0))])),
  .inr (.inl (0, [(.inl (some 0)), (.inl (some 0)), (.inl (some 0)), (.inl (some 0)), (.inl (some 0)), (.inl (some 0)), (.inl (some 0)), (.inl (some 0))])),
  .inr (.inl (0, [(.inl (some 0)), (.inl (some 0)), (.inl (some 0)), (.inl (some 0)), (.inl (some 0)), (.inl (some 0)), (.inl (some 0)), (.inl (some 0))])),
  .inr (.inl (0, [(.inl (some 0)), (.inl (some 0)), (.inl (some 0)), (.inl (some 0)), (.inl (some 0)), (.inl (some 0)), (.inl (some 0)), (.inl (some 0))])),
  .inr (.inl (0, [(.inl (some 0)), (.inl (some 0)), (.inl (some 0)), (.inl (some 0)), (.inl (some 0)), (.inl (some 0))])),
  .inr (.inl (0, [(.inl (some 0)), (.inl (some 0)), (.inl (some 0)), (.inl (some 0)), (.inl (some 0)), (.inl (some 0))])),
  .inr (.inl (0, [(.inl (some 0)), (.inl (some 0)), (.inl (some 0)), (.inl (some 0)), (.inl (some 0)), (.inl (some 0))])),
  .inl (7, [.inr (.inl (some 206)), .inr (.inl (some 207)), .inr (.inl (some 208)), .inr (.inl (some 209)), .inl (.inl (some 0)), .inl (.inl (some 0))]),
  .inr (.inl (0, List.replicate 40 (.inl (some 0)))),
  .inr (.inl (0, List.replicate 40 (.inl (some 0)))),
  .inr (.inl (0, List.replicate 40 (.inl (some 0)))),
  .inr (.inl (0, List.replicate 40 (.inl (some 0)))),
  .inl (12, [.inl (.inl (some 0)), .inr (.inl (some 211)), .inl (.inl (some 0)), .inl (.inl (some 0)), .inl (.inl (some 0)), .inl (.inl (some 0)), .inr (.inl (some 212)), .inr (.inl (some 213)), .inr (.inl (some 214)), .inr (.inl (some 215)), .inr (.inl (some 216)), .inl (.inl (some 0)), .inl (.inl (some 0)), .inl (.inl (some 0)), .inl (.inl (some 0)), .inl (.inl (some 0)), .inl (.inl (some 0)), .inr (.inr ()), .inl (.inl (some 0)), .inl (.inl (some 0)), .inl (.inl (some 0)), .inr (.inl (some 217)), .inr (.inl (some 218)), .inl (.inl (some 0)), .inl (.inl (some 0)), .inl (.inl (some 0)), .inl (.inl (some 0)), .inl (.inl (some 0)), .inl (.inl (some 0)), .inl (.inl (some 0)), .inl (.inl (some 0)), .inl (.inl (some 0)), .inr (.inl (some 219)), .inl (.inl (some 0)), .inl (.inl (some 0)), .inl (.inl (some 0)), .inl (.inl (some 0)), .inr (.inl (some 220)), .inl (.inl (some 0)), .inr (.inl (some 221)), .inl (.inl (some 0)), .inl (.inl (some 0)), .inl (.inl (some 0)), .inl (.inl (some 0)), .inl (.inl (some 0)), .inr (.inl (some 222)), .inr (.inl (some 223)), .inr (.inl (some 224)), .inr (.inl (some 225))]),
  .inr (.inl (2, List.replicate 940 (.inl (some 0)))),
  .inr (.inl (0, [(.inl (some 0)), (.inl (some 0)), (.inl (some 0)), (.inl (some 0))] ++ [(.inl (some 9))] ++ [(.inl (some 1))] ++ [(.inl (some 200))] ++ List.replicate 292 (.inl (some 0)))),
  .inr (.inl (0, [(.inl (some 0)), (.inl (some 0)), (.inl (some 0)), (.inl (some 0))] ++ [(.inl (some 9))] ++ [(.inl (some 1))] ++ [(.inl (some 200))] ++ List.replicate 55 (.inl (some 0)))),
  .inr (.inl (0, List.replicate 135 (.inl (some 0)))),
  .inr (.inr (.inl 44)),
  .inr (.inr (.inl 24)),
  .inr (.inl (0, List.replicate 448 (.inl (some 0)))),
  .inr (.inl (0, List.replicate 56 (.inl (some 0)))),
  .inr (.inl (0, [(.inl (some 0)), (.inl (some 0)), (.inl (some 0)), (.inl (some 0)), (.inl (some 0)), (.inl (some 0))])),
  .inr (.inl (0, [(.inl (some 0)), (.inl (some 0)), (.inl (some 0)), (.inl (some 0))])),
  .inr (.inl (0, List.replicate 45 (.inl (some 0)))),
  .inr (.inl (3, List.replicate 45 (.inl (some 0)))),
  .inr (.inl (0, List.replicate 598 (.inl (some 0)))),
  .inr (.inr (.inl 44)),
  .inr (.inl (3, [(.inl (some 0)), (.inl (some 0))])),
  .inr (.inr (.inl 1))]
/-- the law's run ends with 1 -/
def z_one (B : List (Int × Int)) (n : Nat) (pc : Nat) (z : zS) : Bool := match z_run zP B zTF zDF n (some 6) 20 600000 7000000 zm_law pc z with
  | some (pc', (_, [.inl (.inl (some v))], _, nc, ns)) => (v == 1) && (match z_find zt_law pc' with
    | some (.ireturn, _) => true
    | _ => false) && decide (nc ≤ 600000) && decide (ns ≤ 7000000)
  | _ => false
def zl0 : List (Nat × zV) := [(4, .inl (.inl (some 0))), (3, .inr (.inl (some 226))), (2, .inr (.inl (some 210))), (1, .inr (.inl (some 1))), (0, .inr (.inl (some 0)))]
def zs0 : zS := (zl0, [], zw0, 226, 6198)
end
section
theorem zr_3 : z_one [(-2147483648, 2147483647), (-2147483648, 2147483647), (-2147483648, 2147483647), (-2147483648, 2147483647), (-2147483648, 2147483647), (-2147483648, 2147483647)] 29 331 zs0 = true := by decide +kernel
end
