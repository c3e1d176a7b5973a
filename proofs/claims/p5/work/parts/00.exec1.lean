/-! ===== a run of bytecode over signs: ints that are known, or a number that the run names, and a bit more; cells by their places ===== -/
abbrev zI : Type := Option Int32 ⊕ (Nat × Int32)
abbrev zV : Type := zI ⊕ (Option Nat ⊕ Option Int)
abbrev zC : Type := (Nat × List zV) ⊕ ((Nat × List zI) ⊕ (List (Option Int) ⊕ (Nat × List (Option Nat))))
abbrev zW : Type := List zC
/-- locals, stack, cells, how many cells and slots were made -/
abbrev zS : Type := List (Nat × zV) × List zV × zW × Nat × Nat
def z_i (env : Nat → Int32) (t : zI) (x : Int32) : Prop := match t with
  | .inl (some c) => x = c
  | .inl none => True
  | .inr (i, c) => x = env i + c
/-- a long that is known -/
def z_k (o : Option Int) (x : Int64) : Prop := ∀ c, o = some c → x.toInt = c
theorem z_k0 (x : Int64) : z_k none x := fun _ h => by cases h
def z_v (env : Nat → Int32) (ad : Nat → Option Nat) (t : zV) (v : Value) : Prop := match t with
  | .inl t => ∃ x : Int32, v = .int x ∧ z_i env t x
  | .inr (.inl none) => v = .null
  | .inr (.inl (some i)) => ∃ a : Nat, ad i = some a ∧ v = .ref a
  | .inr (.inr o) => ∃ x : Int64, v = .long x ∧ z_k o x
def z_o (ad : Nat → Option Nat) (t : Option Nat) (v : Option Nat) : Prop := match t with
  | none => v = none
  | some i => ∃ a : Nat, ad i = some a ∧ v = some a
def z_L {α β : Type} (R : α → β → Prop) : List α → List β → Prop
  | [], [] => True
  | a :: as, b :: bs => R a b ∧ z_L R as bs
  | _, _ => False
def z_c (env : Nat → Int32) (kc : Nat → ClassId) (ad : Nat → Option Nat) (t : zC) (q : va_E) : Prop := match t with
  | .inl (ci, fs) => ∃ vs : List Value, q = .inr (ci, vs) ∧ z_L (z_v env ad) fs vs
  | .inr (.inl (k, es)) => ∃ f : Nat → Int32, q = .inl (kc k, es.length, .inl f) ∧ ∀ (j : Nat) (x : zI), es[j]? = some x → z_i env x (f j)
  | .inr (.inr (.inl es)) => ∃ f : Nat → Int64, q = .inl (kc 1, es.length, .inr (.inl f)) ∧ ∀ (j : Nat) (x : Option Int), es[j]? = some x → z_k x (f j)
  | .inr (.inr (.inr (k, es))) => ∃ f : Nat → Option Nat, q = .inl (kc k, es.length, .inr (.inr (.inr (.inr f)))) ∧ ∀ (j : Nat) (x : Option Nat), es[j]? = some x → z_o ad x (f j)
def z_ad (xb : Nat) (ws : va_W) (i : Nat) : Option Nat := match i with
  | 0 => some xb
  | i + 1 => (ws[i]?).map (fun q => q.1)
def z_w (xb : Nat) (env : Nat → Int32) (kc : Nat → ClassId) (w : zW) (ws : va_W) : Prop := z_L (fun c q => z_c env kc (z_ad xb ws) c q.2) w ws
/-! lists that go side by side -/
theorem z_L_len {α β : Type} {R : α → β → Prop} : ∀ {as : List α} {bs : List β}, z_L R as bs → as.length = bs.length
  | [], [], _ => rfl
  | _ :: _, _ :: _, h => congrArg (· + 1) (z_L_len h.2)
  | [], _ :: _, h => h.elim
  | _ :: _, [], h => h.elim
theorem z_L_get {α β : Type} {R : α → β → Prop} : ∀ {as : List α} {bs : List β}, z_L R as bs → ∀ {k : Nat} {a : α}, as[k]? = some a → ∃ b, bs[k]? = some b ∧ R a b
  | [], [], _, k, a, h => by simp at h
  | a :: as, b :: bs, h, 0, a', e => by
    simp only [List.getElem?_cons_zero, Option.some.injEq] at e ⊢
    subst e
    exact ⟨b, rfl, h.1⟩
  | a :: as, b :: bs, h, k + 1, a', e => by
    simp only [List.getElem?_cons_succ] at e ⊢
    exact z_L_get h.2 e
  | [], _ :: _, h, _, _, _ => h.elim
  | _ :: _, [], h, _, _, _ => h.elim
theorem z_L_mono {α β : Type} {R S : α → β → Prop} (hRS : ∀ a b, R a b → S a b) : ∀ {as : List α} {bs : List β}, z_L R as bs → z_L S as bs
  | [], [], _ => trivial
  | _ :: _, _ :: _, h => ⟨hRS _ _ h.1, z_L_mono hRS h.2⟩
  | [], _ :: _, h => h.elim
  | _ :: _, [], h => h.elim
theorem z_L_set {α β : Type} {R : α → β → Prop} : ∀ {as : List α} {bs : List β}, z_L R as bs → ∀ (k : Nat) {a : α} {b : β}, R a b → z_L R (as.set k a) (bs.set k b)
  | [], [], _, _, _, _, _ => trivial
  | _ :: _, _ :: _, h, 0, _, _, r => ⟨r, h.2⟩
  | _ :: _, _ :: _, h, k + 1, _, _, r => ⟨h.1, z_L_set h.2 k r⟩
  | [], _ :: _, h, _, _, _, _ => h.elim
  | _ :: _, [], h, _, _, _, _ => h.elim
theorem z_L_app {α β : Type} {R : α → β → Prop} : ∀ {as : List α} {bs : List β}, z_L R as bs → ∀ {cs : List α} {ds : List β}, z_L R cs ds → z_L R (as ++ cs) (bs ++ ds)
  | [], [], _, _, _, h => h
  | _ :: _, _ :: _, h, _, _, h2 => ⟨h.1, z_L_app h.2 h2⟩
  | [], _ :: _, h, _, _, _ => h.elim
  | _ :: _, [], h, _, _, _ => h.elim
theorem z_L_filter {α β : Type} {R : α → β → Prop} {p : α → Bool} {q : β → Bool} (hpq : ∀ a b, R a b → p a = q b) : ∀ {as : List α} {bs : List β}, z_L R as bs → z_L R (as.filter p) (bs.filter q)
  | [], [], _ => trivial
  | a :: as, b :: bs, h => by
    have e := hpq a b h.1
    have ih := z_L_filter hpq h.2
    rw [List.filter_cons, List.filter_cons, e]
    cases q b with
    | true => exact ⟨h.1, ih⟩
    | false => exact ih
  | [], _ :: _, h => h.elim
  | _ :: _, [], h => h.elim
/-! addresses that stay -/
theorem z_ad_app {xb : Nat} {ws : va_W} {q : Nat × va_E} {i a : Nat} (h : z_ad xb ws i = some a) : z_ad xb (ws ++ [q]) i = some a := by
  cases i with
  | zero => exact h
  | succ i =>
    unfold z_ad at h ⊢
    dsimp only at h ⊢
    have hi : i < ws.length := by
      rcases Nat.lt_or_ge i ws.length with h1 | h1
      · exact h1
      · rw [List.getElem?_eq_none h1] at h; cases h
    rw [List.getElem?_append_left hi]
    exact h
theorem z_ad_set {xb : Nat} {ws : va_W} {k a : Nat} {e0 e : va_E} (h : ws[k]? = some (a, e0)) : z_ad xb (ws.set k (a, e)) = z_ad xb ws := by
  funext i
  cases i with
  | zero => rfl
  | succ i =>
    unfold z_ad
    dsimp only
    by_cases hk : k = i
    · subst hk
      have hl : k < ws.length := (List.getElem?_eq_some_iff.mp h).1
      rw [List.getElem?_set_self hl, h]
      rfl
    · rw [List.getElem?_set_ne hk]
theorem z_v_mono {env : Nat → Int32} {ad ad' : Nat → Option Nat} (h : ∀ i a, ad i = some a → ad' i = some a) : ∀ (t : zV) (v : Value), z_v env ad t v → z_v env ad' t v
  | .inl _, _, hv => hv
  | .inr (.inl none), _, hv => hv
  | .inr (.inl (some _)), _, ⟨a, h1, h2⟩ => ⟨a, h _ _ h1, h2⟩
  | .inr (.inr _), _, hv => hv
theorem z_o_mono {ad ad' : Nat → Option Nat} (h : ∀ i a, ad i = some a → ad' i = some a) : ∀ (t v : Option Nat), z_o ad t v → z_o ad' t v
  | none, _, hv => hv
  | some _, _, ⟨a, h1, h2⟩ => ⟨a, h _ _ h1, h2⟩
theorem z_c_mono {env : Nat → Int32} {kc : Nat → ClassId} {ad ad' : Nat → Option Nat} (h : ∀ i a, ad i = some a → ad' i = some a) : ∀ (t : zC) (q : va_E), z_c env kc ad t q → z_c env kc ad' t q
  | .inl (_, _), _, ⟨vs, h1, h2⟩ => ⟨vs, h1, z_L_mono (z_v_mono h) h2⟩
  | .inr (.inl (_, _)), _, hv => hv
  | .inr (.inr (.inl _)), _, hv => hv
  | .inr (.inr (.inr (_, _))), _, ⟨f, h1, h2⟩ => ⟨f, h1, fun j x hx => z_o_mono h _ _ (h2 j x hx)⟩
theorem z_w_get {xb : Nat} {env : Nat → Int32} {kc : Nat → ClassId} {w : zW} {ws : va_W} (h : z_w xb env kc w ws) {i : Nat} {c : zC} (hc : w[i]? = some c) : ∃ a e, ws[i]? = some (a, e) ∧ z_ad xb ws (i + 1) = some a ∧ z_c env kc (z_ad xb ws) c e := by
  obtain ⟨⟨a, e⟩, h1, h2⟩ := z_L_get h hc
  exact ⟨a, e, h1, by unfold z_ad; dsimp only; rw [h1]; rfl, h2⟩
theorem z_w_set {xb : Nat} {env : Nat → Int32} {kc : Nat → ClassId} {w : zW} {ws : va_W} (h : z_w xb env kc w ws) {i a : Nat} {e0 e : va_E} {c : zC} (hi : ws[i]? = some (a, e0)) (hc : z_c env kc (z_ad xb ws) c e) : z_w xb env kc (w.set i c) (ws.set i (a, e)) := by
  unfold z_w
  rw [z_ad_set hi]
  exact z_L_set h i hc
theorem z_w_push {xb : Nat} {env : Nat → Int32} {kc : Nat → ClassId} {w : zW} {ws : va_W} (h : z_w xb env kc w ws) {a : Nat} {e : va_E} {c : zC} (hc : z_c env kc (z_ad xb (ws ++ [(a, e)])) c e) : z_w xb env kc (w ++ [c]) (ws ++ [(a, e)]) := by
  unfold z_w
  exact z_L_app (z_L_mono (fun _ _ h1 => z_c_mono (fun _ _ h2 => z_ad_app h2) _ _ h1) h) ⟨hc, trivial⟩
theorem z_ad_new (xb : Nat) (ws : va_W) (a : Nat) (e : va_E) : z_ad xb (ws ++ [(a, e)]) (ws.length + 1) = some a := by
  unfold z_ad
  dsimp only
  rw [List.getElem?_append_right (Nat.le_refl _)]
  simp
/-! locals -/
def z_get : List (Nat × zV) → Nat → Option zV
  | [], _ => none
  | (j, v) :: r, i => if j = i then some v else z_get r i
def z_cat (v : zV) : Nat := match v with
  | .inr (.inr _) => 2
  | _ => 1
def z_put (zl : List (Nat × zV)) (i : Nat) (v : zV) : List (Nat × zV) := (i, v) :: zl.filter (fun q => !(q.1 == i) && !(q.1 + 1 == i && z_cat q.2 == 2))
def z_l (env : Nat → Int32) (ad : Nat → Option Nat) (nL : Nat) (zl : List (Nat × zV)) (ls : Array Slot) : Prop := ∃ lv : List (Nat × Value), lv_has ls nL lv ∧ z_L (fun (a : Nat × zV) (b : Nat × Value) => a.1 = b.1 ∧ z_v env ad a.2 b.2) zl lv
theorem z_get_in {env : Nat → Int32} {ad : Nat → Option Nat} : ∀ {zl : List (Nat × zV)} {lv : List (Nat × Value)}, z_L (fun (a : Nat × zV) (b : Nat × Value) => a.1 = b.1 ∧ z_v env ad a.2 b.2) zl lv → ∀ {i : Nat} {v : zV}, z_get zl i = some v → ∃ x, (i, x) ∈ lv ∧ z_v env ad v x
  | [], [], _, _, _, e => by simp [z_get] at e
  | (j, v) :: zl, (j2, x) :: lv, h, i, v', e => by
    obtain ⟨⟨h1, h2⟩, h3⟩ := h
    dsimp only at h1
    subst h1
    unfold z_get at e
    by_cases hj : j = i
    · rw [if_pos hj] at e
      cases e
      subst hj
      exact ⟨x, List.mem_cons_self, h2⟩
    · rw [if_neg hj] at e
      obtain ⟨y, h4, h5⟩ := z_get_in h3 e
      exact ⟨y, List.mem_cons_of_mem _ h4, h5⟩
  | [], _ :: _, h, _, _, _ => h.elim
  | _ :: _, [], h, _, _, _ => h.elim
theorem z_l_at {env : Nat → Int32} {ad : Nat → Option Nat} {nL : Nat} {zl : List (Nat × zV)} {ls : Array Slot} (h : z_l env ad nL zl ls) {i : Nat} {v : zV} (e : z_get zl i = some v) : ∃ x, ls[i]? = some (.val x) ∧ z_v env ad v x := by
  obtain ⟨lv, h1, h2⟩ := h
  obtain ⟨x, h3, h4⟩ := z_get_in h2 e
  exact ⟨x, h1.2.2 (i, x) h3, h4⟩
theorem z_v_cat {env : Nat → Int32} {ad : Nat → Option Nat} : ∀ {t : zV} {v : Value}, z_v env ad t v → z_cat t = v.category
  | .inl _, _, ⟨_, h, _⟩ => by rw [h]; rfl
  | .inr (.inl none), _, h => by rw [show _ = Value.null from h]; rfl
  | .inr (.inl (some _)), _, ⟨_, _, h⟩ => by rw [h]; rfl
  | .inr (.inr _), _, ⟨_, h, _⟩ => by rw [h]; rfl
theorem z_put_ok {env : Nat → Int32} {ad : Nat → Option Nat} {zl : List (Nat × zV)} {lv : List (Nat × Value)} (h : z_L (fun (a : Nat × zV) (b : Nat × Value) => a.1 = b.1 ∧ z_v env ad a.2 b.2) zl lv) {i : Nat} {v : zV} {x : Value} (hv : z_v env ad v x) :
    z_L (fun (a : Nat × zV) (b : Nat × Value) => a.1 = b.1 ∧ z_v env ad a.2 b.2) (z_put zl i v) ((i, x) :: lv.filter (fun q => !(q.1 == i) && !(q.1 + 1 == i && q.2.category == 2))) := by
  refine ⟨⟨rfl, hv⟩, z_L_filter ?_ h⟩
  intro a b hab
  rw [hab.1, z_v_cat hab.2]
def z_put2 (zl : List (Nat × zV)) (i : Nat) (o : Option Int) : List (Nat × zV) := (i, .inr (.inr o)) :: zl.filter (fun q => !(q.1 == i) && (!(q.1 == i + 1) && !(q.1 + 1 == i && z_cat q.2 == 2)))
theorem z_put2_ok {env : Nat → Int32} {ad : Nat → Option Nat} {zl : List (Nat × zV)} {lv : List (Nat × Value)} (h : z_L (fun (a : Nat × zV) (b : Nat × Value) => a.1 = b.1 ∧ z_v env ad a.2 b.2) zl lv) {i : Nat} {x : Int64} {o : Option Int} (ho : z_k o x) :
    z_L (fun (a : Nat × zV) (b : Nat × Value) => a.1 = b.1 ∧ z_v env ad a.2 b.2) (z_put2 zl i o) ((i, .long x) :: lv.filter (fun q => !(q.1 == i) && (!(q.1 == i + 1) && !(q.1 + 1 == i && q.2.category == 2)))) := by
  refine ⟨⟨rfl, x, rfl, ho⟩, z_L_filter ?_ h⟩
  intro a b hab
  rw [hab.1, z_v_cat hab.2]
theorem z_l_mono {env : Nat → Int32} {ad ad' : Nat → Option Nat} {nL : Nat} {zl : List (Nat × zV)} {ls : Array Slot} (hm : ∀ i a, ad i = some a → ad' i = some a) (h : z_l env ad nL zl ls) : z_l env ad' nL zl ls := by
  obtain ⟨lv, h1, h2⟩ := h
  exact ⟨lv, h1, z_L_mono (fun _ _ q => ⟨q.1, z_v_mono hm _ _ q.2⟩) h2⟩
/-! numbers -/
def z_rng (B : List (Int × Int)) (t : zI) : Int × Int := match t with
  | .inl (some c) => (c.toInt, c.toInt)
  | .inl none => (-2147483648, 2147483647)
  | .inr (i, c) => match B[i]? with
    | some (lo, hi) => if -2147483648 ≤ lo + c.toInt ∧ hi + c.toInt ≤ 2147483647 then (lo + c.toInt, hi + c.toInt) else (-2147483648, 2147483647)
    | none => (-2147483648, 2147483647)
def z_B (B : List (Int × Int)) (env : Nat → Int32) : Prop := ∀ (i : Nat) (lo hi : Int), B[i]? = some (lo, hi) → lo ≤ (env i).toInt ∧ (env i).toInt ≤ hi
theorem z_any (x : Int32) : -2147483648 ≤ x.toInt ∧ x.toInt ≤ 2147483647 := by
  have h1 := Int32.le_toInt x
  have h2 := Int32.toInt_lt x
  omega
theorem z_add_toInt {x y : Int32} (h1 : -2147483648 ≤ x.toInt + y.toInt) (h2 : x.toInt + y.toInt ≤ 2147483647) : (x + y).toInt = x.toInt + y.toInt := by
  rw [Int32.toInt_add, Int.bmod_def]
  have : (2 : Nat) ^ 32 = 4294967296 := by decide
  split <;> omega
theorem z_rng_ok {B : List (Int × Int)} {env : Nat → Int32} (hB : z_B B env) {t : zI} {x : Int32} (h : z_i env t x) : (z_rng B t).1 ≤ x.toInt ∧ x.toInt ≤ (z_rng B t).2 := by
  match t, h with
  | .inl (some c), h => rw [show x = c from h]; exact ⟨Int.le_refl _, Int.le_refl _⟩
  | .inl none, _ => exact z_any x
  | .inr (i, c), h =>
    unfold z_rng
    dsimp only
    split
    next lo hi hi' =>
      obtain ⟨h1, h2⟩ := hB i lo hi hi'
      by_cases hc : -2147483648 ≤ lo + c.toInt ∧ hi + c.toInt ≤ 2147483647
      · rw [if_pos hc, show x = env i + c from h, z_add_toInt (by omega) (by omega)]
        exact ⟨by dsimp only; omega, by dsimp only; omega⟩
      · rw [if_neg hc]; exact z_any x
    next => exact z_any x
def z_lt (B : List (Int × Int)) (x y : zI) : Option Bool := if (z_rng B x).2 < (z_rng B y).1 then some true else if (z_rng B y).2 ≤ (z_rng B x).1 then some false else none
def z_idn (x y : zI) : Bool := match x, y with
  | .inr (i, c), .inr (j, d) => decide (i = j) && decide (c = d)
  | _, _ => false
theorem z_idn_ok {env : Nat → Int32} {x y : zI} {a b : Int32} (h : z_idn x y = true) (ha : z_i env x a) (hb : z_i env y b) : a = b := by
  unfold z_idn at h
  split at h
  next =>
    simp only [Bool.and_eq_true, decide_eq_true_eq] at h
    obtain ⟨rfl, rfl⟩ := h
    exact (show a = _ from ha).trans (show b = _ from hb).symm
  next => cases h
def z_eq (B : List (Int × Int)) (x y : zI) : Option Bool := if z_idn x y = true then some true else if (z_rng B x).2 < (z_rng B y).1 ∨ (z_rng B y).2 < (z_rng B x).1 then some false else if (z_rng B x).1 = (z_rng B x).2 ∧ (z_rng B y).1 = (z_rng B y).2 ∧ (z_rng B x).1 = (z_rng B y).1 then some true else none
theorem z_lt_ok {B : List (Int × Int)} {env : Nat → Int32} (hB : z_B B env) {x y : zI} {a b : Int32} (ha : z_i env x a) (hb : z_i env y b) {r : Bool} (h : z_lt B x y = some r) : (a < b) ↔ r = true := by
  have h1 := z_rng_ok hB ha
  have h2 := z_rng_ok hB hb
  unfold z_lt at h
  rw [Int32.lt_iff_toInt_lt]
  split at h
  next => cases h; simp; omega
  next =>
    split at h
    next => cases h; simp; omega
    next => cases h
theorem z_eq_ok {B : List (Int × Int)} {env : Nat → Int32} (hB : z_B B env) {x y : zI} {a b : Int32} (ha : z_i env x a) (hb : z_i env y b) {r : Bool} (h : z_eq B x y = some r) : (a = b) ↔ r = true := by
  have h1 := z_rng_ok hB ha
  have h2 := z_rng_ok hB hb
  unfold z_eq at h
  split at h
  next hid => cases h; simp [z_idn_ok hid ha hb]
  next =>
    rw [← Int32.toInt_inj]
    split at h
    next => cases h; simp; omega
    next =>
      split at h
      next => cases h; simp; omega
      next => cases h
def z_op2 (f : Int32 → Int32 → Int32) (x y : zI) : zI := match x, y with
  | .inl (some a), .inl (some b) => .inl (some (f a b))
  | _, _ => .inl none
theorem z_op2_ok {env : Nat → Int32} (f : Int32 → Int32 → Int32) {x y : zI} {a b : Int32} (ha : z_i env x a) (hb : z_i env y b) : z_i env (z_op2 f x y) (f a b) := by
  match x, y, ha, hb with
  | .inl (some _), .inl (some _), ha, hb => rw [show a = _ from ha, show b = _ from hb]; exact rfl
  | .inl (some _), .inl none, _, _ => trivial
  | .inl (some _), .inr _, _, _ => trivial
  | .inl none, _, _, _ => trivial
  | .inr _, _, _, _ => trivial
/-- + keeps a named number -/
def z_add (x y : zI) : zI := match x, y with
  | .inl (some a), .inl (some b) => .inl (some (a + b))
  | .inr (i, c), .inl (some b) => .inr (i, c + b)
  | _, _ => .inl none
theorem z_add_ok {env : Nat → Int32} {x y : zI} {a b : Int32} (ha : z_i env x a) (hb : z_i env y b) : z_i env (z_add x y) (a + b) := by
  match x, y, ha, hb with
  | .inl (some _), .inl (some _), ha, hb => rw [show a = _ from ha, show b = _ from hb]; exact rfl
  | .inr (i, c), .inl (some d), ha, hb => rw [show a = _ from ha, show b = _ from hb]; exact Int32.add_assoc _ _ _
  | .inl (some _), .inl none, _, _ => trivial
  | .inl (some _), .inr _, _, _ => trivial
  | .inl none, _, _, _ => trivial
  | .inr _, .inl none, _, _ => trivial
  | .inr _, .inr _, _, _ => trivial
/-- & keeps what stands beside -1 -/
def z_and (x y : zI) : zI := match y with
  | .inl (some b) => if b = -1 then x else z_op2 (fun a b => a &&& b) x y
  | _ => z_op2 (fun a b => a &&& b) x y
theorem z_and_ok {env : Nat → Int32} {x y : zI} {a b : Int32} (ha : z_i env x a) (hb : z_i env y b) : z_i env (z_and x y) (a &&& b) := by
  unfold z_and
  split
  next d =>
    split
    next hd =>
      rw [show b = d from hb, hd, Int32.and_neg_one]
      exact ha
    next => exact z_op2_ok _ ha hb
  next => exact z_op2_ok _ ha hb
