section
/-! ===== a run of bytecode over signs: ints that are known, or a number that the run names, and a bit more; cells by their places ===== -/
abbrev zI : Type := Option Int32 ⊕ (Nat × Int32)
abbrev zV : Type := zI ⊕ (Option Nat ⊕ Unit)
abbrev zC : Type := (Nat × List zV) ⊕ ((Nat × List zI) ⊕ (Nat ⊕ (Nat × List (Option Nat))))
abbrev zW : Type := List zC
/-- locals, stack, cells, how many cells and slots were made -/
abbrev zS : Type := List (Nat × zV) × List zV × zW × Nat × Nat
def z_i (env : Nat → Int32) (t : zI) (x : Int32) : Prop := match t with
  | .inl (some c) => x = c
  | .inl none => True
  | .inr (i, c) => x = env i + c
def z_v (env : Nat → Int32) (ad : Nat → Option Nat) (t : zV) (v : Value) : Prop := match t with
  | .inl t => ∃ x : Int32, v = .int x ∧ z_i env t x
  | .inr (.inl none) => v = .null
  | .inr (.inl (some i)) => ∃ a : Nat, ad i = some a ∧ v = .ref a
  | .inr (.inr _) => ∃ x : Int64, v = .long x
def z_o (ad : Nat → Option Nat) (t : Option Nat) (v : Option Nat) : Prop := match t with
  | none => v = none
  | some i => ∃ a : Nat, ad i = some a ∧ v = some a
def z_L {α β : Type} (R : α → β → Prop) : List α → List β → Prop
  | [], [] => True
  | a :: as, b :: bs => R a b ∧ z_L R as bs
  | _, _ => False
def z_c (env : Nat → Int32) (kc : Nat → ClassId) (ad : Nat → Option Nat) (t : zC) (q : va_E) : Prop := match t with
  | .inl (ci, fs) => ∃ vs : List Value, q = .inr (ci, vs) ∧ z_L (z_v env ad) fs vs
  | .inr (.inl (k, es)) => ∃ f : Nat → Int32, q = .inl (kc k, es.length, .inl f) ∧ ∀ (j : Nat) (x : zI), es[j]? = some x → z_i env x (f j)
  | .inr (.inr (.inl n)) => ∃ f : Nat → Int64, q = .inl (kc 1, n, .inr (.inl f))
  | .inr (.inr (.inr (k, es))) => ∃ f : Nat → Option Nat, q = .inl (kc k, es.length, .inr (.inr (.inr (.inr f)))) ∧ ∀ (j : Nat) (x : Option Nat), es[j]? = some x → z_o ad x (f j)
def z_ad (xb : Nat) (ws : va_W) (i : Nat) : Option Nat := match i with
  | 0 => some xb
  | i + 1 => (ws[i]?).map (fun q => q.1)
def z_w (xb : Nat) (env : Nat → Int32) (kc : Nat → ClassId) (w : zW) (ws : va_W) : Prop := z_L (fun c q => z_c env kc (z_ad xb ws) c q.2) w ws
/-! lists that go side by side -/
theorem z_L_len {α β : Type} {R : α → β → Prop} : ∀ {as : List α} {bs : List β}, z_L R as bs → as.length = bs.length
  | [], [], _ => rfl
  | _ :: _, _ :: _, h => congrArg (· + 1) (z_L_len h.2)
  | [], _ :: _, h => h.elim
  | _ :: _, [], h => h.elim
theorem z_L_get {α β : Type} {R : α → β → Prop} : ∀ {as : List α} {bs : List β}, z_L R as bs → ∀ {k : Nat} {a : α}, as[k]? = some a → ∃ b, bs[k]? = some b ∧ R a b
  | [], [], _, k, a, h => by simp at h
  | a :: as, b :: bs, h, 0, a', e => by
    simp only [List.getElem?_cons_zero, Option.some.injEq] at e ⊢
    subst e
    exact ⟨b, rfl, h.1⟩
  | a :: as, b :: bs, h, k + 1, a', e => by
    simp only [List.getElem?_cons_succ] at e ⊢
    exact z_L_get h.2 e
  | [], _ :: _, h, _, _, _ => h.elim
  | _ :: _, [], h, _, _, _ => h.elim
theorem z_L_mono {α β : Type} {R S : α → β → Prop} (hRS : ∀ a b, R a b → S a b) : ∀ {as : List α} {bs : List β}, z_L R as bs → z_L S as bs
  | [], [], _ => trivial
  | _ :: _, _ :: _, h => ⟨hRS _ _ h.1, z_L_mono hRS h.2⟩
  | [], _ :: _, h => h.elim
  | _ :: _, [], h => h.elim
theorem z_L_set {α β : Type} {R : α → β → Prop} : ∀ {as : List α} {bs : List β}, z_L R as bs → ∀ (k : Nat) {a : α} {b : β}, R a b → z_L R (as.set k a) (bs.set k b)
  | [], [], _, _, _, _, _ => trivial
  | _ :: _, _ :: _, h, 0, _, _, r => ⟨r, h.2⟩
  | _ :: _, _ :: _, h, k + 1, _, _, r => ⟨h.1, z_L_set h.2 k r⟩
  | [], _ :: _, h, _, _, _, _ => h.elim
  | _ :: _, [], h, _, _, _, _ => h.elim
theorem z_L_app {α β : Type} {R : α → β → Prop} : ∀ {as : List α} {bs : List β}, z_L R as bs → ∀ {cs : List α} {ds : List β}, z_L R cs ds → z_L R (as ++ cs) (bs ++ ds)
  | [], [], _, _, _, h => h
  | _ :: _, _ :: _, h, _, _, h2 => ⟨h.1, z_L_app h.2 h2⟩
  | [], _ :: _, h, _, _, _ => h.elim
  | _ :: _, [], h, _, _, _ => h.elim
theorem z_L_filter {α β : Type} {R : α → β → Prop} {p : α → Bool} {q : β → Bool} (hpq : ∀ a b, R a b → p a = q b) : ∀ {as : List α} {bs : List β}, z_L R as bs → z_L R (as.filter p) (bs.filter q)
  | [], [], _ => trivial
  | a :: as, b :: bs, h => by
    have e := hpq a b h.1
    have ih := z_L_filter hpq h.2
    rw [List.filter_cons, List.filter_cons, e]
    cases q b with
    | true => exact ⟨h.1, ih⟩
    | false => exact ih
  | [], _ :: _, h => h.elim
  | _ :: _, [], h => h.elim
/-! addresses that stay -/
theorem z_ad_app {xb : Nat} {ws : va_W} {q : Nat × va_E} {i a : Nat} (h : z_ad xb ws i = some a) : z_ad xb (ws ++ [q]) i = some a := by
  cases i with
  | zero => exact h
  | succ i =>
    unfold z_ad at h ⊢
    dsimp only at h ⊢
    have hi : i < ws.length := by
      rcases Nat.lt_or_ge i ws.length with h1 | h1
      · exact h1
      · rw [List.getElem?_eq_none h1] at h; cases h
    rw [List.getElem?_append_left hi]
    exact h
theorem z_ad_set {xb : Nat} {ws : va_W} {k a : Nat} {e0 e : va_E} (h : ws[k]? = some (a, e0)) : z_ad xb (ws.set k (a, e)) = z_ad xb ws := by
  funext i
  cases i with
  | zero => rfl
  | succ i =>
    unfold z_ad
    dsimp only
    by_cases hk : k = i
    · subst hk
      have hl : k < ws.length := (List.getElem?_eq_some_iff.mp h).1
      rw [List.getElem?_set_self hl, h]
      rfl
    · rw [List.getElem?_set_ne hk]
theorem z_v_mono {env : Nat → Int32} {ad ad' : Nat → Option Nat} (h : ∀ i a, ad i = some a → ad' i = some a) : ∀ (t : zV) (v : Value), z_v env ad t v → z_v env ad' t v
  | .inl _, _, hv => hv
  | .inr (.inl none), _, hv => hv
  | .inr (.inl (some _)), _, ⟨a, h1, h2⟩ => ⟨a, h _ _ h1, h2⟩
  | .inr (.inr _), _, hv => hv
theorem z_o_mono {ad ad' : Nat → Option Nat} (h : ∀ i a, ad i = some a → ad' i = some a) : ∀ (t v : Option Nat), z_o ad t v → z_o ad' t v
  | none, _, hv => hv
  | some _, _, ⟨a, h1, h2⟩ => ⟨a, h _ _ h1, h2⟩
theorem z_c_mono {env : Nat → Int32} {kc : Nat → ClassId} {ad ad' : Nat → Option Nat} (h : ∀ i a, ad i = some a → ad' i = some a) : ∀ (t : zC) (q : va_E), z_c env kc ad t q → z_c env kc ad' t q
  | .inl (_, _), _, ⟨vs, h1, h2⟩ => ⟨vs, h1, z_L_mono (z_v_mono h) h2⟩
  | .inr (.inl (_, _)), _, hv => hv
  | .inr (.inr (.inl _)), _, hv => hv
  | .inr (.inr (.inr (_, _))), _, ⟨f, h1, h2⟩ => ⟨f, h1, fun j x hx => z_o_mono h _ _ (h2 j x hx)⟩
theorem z_w_get {xb : Nat} {env : Nat → Int32} {kc : Nat → ClassId} {w : zW} {ws : va_W} (h : z_w xb env kc w ws) {i : Nat} {c : zC} (hc : w[i]? = some c) : ∃ a e, ws[i]? = some (a, e) ∧ z_ad xb ws (i + 1) = some a ∧ z_c env kc (z_ad xb ws) c e := by
  obtain ⟨⟨a, e⟩, h1, h2⟩ := z_L_get h hc
  exact ⟨a, e, h1, by unfold z_ad; dsimp only; rw [h1]; rfl, h2⟩
theorem z_w_set {xb : Nat} {env : Nat → Int32} {kc : Nat → ClassId} {w : zW} {ws : va_W} (h : z_w xb env kc w ws) {i a : Nat} {e0 e : va_E} {c : zC} (hi : ws[i]? = some (a, e0)) (hc : z_c env kc (z_ad xb ws) c e) : z_w xb env kc (w.set i c) (ws.set i (a, e)) := by
  unfold z_w
  rw [z_ad_set hi]
  exact z_L_set h i hc
theorem z_w_push {xb : Nat} {env : Nat → Int32} {kc : Nat → ClassId} {w : zW} {ws : va_W} (h : z_w xb env kc w ws) {a : Nat} {e : va_E} {c : zC} (hc : z_c env kc (z_ad xb (ws ++ [(a, e)])) c e) : z_w xb env kc (w ++ [c]) (ws ++ [(a, e)]) := by
  unfold z_w
  exact z_L_app (z_L_mono (fun _ _ h1 => z_c_mono (fun _ _ h2 => z_ad_app h2) _ _ h1) h) ⟨hc, trivial⟩
theorem z_ad_new (xb : Nat) (ws : va_W) (a : Nat) (e : va_E) : z_ad xb (ws ++ [(a, e)]) (ws.length + 1) = some a := by
  unfold z_ad
  dsimp only
  rw [List.getElem?_append_right (Nat.le_refl _)]
  simp
/-! locals -/
def z_get : List (Nat × zV) → Nat → Option zV
  | [], _ => none
  | (j, v) :: r, i => if j = i then some v else z_get r i
def z_cat (v : zV) : Nat := match v with
  | .inr (.inr _) => 2
  | _ => 1
def z_put (zl : List (Nat × zV)) (i : Nat) (v : zV) : List (Nat × zV) := (i, v) :: zl.filter (fun q => !(q.1 == i) && !(q.1 + 1 == i && z_cat q.2 == 2))
def z_l (env : Nat → Int32) (ad : Nat → Option Nat) (nL : Nat) (zl : List (Nat × zV)) (ls : Array Slot) : Prop := ∃ lv : List (Nat × Value), lv_has ls nL lv ∧ z_L (fun (a : Nat × zV) (b : Nat × Value) => a.1 = b.1 ∧ z_v env ad a.2 b.2) zl lv
theorem z_get_in {env : Nat → Int32} {ad : Nat → Option Nat} : ∀ {zl : List (Nat × zV)} {lv : List (Nat × Value)}, z_L (fun (a : Nat × zV) (b : Nat × Value) => a.1 = b.1 ∧ z_v env ad a.2 b.2) zl lv → ∀ {i : Nat} {v : zV}, z_get zl i = some v → ∃ x, (i, x) ∈ lv ∧ z_v env ad v x
  | [], [], _, _, _, e => by simp [z_get] at e
  | (j, v) :: zl, (j2, x) :: lv, h, i, v', e => by
    obtain ⟨⟨h1, h2⟩, h3⟩ := h
    dsimp only at h1
    subst h1
    unfold z_get at e
    by_cases hj : j = i
    · rw [if_pos hj] at e
      cases e
      subst hj
      exact ⟨x, List.mem_cons_self, h2⟩
    · rw [if_neg hj] at e
      obtain ⟨y, h4, h5⟩ := z_get_in h3 e
      exact ⟨y, List.mem_cons_of_mem _ h4, h5⟩
  | [], _ :: _, h, _, _, _ => h.elim
  | _ :: _, [], h, _, _, _ => h.elim
theorem z_l_at {env : Nat → Int32} {ad : Nat → Option Nat} {nL : Nat} {zl : List (Nat × zV)} {ls : Array Slot} (h : z_l env ad nL zl ls) {i : Nat} {v : zV} (e : z_get zl i = some v) : ∃ x, ls[i]? = some (.val x) ∧ z_v env ad v x := by
  obtain ⟨lv, h1, h2⟩ := h
  obtain ⟨x, h3, h4⟩ := z_get_in h2 e
  exact ⟨x, h1.2.2 (i, x) h3, h4⟩
theorem z_v_cat {env : Nat → Int32} {ad : Nat → Option Nat} : ∀ {t : zV} {v : Value}, z_v env ad t v → z_cat t = v.category
  | .inl _, _, ⟨_, h, _⟩ => by rw [h]; rfl
  | .inr (.inl none), _, h => by rw [show _ = Value.null from h]; rfl
  | .inr (.inl (some _)), _, ⟨_, _, h⟩ => by rw [h]; rfl
  | .inr (.inr _), _, ⟨_, h⟩ => by rw [h]; rfl
theorem z_put_ok {env : Nat → Int32} {ad : Nat → Option Nat} {zl : List (Nat × zV)} {lv : List (Nat × Value)} (h : z_L (fun (a : Nat × zV) (b : Nat × Value) => a.1 = b.1 ∧ z_v env ad a.2 b.2) zl lv) {i : Nat} {v : zV} {x : Value} (hv : z_v env ad v x) :
    z_L (fun (a : Nat × zV) (b : Nat × Value) => a.1 = b.1 ∧ z_v env ad a.2 b.2) (z_put zl i v) ((i, x) :: lv.filter (fun q => !(q.1 == i) && !(q.1 + 1 == i && q.2.category == 2))) := by
  refine ⟨⟨rfl, hv⟩, z_L_filter ?_ h⟩
  intro a b hab
  rw [hab.1, z_v_cat hab.2]
def z_put2 (zl : List (Nat × zV)) (i : Nat) : List (Nat × zV) := (i, .inr (.inr ())) :: zl.filter (fun q => !(q.1 == i) && (!(q.1 == i + 1) && !(q.1 + 1 == i && z_cat q.2 == 2)))
theorem z_put2_ok {env : Nat → Int32} {ad : Nat → Option Nat} {zl : List (Nat × zV)} {lv : List (Nat × Value)} (h : z_L (fun (a : Nat × zV) (b : Nat × Value) => a.1 = b.1 ∧ z_v env ad a.2 b.2) zl lv) {i : Nat} {x : Int64} :
    z_L (fun (a : Nat × zV) (b : Nat × Value) => a.1 = b.1 ∧ z_v env ad a.2 b.2) (z_put2 zl i) ((i, .long x) :: lv.filter (fun q => !(q.1 == i) && (!(q.1 == i + 1) && !(q.1 + 1 == i && q.2.category == 2)))) := by
  refine ⟨⟨rfl, x, rfl⟩, z_L_filter ?_ h⟩
  intro a b hab
  rw [hab.1, z_v_cat hab.2]
theorem z_l_mono {env : Nat → Int32} {ad ad' : Nat → Option Nat} {nL : Nat} {zl : List (Nat × zV)} {ls : Array Slot} (hm : ∀ i a, ad i = some a → ad' i = some a) (h : z_l env ad nL zl ls) : z_l env ad' nL zl ls := by
  obtain ⟨lv, h1, h2⟩ := h
  exact ⟨lv, h1, z_L_mono (fun _ _ q => ⟨q.1, z_v_mono hm _ _ q.2⟩) h2⟩
/-! numbers -/
def z_rng (B : List (Int × Int)) (t : zI) : Int × Int := match t with
  | .inl (some c) => (c.toInt, c.toInt)
  | .inl none => (-2147483648, 2147483647)
  | .inr (i, c) => match B[i]? with
    | some (lo, hi) => if -2147483648 ≤ lo + c.toInt ∧ hi + c.toInt ≤ 2147483647 then (lo + c.toInt, hi + c.toInt) else (-2147483648, 2147483647)
    | none => (-2147483648, 2147483647)
def z_B (B : List (Int × Int)) (env : Nat → Int32) : Prop := ∀ (i : Nat) (lo hi : Int), B[i]? = some (lo, hi) → lo ≤ (env i).toInt ∧ (env i).toInt ≤ hi
theorem z_any (x : Int32) : -2147483648 ≤ x.toInt ∧ x.toInt ≤ 2147483647 := by
  have h1 := Int32.le_toInt x
  have h2 := Int32.toInt_lt x
  omega
theorem z_add_toInt {x y : Int32} (h1 : -2147483648 ≤ x.toInt + y.toInt) (h2 : x.toInt + y.toInt ≤ 2147483647) : (x + y).toInt = x.toInt + y.toInt := by
  rw [Int32.toInt_add, Int.bmod_def]
  have : (2 : Nat) ^ 32 = 4294967296 := by decide
  split <;> omega
theorem z_rng_ok {B : List (Int × Int)} {env : Nat → Int32} (hB : z_B B env) {t : zI} {x : Int32} (h : z_i env t x) : (z_rng B t).1 ≤ x.toInt ∧ x.toInt ≤ (z_rng B t).2 := by
  match t, h with
  | .inl (some c), h => rw [show x = c from h]; exact ⟨Int.le_refl _, Int.le_refl _⟩
  | .inl none, _ => exact z_any x
  | .inr (i, c), h =>
    unfold z_rng
    dsimp only
    split
    next lo hi hi' =>
      obtain ⟨h1, h2⟩ := hB i lo hi hi'
      by_cases hc : -2147483648 ≤ lo + c.toInt ∧ hi + c.toInt ≤ 2147483647
      · rw [if_pos hc, show x = env i + c from h, z_add_toInt (by omega) (by omega)]
        exact ⟨by dsimp only; omega, by dsimp only; omega⟩
      · rw [if_neg hc]; exact z_any x
    next => exact z_any x
def z_lt (B : List (Int × Int)) (x y : zI) : Option Bool := if (z_rng B x).2 < (z_rng B y).1 then some true else if (z_rng B y).2 ≤ (z_rng B x).1 then some false else none
def z_idn (x y : zI) : Bool := match x, y with
  | .inr (i, c), .inr (j, d) => decide (i = j) && decide (c = d)
  | _, _ => false
theorem z_idn_ok {env : Nat → Int32} {x y : zI} {a b : Int32} (h : z_idn x y = true) (ha : z_i env x a) (hb : z_i env y b) : a = b := by
  unfold z_idn at h
  split at h
  next =>
    simp only [Bool.and_eq_true, decide_eq_true_eq] at h
    obtain ⟨rfl, rfl⟩ := h
    exact (show a = _ from ha).trans (show b = _ from hb).symm
  next => cases h
def z_eq (B : List (Int × Int)) (x y : zI) : Option Bool := if z_idn x y = true then some true else if (z_rng B x).2 < (z_rng B y).1 ∨ (z_rng B y).2 < (z_rng B x).1 then some false else if (z_rng B x).1 = (z_rng B x).2 ∧ (z_rng B y).1 = (z_rng B y).2 ∧ (z_rng B x).1 = (z_rng B y).1 then some true else none
theorem z_lt_ok {B : List (Int × Int)} {env : Nat → Int32} (hB : z_B B env) {x y : zI} {a b : Int32} (ha : z_i env x a) (hb : z_i env y b) {r : Bool} (h : z_lt B x y = some r) : (a < b) ↔ r = true := by
  have h1 := z_rng_ok hB ha
  have h2 := z_rng_ok hB hb
  unfold z_lt at h
  rw [Int32.lt_iff_toInt_lt]
  split at h
  next => cases h; simp; omega
  next =>
    split at h
    next => cases h; simp; omega
    next => cases h
theorem z_eq_ok {B : List (Int × Int)} {env : Nat → Int32} (hB : z_B B env) {x y : zI} {a b : Int32} (ha : z_i env x a) (hb : z_i env y b) {r : Bool} (h : z_eq B x y = some r) : (a = b) ↔ r = true := by
  have h1 := z_rng_ok hB ha
  have h2 := z_rng_ok hB hb
  unfold z_eq at h
  split at h
  next hid => cases h; simp [z_idn_ok hid ha hb]
  next =>
    rw [← Int32.toInt_inj]
    split at h
    next => cases h; simp; omega
    next =>
      split at h
      next => cases h; simp; omega
      next => cases h
def z_op2 (f : Int32 → Int32 → Int32) (x y : zI) : zI := match x, y with
  | .inl (some a), .inl (some b) => .inl (some (f a b))
  | _, _ => .inl none
theorem z_op2_ok {env : Nat → Int32} (f : Int32 → Int32 → Int32) {x y : zI} {a b : Int32} (ha : z_i env x a) (hb : z_i env y b) : z_i env (z_op2 f x y) (f a b) := by
  match x, y, ha, hb with
  | .inl (some _), .inl (some _), ha, hb => rw [show a = _ from ha, show b = _ from hb]; exact rfl
  | .inl (some _), .inl none, _, _ => trivial
  | .inl (some _), .inr _, _, _ => trivial
  | .inl none, _, _, _ => trivial
  | .inr _, _, _, _ => trivial
/-- + keeps a named number -/
def z_add (x y : zI) : zI := match x, y with
  | .inl (some a), .inl (some b) => .inl (some (a + b))
  | .inr (i, c), .inl (some b) => .inr (i, c + b)
  | _, _ => .inl none
theorem z_add_ok {env : Nat → Int32} {x y : zI} {a b : Int32} (ha : z_i env x a) (hb : z_i env y b) : z_i env (z_add x y) (a + b) := by
  match x, y, ha, hb with
  | .inl (some _), .inl (some _), ha, hb => rw [show a = _ from ha, show b = _ from hb]; exact rfl
  | .inr (i, c), .inl (some d), ha, hb => rw [show a = _ from ha, show b = _ from hb]; exact Int32.add_assoc _ _ _
  | .inl (some _), .inl none, _, _ => trivial
  | .inl (some _), .inr _, _, _ => trivial
  | .inl none, _, _, _ => trivial
  | .inr _, .inl none, _, _ => trivial
  | .inr _, .inr _, _, _ => trivial
/-- & keeps what stands beside -1 -/
def z_and (x y : zI) : zI := match y with
  | .inl (some b) => if b = -1 then x else z_op2 (fun a b => a &&& b) x y
  | _ => z_op2 (fun a b => a &&& b) x y
theorem z_and_ok {env : Nat → Int32} {x y : zI} {a b : Int32} (ha : z_i env x a) (hb : z_i env y b) : z_i env (z_and x y) (a &&& b) := by
  unfold z_and
  split
  next d =>
    split
    next hd =>
      rw [show b = d from hb, hd, Int32.and_neg_one]
      exact ha
    next => exact z_op2_ok _ ha hb
  next => exact z_op2_ok _ ha hb
end
section
/-! ===== the run beside the machine ===== -/
section ZG
variable {p : Program} {l : Launch} {e : Env} {R : Room} {s : State} {m : MethodId} {args : Array Value} {below : List Frame} {meth : Method} {c : Code} {Q : State → Prop} {cc : ByteArray}
variable {xb : Nat} {env : Nat → Int32} {kc : Nat → ClassId} {D : va_G} {cl : List vw_C} {A : Nat → Prop} {H0 : Heap} {ad0 : Nat → Option Nat} {nL : Nat}
/-- the machine's frame, heap and writes beside a state of the run -/
def z_S (xb : Nat) (env : Nat → Int32) (kc : Nat → ClassId) (D : va_G) (cl : List vw_C) (A : Nat → Prop) (H0 : Heap) (ad0 : Nat → Option Nat) (nL : Nat) (z : zS) (ls : Array Slot) (sv : List Value) (ws : va_W) (H : Heap) (locs : List Loc) : Prop :=
  z_l env (z_ad xb ws) nL z.1 ls ∧ z_L (z_v env (z_ad xb ws)) z.2.1 sv ∧ z_w xb env kc z.2.2.1 ws ∧ (∀ i a, ad0 i = some a → z_ad xb ws i = some a) ∧ va_P D cl ws H ∧ va_D A ws ∧ va_S A H0 H locs
def z_G (p : Program) (l : Launch) (e : Env) (R : Room) (s : State) (m : MethodId) (args : Array Value) (below : List Frame) (meth : Method) (c : Code) (Q : State → Prop) (xb : Nat) (env : Nat → Int32) (kc : Nat → ClassId) (D : va_G) (cl : List vw_C) (A : Nat → Prop) (H0 : Heap) (ad0 : Nat → Option Nat) (nL : Nat) (pc : Nat) (z : zS) : Prop :=
  ∀ (ls : Array Slot) (sv : List Value) (ws : va_W) (H : Heap) (locs : List Loc), z_S xb env kc D cl A H0 ad0 nL z ls sv ws H locs → W p l e R s m args below meth c H locs z.2.2.2.1 z.2.2.2.2 Q (F0 m pc ls sv)
theorem z_st1 {R0 : zV → Value → Prop} {a : zV} {r : List zV} {sv : List Value} (h : z_L R0 (a :: r) sv) : ∃ x sv', sv = x :: sv' ∧ R0 a x ∧ z_L R0 r sv' := by
  cases sv with
  | nil => exact h.elim
  | cons x sv' => exact ⟨x, sv', rfl, h.1, h.2⟩
variable {zl : List (Nat × zV)} {st : List zV} {w : zW} {nc ns pc : Nat}
theorem z_iconst (hx : p.tables.exec = Jvm.exec) (hb : c.code = cc) {n : Int} (hd : decode cc pc = .ok (.iconst n, 1)) (kk : z_G p l e R s m args below meth c Q xb env kc D cl A H0 ad0 nL (pc + 1) (zl, .inl (.inl (some (Int32.ofInt n))) :: st, w, nc, ns)) : z_G p l e R s m args below meth c Q xb env kc D cl A H0 ad0 nL pc (zl, st, w, nc, ns) := by
  intro ls sv ws H locs ⟨h1, h2, h3⟩
  refine lv_iconst hx hb hd rfl ?_
  exact kk ls _ ws H locs ⟨h1, ⟨⟨_, rfl, rfl⟩, h2⟩, h3⟩
theorem z_bipush (hx : p.tables.exec = Jvm.exec) (hb : c.code = cc) {n : Int} (hd : decode cc pc = .ok (.bipush n, 2)) (kk : z_G p l e R s m args below meth c Q xb env kc D cl A H0 ad0 nL (pc + 2) (zl, .inl (.inl (some (Int8.ofInt n).toInt32)) :: st, w, nc, ns)) : z_G p l e R s m args below meth c Q xb env kc D cl A H0 ad0 nL pc (zl, st, w, nc, ns) := by
  intro ls sv ws H locs ⟨h1, h2, h3⟩
  refine lv_bipush hx hb hd rfl ?_
  exact kk ls _ ws H locs ⟨h1, ⟨⟨_, rfl, rfl⟩, h2⟩, h3⟩
theorem z_sipush (hx : p.tables.exec = Jvm.exec) (hb : c.code = cc) {n : Int} (hd : decode cc pc = .ok (.sipush n, 3)) (kk : z_G p l e R s m args below meth c Q xb env kc D cl A H0 ad0 nL (pc + 3) (zl, .inl (.inl (some (Int16.ofInt n).toInt32)) :: st, w, nc, ns)) : z_G p l e R s m args below meth c Q xb env kc D cl A H0 ad0 nL pc (zl, st, w, nc, ns) := by
  intro ls sv ws H locs ⟨h1, h2, h3⟩
  refine lv_sipush hx hb hd rfl ?_
  exact kk ls _ ws H locs ⟨h1, ⟨⟨_, rfl, rfl⟩, h2⟩, h3⟩
theorem z_lconst (hx : p.tables.exec = Jvm.exec) (hb : c.code = cc) {n : Fin 2} (hd : decode cc pc = .ok (.lconst n, 1)) (kk : z_G p l e R s m args below meth c Q xb env kc D cl A H0 ad0 nL (pc + 1) (zl, .inr (.inr ()) :: st, w, nc, ns)) : z_G p l e R s m args below meth c Q xb env kc D cl A H0 ad0 nL pc (zl, st, w, nc, ns) := by
  intro ls sv ws H locs ⟨h1, h2, h3⟩
  refine lv_lconst hx hb hd rfl ?_
  exact kk ls _ ws H locs ⟨h1, ⟨⟨_, rfl⟩, h2⟩, h3⟩
theorem z_ldc2 (hx : p.tables.exec = Jvm.exec) (hb : c.code = cc) {own : String} {index : Nat} {v : Int64} (hown : s.vm.findClass own = some m.cls) (hconst : (Jvm.Cond.constantLong own index v).before args s = true) (hd : decode cc pc = .ok (.ldc2_w index, 3)) (kk : z_G p l e R s m args below meth c Q xb env kc D cl A H0 ad0 nL (pc + 3) (zl, .inr (.inr ()) :: st, w, nc, ns)) : z_G p l e R s m args below meth c Q xb env kc D cl A H0 ad0 nL pc (zl, st, w, nc, ns) := by
  intro ls sv ws H locs ⟨h1, h2, h3⟩
  refine lv_ldc2 hx hb hown hconst hd ?_
  exact kk ls _ ws H locs ⟨h1, ⟨⟨_, rfl⟩, h2⟩, h3⟩
theorem z_ldc (hx : p.tables.exec = Jvm.exec) (hb : c.code = cc) {own : String} {index : Nat} {v : Int32} (hown : s.vm.findClass own = some m.cls) (hconst : (Jvm.Cond.constant own index v).before args s = true) (hd : decode cc pc = .ok (.ldc index, 2)) (kk : z_G p l e R s m args below meth c Q xb env kc D cl A H0 ad0 nL (pc + 2) (zl, .inl (.inl (some v)) :: st, w, nc, ns)) : z_G p l e R s m args below meth c Q xb env kc D cl A H0 ad0 nL pc (zl, st, w, nc, ns) := by
  intro ls sv ws H locs ⟨h1, h2, h3⟩
  refine lv_ldc hx hb hown hconst hd ?_
  exact kk ls _ ws H locs ⟨h1, ⟨⟨_, rfl, rfl⟩, h2⟩, h3⟩
theorem z_iload (hx : p.tables.exec = Jvm.exec) (hb : c.code = cc) {i : Nat} {t : zI} (hd : decode cc pc = .ok (.iload i, 2)) (hg : z_get zl i = some (.inl t)) (kk : z_G p l e R s m args below meth c Q xb env kc D cl A H0 ad0 nL (pc + 2) (zl, .inl t :: st, w, nc, ns)) : z_G p l e R s m args below meth c Q xb env kc D cl A H0 ad0 nL pc (zl, st, w, nc, ns) := by
  intro ls sv ws H locs ⟨h1, h2, h3⟩
  obtain ⟨x, hx1, y, rfl, hx2⟩ := z_l_at h1 hg
  refine lv_iload hx hb hd hx1 ?_
  exact kk ls _ ws H locs ⟨h1, ⟨⟨_, rfl, hx2⟩, h2⟩, h3⟩
theorem z_iload_n (hx : p.tables.exec = Jvm.exec) (hb : c.code = cc) {k : Fin 4} {t : zI} (hd : decode cc pc = .ok (.iload_n k, 1)) (hg : z_get zl (k : Nat) = some (.inl t)) (kk : z_G p l e R s m args below meth c Q xb env kc D cl A H0 ad0 nL (pc + 1) (zl, .inl t :: st, w, nc, ns)) : z_G p l e R s m args below meth c Q xb env kc D cl A H0 ad0 nL pc (zl, st, w, nc, ns) := by
  intro ls sv ws H locs ⟨h1, h2, h3⟩
  obtain ⟨x, hx1, y, rfl, hx2⟩ := z_l_at h1 hg
  refine lv_iload_n hx hb hd rfl hx1 ?_
  exact kk ls _ ws H locs ⟨h1, ⟨⟨_, rfl, hx2⟩, h2⟩, h3⟩
theorem z_aload (hx : p.tables.exec = Jvm.exec) (hb : c.code = cc) {i r : Nat} (hd : decode cc pc = .ok (.aload i, 2)) (hg : z_get zl i = some (.inr (.inl (some r)))) (kk : z_G p l e R s m args below meth c Q xb env kc D cl A H0 ad0 nL (pc + 2) (zl, .inr (.inl (some r)) :: st, w, nc, ns)) : z_G p l e R s m args below meth c Q xb env kc D cl A H0 ad0 nL pc (zl, st, w, nc, ns) := by
  intro ls sv ws H locs ⟨h1, h2, h3⟩
  obtain ⟨x, hx1, y, hx2, rfl⟩ := z_l_at h1 hg
  refine lv_aload hx hb hd hx1 ?_
  exact kk ls _ ws H locs ⟨h1, ⟨⟨_, hx2, rfl⟩, h2⟩, h3⟩
theorem z_aload_n (hx : p.tables.exec = Jvm.exec) (hb : c.code = cc) {k : Fin 4} {r : Nat} (hd : decode cc pc = .ok (.aload_n k, 1)) (hg : z_get zl (k : Nat) = some (.inr (.inl (some r)))) (kk : z_G p l e R s m args below meth c Q xb env kc D cl A H0 ad0 nL (pc + 1) (zl, .inr (.inl (some r)) :: st, w, nc, ns)) : z_G p l e R s m args below meth c Q xb env kc D cl A H0 ad0 nL pc (zl, st, w, nc, ns) := by
  intro ls sv ws H locs ⟨h1, h2, h3⟩
  obtain ⟨x, hx1, y, hx2, rfl⟩ := z_l_at h1 hg
  refine lv_aload_n hx hb hd rfl hx1 ?_
  exact kk ls _ ws H locs ⟨h1, ⟨⟨_, hx2, rfl⟩, h2⟩, h3⟩
theorem z_istore (hx : p.tables.exec = Jvm.exec) (hb : c.code = cc) {i : Nat} {t : zI} (hd : decode cc pc = .ok (.istore i, 2)) (hn : i < nL) (kk : z_G p l e R s m args below meth c Q xb env kc D cl A H0 ad0 nL (pc + 2) (z_put zl i (.inl t), st, w, nc, ns)) : z_G p l e R s m args below meth c Q xb env kc D cl A H0 ad0 nL pc (zl, .inl t :: st, w, nc, ns) := by
  intro ls sv ws H locs ⟨⟨lv, hl, hz⟩, h2, h3⟩
  obtain ⟨x, sv', rfl, ⟨y, rfl, hy⟩, h4⟩ := z_st1 h2
  refine lv_istore hx hb hd hl hn rfl (fun ls' hl' => ?_)
  exact kk ls' _ ws H locs ⟨⟨_, hl', z_put_ok hz ⟨y, rfl, hy⟩⟩, h4, h3⟩
theorem z_istore_n (hx : p.tables.exec = Jvm.exec) (hb : c.code = cc) {k : Fin 4} {t : zI} (hd : decode cc pc = .ok (.istore_n k, 1)) (hn : (k : Nat) < nL) (kk : z_G p l e R s m args below meth c Q xb env kc D cl A H0 ad0 nL (pc + 1) (z_put zl (k : Nat) (.inl t), st, w, nc, ns)) : z_G p l e R s m args below meth c Q xb env kc D cl A H0 ad0 nL pc (zl, .inl t :: st, w, nc, ns) := by
  intro ls sv ws H locs ⟨⟨lv, hl, hz⟩, h2, h3⟩
  obtain ⟨x, sv', rfl, ⟨y, rfl, hy⟩, h4⟩ := z_st1 h2
  refine lv_istore_n hx hb hd rfl hl hn rfl (fun ls' hl' => ?_)
  exact kk ls' _ ws H locs ⟨⟨_, hl', z_put_ok hz ⟨y, rfl, hy⟩⟩, h4, h3⟩
theorem z_astore (hx : p.tables.exec = Jvm.exec) (hb : c.code = cc) {i r : Nat} (hd : decode cc pc = .ok (.astore i, 2)) (hn : i < nL) (kk : z_G p l e R s m args below meth c Q xb env kc D cl A H0 ad0 nL (pc + 2) (z_put zl i (.inr (.inl (some r))), st, w, nc, ns)) : z_G p l e R s m args below meth c Q xb env kc D cl A H0 ad0 nL pc (zl, .inr (.inl (some r)) :: st, w, nc, ns) := by
  intro ls sv ws H locs ⟨⟨lv, hl, hz⟩, h2, h3⟩
  obtain ⟨x, sv', rfl, ⟨y, hy, rfl⟩, h4⟩ := z_st1 h2
  refine lv_astore hx hb hd hl hn rfl (fun ls' hl' => ?_)
  exact kk ls' _ ws H locs ⟨⟨_, hl', z_put_ok hz ⟨y, hy, rfl⟩⟩, h4, h3⟩
theorem z_astore_n (hx : p.tables.exec = Jvm.exec) (hb : c.code = cc) {k : Fin 4} {r : Nat} (hd : decode cc pc = .ok (.astore_n k, 1)) (hn : (k : Nat) < nL) (kk : z_G p l e R s m args below meth c Q xb env kc D cl A H0 ad0 nL (pc + 1) (z_put zl (k : Nat) (.inr (.inl (some r))), st, w, nc, ns)) : z_G p l e R s m args below meth c Q xb env kc D cl A H0 ad0 nL pc (zl, .inr (.inl (some r)) :: st, w, nc, ns) := by
  intro ls sv ws H locs ⟨⟨lv, hl, hz⟩, h2, h3⟩
  obtain ⟨x, sv', rfl, ⟨y, hy, rfl⟩, h4⟩ := z_st1 h2
  refine lv_astore_n hx hb hd rfl hl hn rfl (fun ls' hl' => ?_)
  exact kk ls' _ ws H locs ⟨⟨_, hl', z_put_ok hz ⟨y, hy, rfl⟩⟩, h4, h3⟩
theorem z_iinc (hx : p.tables.exec = Jvm.exec) (hb : c.code = cc) {i : Nat} {n : Int} {t : zI} (hd : decode cc pc = .ok (.iinc i n, 3)) (hg : z_get zl i = some (.inl t)) (hn : i < nL) (kk : z_G p l e R s m args below meth c Q xb env kc D cl A H0 ad0 nL (pc + 3) (z_put zl i (.inl (z_add t (.inl (some (Int32.ofInt n))))), st, w, nc, ns)) : z_G p l e R s m args below meth c Q xb env kc D cl A H0 ad0 nL pc (zl, st, w, nc, ns) := by
  intro ls sv ws H locs ⟨⟨lv, hl, hz⟩, h2, h3⟩
  obtain ⟨x, hm, y, rfl, hy⟩ := z_get_in hz hg
  obtain ⟨k, hk⟩ := List.getElem?_of_mem hm
  refine lv_iinc hx hb hd hl hk rfl hn rfl (fun ls' hl' => ?_)
  exact kk ls' _ ws H locs ⟨⟨_, hl', z_put_ok hz ⟨_, rfl, z_add_ok hy rfl⟩⟩, h2, h3⟩
theorem z_dup (hx : p.tables.exec = Jvm.exec) (hb : c.code = cc) {t : zV} (hd : decode cc pc = .ok (.dup, 1)) (ht : z_cat t = 1) (kk : z_G p l e R s m args below meth c Q xb env kc D cl A H0 ad0 nL (pc + 1) (zl, t :: t :: st, w, nc, ns)) : z_G p l e R s m args below meth c Q xb env kc D cl A H0 ad0 nL pc (zl, t :: st, w, nc, ns) := by
  intro ls sv ws H locs ⟨h1, h2, h3⟩
  obtain ⟨x, sv', rfl, hv, h4⟩ := z_st1 h2
  refine lv_dup hx hb hd (by rw [← z_v_cat hv]; exact ht) ?_
  exact kk ls _ ws H locs ⟨h1, ⟨hv, hv, h4⟩, h3⟩
theorem z_dup2 (hx : p.tables.exec = Jvm.exec) (hb : c.code = cc) {t u : zV} (hd : decode cc pc = .ok (.dup2, 1)) (ht : z_cat t = 1) (hu : z_cat u = 1) (kk : z_G p l e R s m args below meth c Q xb env kc D cl A H0 ad0 nL (pc + 1) (zl, t :: u :: t :: u :: st, w, nc, ns)) : z_G p l e R s m args below meth c Q xb env kc D cl A H0 ad0 nL pc (zl, t :: u :: st, w, nc, ns) := by
  intro ls sv ws H locs ⟨h1, h2, h3⟩
  obtain ⟨x, sv', rfl, hv, h4⟩ := z_st1 h2
  obtain ⟨y, sv'', rfl, hu', h5⟩ := z_st1 h4
  refine lv_dup2_11 hx hb hd (by rw [← z_v_cat hv]; exact ht) (by rw [← z_v_cat hu']; exact hu) ?_
  exact kk ls _ ws H locs ⟨h1, ⟨hv, hu', hv, hu', h5⟩, h3⟩
theorem z_pop (hx : p.tables.exec = Jvm.exec) (hb : c.code = cc) {t : zV} (hd : decode cc pc = .ok (.pop, 1)) (ht : z_cat t = 1) (kk : z_G p l e R s m args below meth c Q xb env kc D cl A H0 ad0 nL (pc + 1) (zl, st, w, nc, ns)) : z_G p l e R s m args below meth c Q xb env kc D cl A H0 ad0 nL pc (zl, t :: st, w, nc, ns) := by
  intro ls sv ws H locs ⟨h1, h2, h3⟩
  obtain ⟨x, sv', rfl, hv, h4⟩ := z_st1 h2
  refine lv_pop hx hb hd (by rw [← z_v_cat hv]; exact ht) ?_
  exact kk ls _ ws H locs ⟨h1, h4, h3⟩
theorem z_goto (hx : p.tables.exec = Jvm.exec) (hb : c.code = cc) {off : Int} {tgt : Nat} (hd : decode cc pc = .ok (.goto off, 3)) (ht : (pc : Int) + off = (tgt : Int)) (kk : z_G p l e R s m args below meth c Q xb env kc D cl A H0 ad0 nL tgt (zl, st, w, nc, ns)) : z_G p l e R s m args below meth c Q xb env kc D cl A H0 ad0 nL pc (zl, st, w, nc, ns) := by
  intro ls sv ws H locs h
  exact lv_goto hx hb hd ht (kk ls sv ws H locs h)
theorem z_i2l (hx : p.tables.exec = Jvm.exec) (hb : c.code = cc) {t : zI} (hd : decode cc pc = .ok (.i2l, 1)) (kk : z_G p l e R s m args below meth c Q xb env kc D cl A H0 ad0 nL (pc + 1) (zl, .inr (.inr ()) :: st, w, nc, ns)) : z_G p l e R s m args below meth c Q xb env kc D cl A H0 ad0 nL pc (zl, .inl t :: st, w, nc, ns) := by
  intro ls sv ws H locs ⟨h1, h2, h3⟩
  obtain ⟨x, sv', rfl, ⟨y, rfl, hy⟩, h4⟩ := z_st1 h2
  refine lv_i2l hx hb hd rfl ?_
  exact kk ls _ ws H locs ⟨h1, ⟨⟨_, rfl⟩, h4⟩, h3⟩
theorem z_i2b (hx : p.tables.exec = Jvm.exec) (hb : c.code = cc) {t : zI} (hd : decode cc pc = .ok (.i2b, 1)) (kk : z_G p l e R s m args below meth c Q xb env kc D cl A H0 ad0 nL (pc + 1) (zl, .inl (.inl none) :: st, w, nc, ns)) : z_G p l e R s m args below meth c Q xb env kc D cl A H0 ad0 nL pc (zl, .inl t :: st, w, nc, ns) := by
  intro ls sv ws H locs ⟨h1, h2, h3⟩
  obtain ⟨x, sv', rfl, ⟨y, rfl, hy⟩, h4⟩ := z_st1 h2
  refine lv_i2b hx hb hd rfl ?_
  exact kk ls _ ws H locs ⟨h1, ⟨⟨_, rfl, trivial⟩, h4⟩, h3⟩
theorem z_lload_n (hx : p.tables.exec = Jvm.exec) (hb : c.code = cc) {k : Fin 4} (hd : decode cc pc = .ok (.lload_n k, 1)) (hg : z_get zl (k : Nat) = some (.inr (.inr ()))) (kk : z_G p l e R s m args below meth c Q xb env kc D cl A H0 ad0 nL (pc + 1) (zl, .inr (.inr ()) :: st, w, nc, ns)) : z_G p l e R s m args below meth c Q xb env kc D cl A H0 ad0 nL pc (zl, st, w, nc, ns) := by
  intro ls sv ws H locs ⟨h1, h2, h3⟩
  obtain ⟨x, hx1, y, rfl⟩ := z_l_at h1 hg
  refine lv_lload_n hx hb hd rfl hx1 ?_
  exact kk ls _ ws H locs ⟨h1, ⟨⟨_, rfl⟩, h2⟩, h3⟩
theorem z_lstore_n (hx : p.tables.exec = Jvm.exec) (hb : c.code = cc) {k : Fin 4} (hd : decode cc pc = .ok (.lstore_n k, 1)) (hn : (k : Nat) + 1 < nL) (kk : z_G p l e R s m args below meth c Q xb env kc D cl A H0 ad0 nL (pc + 1) (z_put2 zl (k : Nat), st, w, nc, ns)) : z_G p l e R s m args below meth c Q xb env kc D cl A H0 ad0 nL pc (zl, .inr (.inr ()) :: st, w, nc, ns) := by
  intro ls sv ws H locs ⟨⟨lv, hl, hz⟩, h2, h3⟩
  obtain ⟨x, sv', rfl, ⟨y, rfl⟩, h4⟩ := z_st1 h2
  refine lv_lstore_n hx hb hd rfl hl hn rfl (fun ls' hl' => ?_)
  exact kk ls' _ ws H locs ⟨⟨_, hl', z_put2_ok hz⟩, h4, h3⟩
theorem z_ladd (hx : p.tables.exec = Jvm.exec) (hb : c.code = cc) (hd : decode cc pc = .ok (.ladd, 1)) (kk : z_G p l e R s m args below meth c Q xb env kc D cl A H0 ad0 nL (pc + 1) (zl, .inr (.inr ()) :: st, w, nc, ns)) : z_G p l e R s m args below meth c Q xb env kc D cl A H0 ad0 nL pc (zl, .inr (.inr ()) :: .inr (.inr ()) :: st, w, nc, ns) := by
  intro ls sv ws H locs ⟨h1, h2, h3⟩
  obtain ⟨_, sv', rfl, ⟨b, rfl⟩, h4⟩ := z_st1 h2
  obtain ⟨_, sv'', rfl, ⟨a, rfl⟩, h5⟩ := z_st1 h4
  refine lv_ladd hx hb hd ?_
  exact kk ls _ ws H locs ⟨h1, ⟨⟨_, rfl⟩, h5⟩, h3⟩
theorem z_lmul (hx : p.tables.exec = Jvm.exec) (hb : c.code = cc) (hd : decode cc pc = .ok (.lmul, 1)) (kk : z_G p l e R s m args below meth c Q xb env kc D cl A H0 ad0 nL (pc + 1) (zl, .inr (.inr ()) :: st, w, nc, ns)) : z_G p l e R s m args below meth c Q xb env kc D cl A H0 ad0 nL pc (zl, .inr (.inr ()) :: .inr (.inr ()) :: st, w, nc, ns) := by
  intro ls sv ws H locs ⟨h1, h2, h3⟩
  obtain ⟨_, sv', rfl, ⟨b, rfl⟩, h4⟩ := z_st1 h2
  obtain ⟨_, sv'', rfl, ⟨a, rfl⟩, h5⟩ := z_st1 h4
  refine lv_lmul hx hb hd ?_
  exact kk ls _ ws H locs ⟨h1, ⟨⟨_, rfl⟩, h5⟩, h3⟩
/-! numbers -/
theorem z_iadd (hx : p.tables.exec = Jvm.exec) (hb : c.code = cc) {x y : zI} (hd : decode cc pc = .ok (.iadd, 1)) (kk : z_G p l e R s m args below meth c Q xb env kc D cl A H0 ad0 nL (pc + 1) (zl, .inl (z_add x y) :: st, w, nc, ns)) : z_G p l e R s m args below meth c Q xb env kc D cl A H0 ad0 nL pc (zl, .inl y :: .inl x :: st, w, nc, ns) := by
  intro ls sv ws H locs ⟨h1, h2, h3⟩
  obtain ⟨_, sv', rfl, ⟨b, rfl, hy⟩, h4⟩ := z_st1 h2
  obtain ⟨_, sv'', rfl, ⟨a, rfl, ha⟩, h5⟩ := z_st1 h4
  refine lv_iadd hx hb hd ?_
  exact kk ls _ ws H locs ⟨h1, ⟨⟨_, rfl, z_add_ok ha hy⟩, h5⟩, h3⟩
theorem z_iand (hx : p.tables.exec = Jvm.exec) (hb : c.code = cc) {x y : zI} (hd : decode cc pc = .ok (.iand, 1)) (kk : z_G p l e R s m args below meth c Q xb env kc D cl A H0 ad0 nL (pc + 1) (zl, .inl (z_and x y) :: st, w, nc, ns)) : z_G p l e R s m args below meth c Q xb env kc D cl A H0 ad0 nL pc (zl, .inl y :: .inl x :: st, w, nc, ns) := by
  intro ls sv ws H locs ⟨h1, h2, h3⟩
  obtain ⟨_, sv', rfl, ⟨b, rfl, hy⟩, h4⟩ := z_st1 h2
  obtain ⟨_, sv'', rfl, ⟨a, rfl, ha⟩, h5⟩ := z_st1 h4
  refine lv_iand hx hb hd ?_
  exact kk ls _ ws H locs ⟨h1, ⟨⟨_, rfl, z_and_ok ha hy⟩, h5⟩, h3⟩
theorem z_isub (hx : p.tables.exec = Jvm.exec) (hb : c.code = cc) {x y : zI} (hd : decode cc pc = .ok (.isub, 1)) (kk : z_G p l e R s m args below meth c Q xb env kc D cl A H0 ad0 nL (pc + 1) (zl, .inl (z_op2 (fun a b => a - b) x y) :: st, w, nc, ns)) : z_G p l e R s m args below meth c Q xb env kc D cl A H0 ad0 nL pc (zl, .inl y :: .inl x :: st, w, nc, ns) := by
  intro ls sv ws H locs ⟨h1, h2, h3⟩
  obtain ⟨_, sv', rfl, ⟨b, rfl, hy⟩, h4⟩ := z_st1 h2
  obtain ⟨_, sv'', rfl, ⟨a, rfl, ha⟩, h5⟩ := z_st1 h4
  refine lv_isub hx hb hd ?_
  exact kk ls _ ws H locs ⟨h1, ⟨⟨_, rfl, z_op2_ok (fun a b => a - b) ha hy⟩, h5⟩, h3⟩
theorem z_imul (hx : p.tables.exec = Jvm.exec) (hb : c.code = cc) {x y : zI} (hd : decode cc pc = .ok (.imul, 1)) (kk : z_G p l e R s m args below meth c Q xb env kc D cl A H0 ad0 nL (pc + 1) (zl, .inl (z_op2 (fun a b => a * b) x y) :: st, w, nc, ns)) : z_G p l e R s m args below meth c Q xb env kc D cl A H0 ad0 nL pc (zl, .inl y :: .inl x :: st, w, nc, ns) := by
  intro ls sv ws H locs ⟨h1, h2, h3⟩
  obtain ⟨_, sv', rfl, ⟨b, rfl, hy⟩, h4⟩ := z_st1 h2
  obtain ⟨_, sv'', rfl, ⟨a, rfl, ha⟩, h5⟩ := z_st1 h4
  refine lv_imul hx hb hd ?_
  exact kk ls _ ws H locs ⟨h1, ⟨⟨_, rfl, z_op2_ok (fun a b => a * b) ha hy⟩, h5⟩, h3⟩
theorem z_ior (hx : p.tables.exec = Jvm.exec) (hb : c.code = cc) {x y : zI} (hd : decode cc pc = .ok (.ior, 1)) (kk : z_G p l e R s m args below meth c Q xb env kc D cl A H0 ad0 nL (pc + 1) (zl, .inl (z_op2 (fun a b => a ||| b) x y) :: st, w, nc, ns)) : z_G p l e R s m args below meth c Q xb env kc D cl A H0 ad0 nL pc (zl, .inl y :: .inl x :: st, w, nc, ns) := by
  intro ls sv ws H locs ⟨h1, h2, h3⟩
  obtain ⟨_, sv', rfl, ⟨b, rfl, hy⟩, h4⟩ := z_st1 h2
  obtain ⟨_, sv'', rfl, ⟨a, rfl, ha⟩, h5⟩ := z_st1 h4
  refine lv_ior hx hb hd ?_
  exact kk ls _ ws H locs ⟨h1, ⟨⟨_, rfl, z_op2_ok (fun a b => a ||| b) ha hy⟩, h5⟩, h3⟩
theorem z_ixor (hx : p.tables.exec = Jvm.exec) (hb : c.code = cc) {x y : zI} (hd : decode cc pc = .ok (.ixor, 1)) (kk : z_G p l e R s m args below meth c Q xb env kc D cl A H0 ad0 nL (pc + 1) (zl, .inl (z_op2 (fun a b => a ^^^ b) x y) :: st, w, nc, ns)) : z_G p l e R s m args below meth c Q xb env kc D cl A H0 ad0 nL pc (zl, .inl y :: .inl x :: st, w, nc, ns) := by
  intro ls sv ws H locs ⟨h1, h2, h3⟩
  obtain ⟨_, sv', rfl, ⟨b, rfl, hy⟩, h4⟩ := z_st1 h2
  obtain ⟨_, sv'', rfl, ⟨a, rfl, ha⟩, h5⟩ := z_st1 h4
  refine lv_ixor hx hb hd ?_
  exact kk ls _ ws H locs ⟨h1, ⟨⟨_, rfl, z_op2_ok (fun a b => a ^^^ b) ha hy⟩, h5⟩, h3⟩
theorem z_ishl (hx : p.tables.exec = Jvm.exec) (hb : c.code = cc) {x y : zI} (hd : decode cc pc = .ok (.ishl, 1)) (kk : z_G p l e R s m args below meth c Q xb env kc D cl A H0 ad0 nL (pc + 1) (zl, .inl (z_op2 (fun a b => a <<< (b &&& 31)) x y) :: st, w, nc, ns)) : z_G p l e R s m args below meth c Q xb env kc D cl A H0 ad0 nL pc (zl, .inl y :: .inl x :: st, w, nc, ns) := by
  intro ls sv ws H locs ⟨h1, h2, h3⟩
  obtain ⟨_, sv', rfl, ⟨b, rfl, hy⟩, h4⟩ := z_st1 h2
  obtain ⟨_, sv'', rfl, ⟨a, rfl, ha⟩, h5⟩ := z_st1 h4
  refine lv_ishl hx hb hd ?_
  exact kk ls _ ws H locs ⟨h1, ⟨⟨_, rfl, z_op2_ok (fun a b => a <<< (b &&& 31)) ha hy⟩, h5⟩, h3⟩
theorem z_ishr (hx : p.tables.exec = Jvm.exec) (hb : c.code = cc) {x y : zI} (hd : decode cc pc = .ok (.ishr, 1)) (kk : z_G p l e R s m args below meth c Q xb env kc D cl A H0 ad0 nL (pc + 1) (zl, .inl (z_op2 (fun a b => a >>> (b &&& 31)) x y) :: st, w, nc, ns)) : z_G p l e R s m args below meth c Q xb env kc D cl A H0 ad0 nL pc (zl, .inl y :: .inl x :: st, w, nc, ns) := by
  intro ls sv ws H locs ⟨h1, h2, h3⟩
  obtain ⟨_, sv', rfl, ⟨b, rfl, hy⟩, h4⟩ := z_st1 h2
  obtain ⟨_, sv'', rfl, ⟨a, rfl, ha⟩, h5⟩ := z_st1 h4
  refine lv_ishr hx hb hd ?_
  exact kk ls _ ws H locs ⟨h1, ⟨⟨_, rfl, z_op2_ok (fun a b => a >>> (b &&& 31)) ha hy⟩, h5⟩, h3⟩
theorem z_iushr (hx : p.tables.exec = Jvm.exec) (hb : c.code = cc) {x y : zI} (hd : decode cc pc = .ok (.iushr, 1)) (kk : z_G p l e R s m args below meth c Q xb env kc D cl A H0 ad0 nL (pc + 1) (zl, .inl (.inl none) :: st, w, nc, ns)) : z_G p l e R s m args below meth c Q xb env kc D cl A H0 ad0 nL pc (zl, .inl y :: .inl x :: st, w, nc, ns) := by
  intro ls sv ws H locs ⟨h1, h2, h3⟩
  obtain ⟨_, sv', rfl, ⟨b, rfl, hy⟩, h4⟩ := z_st1 h2
  obtain ⟨_, sv'', rfl, ⟨a, rfl, ha⟩, h5⟩ := z_st1 h4
  refine lv_iushr hx hb hd rfl ?_
  exact kk ls _ ws H locs ⟨h1, ⟨⟨_, rfl, trivial⟩, h5⟩, h3⟩
/-! branches -/
def z_cond (B : List (Int × Int)) (k : Jvm.ClassFile.Cond) (x y : zI) : Option Bool := match k with
  | .eq => z_eq B x y
  | .ne => (z_eq B x y).map (fun b => !b)
  | .lt => z_lt B x y
  | .ge => (z_lt B x y).map (fun b => !b)
  | .gt => z_lt B y x
  | .le => (z_lt B y x).map (fun b => !b)
theorem z_le_not {a b : Int32} : a ≤ b ↔ ¬ b < a := by
  rw [Int32.le_iff_toInt_le, Int32.lt_iff_toInt_lt]
  omega
theorem z_icmp (hx : p.tables.exec = Jvm.exec) (hb : c.code = cc) {B : List (Int × Int)} (hB : z_B B env) {k : Jvm.ClassFile.Cond} {off : Int} {tgt : Nat} {x y : zI} {r : Bool} (hd : decode cc pc = .ok (.if_icmp k off, 3)) (ht : (pc : Int) + off = (tgt : Int)) (hr : z_cond B k x y = some r) (kk : z_G p l e R s m args below meth c Q xb env kc D cl A H0 ad0 nL (if r then tgt else pc + 3) (zl, st, w, nc, ns)) : z_G p l e R s m args below meth c Q xb env kc D cl A H0 ad0 nL pc (zl, .inl y :: .inl x :: st, w, nc, ns) := by
  intro ls sv ws H locs ⟨h1, h2, h3⟩
  obtain ⟨_, sv', rfl, ⟨b, rfl, hy⟩, h4⟩ := z_st1 h2
  obtain ⟨_, sv'', rfl, ⟨a, rfl, ha⟩, h5⟩ := z_st1 h4
  have kk := kk ls sv'' ws H locs ⟨h1, h5, h3⟩
  cases k with
  | eq =>
    have he := z_eq_ok hB ha hy hr
    refine lv_icmp_eq hx hb hd ht (fun h => ?_) (fun h => ?_)
    · rw [if_pos (he.mp h)] at kk; exact kk
    · rw [if_neg (fun q => h (he.mpr q))] at kk; exact kk
  | ne =>
    obtain ⟨b0, hb0, rfl⟩ := Option.map_eq_some_iff.mp hr
    have he := z_eq_ok hB ha hy hb0
    refine lv_icmp_ne hx hb hd ht (fun h => ?_) (fun h => ?_)
    · rw [if_pos (by cases b0 with | true => exact absurd (he.mpr rfl) h | false => rfl)] at kk; exact kk
    · rw [if_neg (by rw [he.mp h]; decide)] at kk; exact kk
  | lt =>
    have he := z_lt_ok hB ha hy hr
    refine lv_icmp_lt hx hb hd ht (fun h => ?_) (fun h => ?_)
    · rw [if_pos (he.mp h)] at kk; exact kk
    · rw [if_neg (fun q => h (he.mpr q))] at kk; exact kk
  | ge =>
    obtain ⟨b0, hb0, rfl⟩ := Option.map_eq_some_iff.mp hr
    have he := z_lt_ok hB ha hy hb0
    refine lv_icmp_ge hx hb hd ht (fun h => ?_) (fun h => ?_)
    · rw [if_pos (by cases b0 with | true => exact absurd (he.mpr rfl) (z_le_not.mp h) | false => rfl)] at kk; exact kk
    · rw [if_neg (by cases b0 with | true => decide | false => exact absurd (z_le_not.mpr (fun q => by have := he.mp q; cases this)) h)] at kk; exact kk
  | gt =>
    have he := z_lt_ok hB hy ha hr
    refine lv_icmp_gt hx hb hd ht (fun h => ?_) (fun h => ?_)
    · rw [if_pos (he.mp h)] at kk; exact kk
    · rw [if_neg (fun q => h (he.mpr q))] at kk; exact kk
  | le =>
    obtain ⟨b0, hb0, rfl⟩ := Option.map_eq_some_iff.mp hr
    have he := z_lt_ok hB hy ha hb0
    refine lv_icmp_le hx hb hd ht (fun h => ?_) (fun h => ?_)
    · rw [if_pos (by cases b0 with | true => exact absurd (he.mpr rfl) (z_le_not.mp h) | false => rfl)] at kk; exact kk
    · rw [if_neg (by cases b0 with | true => decide | false => exact absurd (z_le_not.mpr (fun q => by have := he.mp q; cases this)) h)] at kk; exact kk
theorem z_if (hx : p.tables.exec = Jvm.exec) (hb : c.code = cc) {B : List (Int × Int)} (hB : z_B B env) {k : Jvm.ClassFile.Cond} {off : Int} {tgt : Nat} {x : zI} {r : Bool} (hd : decode cc pc = .ok (.ifCond k off, 3)) (ht : (pc : Int) + off = (tgt : Int)) (hr : z_cond B k x (.inl (some 0)) = some r) (kk : z_G p l e R s m args below meth c Q xb env kc D cl A H0 ad0 nL (if r then tgt else pc + 3) (zl, st, w, nc, ns)) : z_G p l e R s m args below meth c Q xb env kc D cl A H0 ad0 nL pc (zl, .inl x :: st, w, nc, ns) := by
  intro ls sv ws H locs ⟨h1, h2, h3⟩
  obtain ⟨_, sv', rfl, ⟨a, rfl, ha⟩, h4⟩ := z_st1 h2
  have kk := kk ls sv' ws H locs ⟨h1, h4, h3⟩
  have hy : z_i env (.inl (some 0)) 0 := rfl
  cases k with
  | eq =>
    have he := z_eq_ok hB ha hy hr
    refine lv_if_eq hx hb hd ht (fun h => ?_) (fun h => ?_)
    · rw [if_pos (he.mp h)] at kk; exact kk
    · rw [if_neg (fun q => h (he.mpr q))] at kk; exact kk
  | ne =>
    obtain ⟨b0, hb0, rfl⟩ := Option.map_eq_some_iff.mp hr
    have he := z_eq_ok hB ha hy hb0
    refine lv_if_ne hx hb hd ht (fun h => ?_) (fun h => ?_)
    · rw [if_pos (by cases b0 with | true => exact absurd (he.mpr rfl) h | false => rfl)] at kk; exact kk
    · rw [if_neg (by rw [he.mp h]; decide)] at kk; exact kk
  | lt =>
    have he := z_lt_ok hB ha hy hr
    refine lv_if_lt hx hb hd ht (fun h => ?_) (fun h => ?_)
    · rw [if_pos (he.mp h)] at kk; exact kk
    · rw [if_neg (fun q => h (he.mpr q))] at kk; exact kk
  | ge =>
    obtain ⟨b0, hb0, rfl⟩ := Option.map_eq_some_iff.mp hr
    have he := z_lt_ok hB ha hy hb0
    refine lv_if_ge hx hb hd ht (fun h => ?_) (fun h => ?_)
    · rw [if_pos (by cases b0 with | true => exact absurd (he.mpr rfl) (z_le_not.mp h) | false => rfl)] at kk; exact kk
    · rw [if_neg (by cases b0 with | true => decide | false => exact absurd (z_le_not.mpr (fun q => by have := he.mp q; cases this)) h)] at kk; exact kk
  | gt =>
    have he := z_lt_ok hB hy ha hr
    refine lv_if_gt hx hb hd ht (fun h => ?_) (fun h => ?_)
    · rw [if_pos (he.mp h)] at kk; exact kk
    · rw [if_neg (fun q => h (he.mpr q))] at kk; exact kk
  | le =>
    obtain ⟨b0, hb0, rfl⟩ := Option.map_eq_some_iff.mp hr
    have he := z_lt_ok hB hy ha hb0
    refine lv_if_le hx hb hd ht (fun h => ?_) (fun h => ?_)
    · rw [if_pos (by cases b0 with | true => exact absurd (he.mpr rfl) (z_le_not.mp h) | false => rfl)] at kk; exact kk
    · rw [if_neg (by cases b0 with | true => decide | false => exact absurd (z_le_not.mpr (fun q => by have := he.mp q; cases this)) h)] at kk; exact kk
end ZG
end
section
/-! ===== fields, arrays, new cells ===== -/
def z_TY (kc : Nat → ClassId) : List (ClassId × FieldType) := [(kc 0, .int), (kc 1, .long), (kc 2, .byte), (kc 3, .boolean), (kc 4, .object "HeldCoats$State"), (kc 5, .object "HeldCoats$Image")]
theorem z_same {D : va_G} {cl : List vw_C} {tys : List (ClassId × FieldType)} {s : State} {cA b : ClassId} {ty : FieldType} (hK : va_K D cl (tys ++ [(cA, ty)]) s) {t : Nat} (ht : tys[t]? = some (b, ty)) : cA = b := by
  have h1 := (hK.2 tys.length (cA, ty) (by simp)).2
  have hl : t < tys.length := (List.getElem?_eq_some_iff.mp ht).1
  have h2 := (hK.2 t (b, ty) (by rw [List.getElem?_append_left hl]; exact ht)).2
  cases ty with
  | object C =>
    obtain ⟨_, _, _, _, _, h3⟩ := h1
    obtain ⟨_, _, _, _, _, h4⟩ := h2
    exact Option.some.inj (h3.symm.trans h4)
  | _ => exact Option.some.inj ((show _ = some cA from h1).symm.trans (show _ = some b from h2))
/-- a field's type takes the value as it is -/
def z_fit (ty : FieldType) (v : zV) : Bool := match ty, v with
  | .int, .inl _ => true
  | .boolean, .inl (.inl (some c)) => c == 0 || c == 1
  | .object _, .inr (.inl _) => true
  | .array _, .inr (.inl _) => true
  | .long, .inr (.inr _) => true
  | _, _ => false
theorem z_fit_ok {env : Nat → Int32} {ad : Nat → Option Nat} {ty : FieldType} {v : zV} {x : Value} (h : z_fit ty v = true) (hv : z_v env ad v x) : narrow ty x = x ∧ fits ty x = true := by
  unfold z_fit at h
  split at h
  next => obtain ⟨y, rfl, _⟩ := hv; exact ⟨rfl, rfl⟩
  next c0 =>
    obtain ⟨y, rfl, hy⟩ := hv
    rw [show y = c0 from hy]
    simp only [Bool.or_eq_true, beq_iff_eq] at h
    rcases h with rfl | rfl
    · exact ⟨by decide +kernel, by decide +kernel⟩
    · exact ⟨by decide +kernel, by decide +kernel⟩
  next o =>
    cases o with
    | none => rw [show x = .null from hv]; exact ⟨rfl, rfl⟩
    | some i => obtain ⟨a, _, rfl⟩ := hv; exact ⟨rfl, rfl⟩
  next o =>
    cases o with
    | none => rw [show x = .null from hv]; exact ⟨rfl, rfl⟩
    | some i => obtain ⟨a, _, rfl⟩ := hv; exact ⟨rfl, rfl⟩
  next => obtain ⟨y, rfl⟩ := hv; exact ⟨rfl, rfl⟩
  next => cases h
/-- a known place in a row of n -/
def z_ix (B : List (Int × Int)) (t : zI) (n : Nat) : Option Nat := if (z_rng B t).1 = (z_rng B t).2 ∧ 0 ≤ (z_rng B t).1 ∧ (z_rng B t).1 < (n : Int) then some (z_rng B t).1.toNat else none
theorem z_ix_ok {B : List (Int × Int)} {env : Nat → Int32} (hB : z_B B env) {t : zI} {x : Int32} {n k : Nat} (h : z_i env t x) (e : z_ix B t n = some k) : vp_in x n ∧ x.toNatClampNeg = k ∧ k < n := by
  have h1 := z_rng_ok hB h
  unfold z_ix at e
  split at e
  next hc =>
    have e := Option.some.inj e
    have hx : x.toInt = (k : Int) := by omega
    have hk : k < n := by omega
    refine ⟨vp_in_iff.mpr ⟨by omega, by omega⟩, ?_, hk⟩
    have : x.toNatClampNeg = x.toInt.toNat := rfl
    rw [this, hx]
    rfl
  next => cases e
section ZH
variable {p : Program} {l : Launch} {e : Env} {R : Room} {s : State} {m : MethodId} {args : Array Value} {below : List Frame} {meth : Method} {c : Code} {Q : State → Prop} {cc : ByteArray}
variable {xb : Nat} {env : Nat → Int32} {kc : Nat → ClassId} {D : va_G} {cl : List vw_C} {A : Nat → Prop} {H0 : Heap} {ad0 : Nat → Option Nat} {nL : Nat}
variable {zl : List (Nat × zV)} {st : List zV} {w : zW} {nc ns pc : Nat} {tys : List (ClassId × FieldType)}
theorem z_getf (hx : p.tables.exec = Jvm.exec) (hb : c.code = cc) {own C : String} {T : u_T} {N ci k index r : Nat} {Ts : List Cond} {fs : List zV} {v : zV} (hts : ∀ w ∈ Ts, w.before args s = true) (hin : ∀ w ∈ u_ws C T N, w ∈ Ts) (hown : s.vm.findClass own = some m.cls) (hK : va_K D cl tys s) (hc : cl[ci]? = some (C, T, N)) (hk : k < N) (hlink : (Cond.fieldLink own index (T k).1 (T k).2.1 (T k).2.2.1) ∈ Ts) (hd : decode cc pc = .ok (.getfield index, 3))
    (hw : w[r]? = some (.inl (ci, fs))) (hv : fs[k]? = some v) (kk : z_G p l e R s m args below meth c Q xb env kc D cl A H0 ad0 nL (pc + 3) (zl, v :: st, w, nc, ns)) : z_G p l e R s m args below meth c Q xb env kc D cl A H0 ad0 nL pc (zl, .inr (.inl (some (r + 1))) :: st, w, nc, ns) := by
  intro ls sv ws H locs ⟨h1, h2, h3, h6, hP, hD, hS⟩
  obtain ⟨_, sv', rfl, ⟨a, ha, rfl⟩, h4⟩ := z_st1 h2
  obtain ⟨a', e', hws, ha', vs, rfl, hvs⟩ := z_w_get h3 hw
  obtain rfl : a = a' := Option.some.inj (ha.symm.trans ha')
  obtain ⟨b, hb1, hb2⟩ := z_L_get hvs hv
  refine va_get hx hb hts hin hown hK hP r hws hc k hk (hts _ hlink) (fun _ h => h) hb1 hd ?_
  exact kk ls _ ws H locs ⟨h1, ⟨hb2, h4⟩, h3, h6, hP, hD, hS⟩
theorem z_putf (hx : p.tables.exec = Jvm.exec) (hb : c.code = cc) {own C : String} {T : u_T} {N ci k index r : Nat} {Ts : List Cond} {fs : List zV} {v : zV} {ty0 : Nat → FieldType} (hts : ∀ w ∈ Ts, w.before args s = true) (hin : ∀ w ∈ u_ws C T N, w ∈ Ts) (hty : ∀ k, k < N → parseFieldDescriptor (T k).2.2.1 = some (ty0 k)) (hnm : ∀ a, a < N → ∀ b, b < N → a ≠ b → (T a).2.1 ≠ (T b).2.1) (hown : s.vm.findClass own = some m.cls) (hK : va_K D cl tys s) (hc : cl[ci]? = some (C, T, N)) (hk : k < N) (hlink : (Cond.fieldLink own index (T k).1 (T k).2.1 (T k).2.2.1) ∈ Ts)
    (hfin : (T k).2.2.2 = false ∨ ((T k).2.2.2 = true ∧ meth.name = "<init>" ∧ (T k).1 = own)) (hd : decode cc pc = .ok (.putfield index, 3)) (hw : w[r]? = some (.inl (ci, fs))) (hl : k < fs.length) (hfit : z_fit (ty0 k) v = true) (kk : z_G p l e R s m args below meth c Q xb env kc D cl A H0 ad0 nL (pc + 3) (zl, st, w.set r (.inl (ci, fs.set k v)), nc, ns)) : z_G p l e R s m args below meth c Q xb env kc D cl A H0 ad0 nL pc (zl, v :: .inr (.inl (some (r + 1))) :: st, w, nc, ns) := by
  intro ls sv ws H locs ⟨h1, h2, h3, h6, hP, hD, hS⟩
  obtain ⟨x, sv', rfl, hvx, h4⟩ := z_st1 h2
  obtain ⟨_, sv'', rfl, ⟨a, ha, rfl⟩, h5⟩ := z_st1 h4
  obtain ⟨a', e', hws, ha', vs, rfl, hvs⟩ := z_w_get h3 hw
  obtain rfl : a = a' := Option.some.inj (ha.symm.trans ha')
  obtain ⟨hn1, hn2⟩ := z_fit_ok hfit hvx
  have hl' : k < vs.length := by rw [← z_L_len hvs]; exact hl
  have hgo : ∀ (H1 : Heap) (locs1 : List Loc), va_P D cl (ws.set r (a, .inr (ci, vs.set k x))) H1 → va_D A (ws.set r (a, .inr (ci, vs.set k x))) → va_S A H0 H1 locs1 → W p l e R s m args below meth c H1 locs1 nc ns Q (F0 m (pc + 3) ls sv'') := by
    intro H1 locs1 hP1 hD1 hS1
    have e9 := z_ad_set (xb := xb) (e := .inr (ci, vs.set k x)) hws
    refine kk ls _ (ws.set r (a, .inr (ci, vs.set k x))) H1 locs1 ⟨by rw [e9]; exact h1, by rw [e9]; exact h5, z_w_set h3 hws ⟨_, rfl, z_L_set hvs k hvx⟩, by rw [e9]; exact h6, hP1, hD1, hS1⟩
  rcases hfin with hf | ⟨hf, hf2, hf3⟩
  · exact va_put hx hb hts hin ty0 hty hnm hown hK hP hD hS r hws hc k hk (hts _ hlink) (fun _ h => h) hf (hty k hk) hn1 hn2 hl' hd hgo
  · exact va_putF hx hb hts hin ty0 hty hnm hown hK hP hD hS r hws hc k hk (hts _ hlink) (fun _ h => h) hf hf2 hf3 (hty k hk) hn1 hn2 hl' hd hgo
theorem z_iald (hx : p.tables.exec = Jvm.exec) (hb : c.code = cc) {B : List (Int × Int)} (hB : z_B B env) {r k : Nat} {t : zI} {es : List zI} {x : zI} (hK : va_K D cl tys s) (ht : tys[0]? = some (kc 0, .int)) (hd : decode cc pc = .ok (.iaload, 1)) (hw : w[r]? = some (.inr (.inl (0, es)))) (hi : z_ix B t es.length = some k) (hv : es[k]? = some x) (kk : z_G p l e R s m args below meth c Q xb env kc D cl A H0 ad0 nL (pc + 1) (zl, .inl x :: st, w, nc, ns)) : z_G p l e R s m args below meth c Q xb env kc D cl A H0 ad0 nL pc (zl, .inl t :: .inr (.inl (some (r + 1))) :: st, w, nc, ns) := by
  intro ls sv ws H locs ⟨h1, h2, h3, h6, hP, hD, hS⟩
  obtain ⟨_, sv', rfl, ⟨y, rfl, hy⟩, h4⟩ := z_st1 h2
  obtain ⟨_, sv'', rfl, ⟨a, ha, rfl⟩, h5⟩ := z_st1 h4
  obtain ⟨a', e', hws, ha', f, rfl, hf⟩ := z_w_get h3 hw
  obtain rfl : a = a' := Option.some.inj (ha.symm.trans ha')
  obtain ⟨hi1, hi2, hi3⟩ := z_ix_ok hB hy hi
  refine va_iald hx hb hK hP r 0 hws ht hi1 hd ?_
  rw [hi2]
  exact kk ls _ ws H locs ⟨h1, ⟨⟨_, rfl, hf k x hv⟩, h5⟩, h3, h6, hP, hD, hS⟩
theorem z_zald (hx : p.tables.exec = Jvm.exec) (hb : c.code = cc) {B : List (Int × Int)} (hB : z_B B env) {r k : Nat} {t : zI} {es : List zI} {x : zI} (hK : va_K D cl tys s) (ht : tys[3]? = some (kc 3, .boolean)) (hd : decode cc pc = .ok (.baload, 1)) (hw : w[r]? = some (.inr (.inl (3, es)))) (hi : z_ix B t es.length = some k) (hv : es[k]? = some x) (kk : z_G p l e R s m args below meth c Q xb env kc D cl A H0 ad0 nL (pc + 1) (zl, .inl x :: st, w, nc, ns)) : z_G p l e R s m args below meth c Q xb env kc D cl A H0 ad0 nL pc (zl, .inl t :: .inr (.inl (some (r + 1))) :: st, w, nc, ns) := by
  intro ls sv ws H locs ⟨h1, h2, h3, h6, hP, hD, hS⟩
  obtain ⟨_, sv', rfl, ⟨y, rfl, hy⟩, h4⟩ := z_st1 h2
  obtain ⟨_, sv'', rfl, ⟨a, ha, rfl⟩, h5⟩ := z_st1 h4
  obtain ⟨a', e', hws, ha', f, rfl, hf⟩ := z_w_get h3 hw
  obtain rfl : a = a' := Option.some.inj (ha.symm.trans ha')
  obtain ⟨hi1, hi2, hi3⟩ := z_ix_ok hB hy hi
  refine va_zald hx hb hK hP r 3 hws ht hi1 hd ?_
  rw [hi2]
  exact kk ls _ ws H locs ⟨h1, ⟨⟨_, rfl, hf k x hv⟩, h5⟩, h3, h6, hP, hD, hS⟩
theorem z_es_set {env : Nat → Int32} {es : List zI} {f : Nat → Int32} {k : Nat} {v : zI} {x : Int32} (hf : ∀ (j : Nat) (y : zI), es[j]? = some y → z_i env y (f j)) (hv : z_i env v x) : ∀ (j : Nat) (y : zI), (es.set k v)[j]? = some y → z_i env y (upd f k x j) := by
  intro j y hj
  by_cases hk : k = j
  · subst hk
    rcases Nat.lt_or_ge k es.length with h1 | h1
    · rw [List.getElem?_set_self h1] at hj
      cases hj
      rw [pk_us]
      exact hv
    · rw [List.getElem?_eq_none (by rw [List.length_set]; exact h1)] at hj
      cases hj
  · rw [List.getElem?_set_ne hk] at hj
    rw [pk_un (fun q => hk q.symm)]
    exact hf j y hj
theorem z_iast (hx : p.tables.exec = Jvm.exec) (hb : c.code = cc) {B : List (Int × Int)} (hB : z_B B env) {r k : Nat} {t v : zI} {es : List zI} (hK : va_K D cl tys s) (ht : tys[0]? = some (kc 0, .int)) (hd : decode cc pc = .ok (.iastore, 1)) (hw : w[r]? = some (.inr (.inl (0, es)))) (hi : z_ix B t es.length = some k) (kk : z_G p l e R s m args below meth c Q xb env kc D cl A H0 ad0 nL (pc + 1) (zl, st, w.set r (.inr (.inl (0, es.set k v))), nc, ns)) : z_G p l e R s m args below meth c Q xb env kc D cl A H0 ad0 nL pc (zl, .inl v :: .inl t :: .inr (.inl (some (r + 1))) :: st, w, nc, ns) := by
  intro ls sv ws H locs ⟨h1, h2, h3, h6, hP, hD, hS⟩
  obtain ⟨_, sv', rfl, ⟨x, rfl, hx1⟩, h4⟩ := z_st1 h2
  obtain ⟨_, sv'', rfl, ⟨y, rfl, hy⟩, h5⟩ := z_st1 h4
  obtain ⟨_, sv3, rfl, ⟨a, ha, rfl⟩, h7⟩ := z_st1 h5
  obtain ⟨a', e', hws, ha', f, rfl, hf⟩ := z_w_get h3 hw
  obtain rfl : a = a' := Option.some.inj (ha.symm.trans ha')
  obtain ⟨hi1, hi2, hi3⟩ := z_ix_ok hB hy hi
  refine va_iast hx hb hK hP hD hS r 0 hws ht hi1 hd (fun H1 locs1 hP1 hD1 hS1 => ?_)
  rw [hi2] at hP1 hD1
  have e9 := z_ad_set (xb := xb) (e := .inl (kc 0, es.length, .inl (upd f k x))) hws
  exact kk ls _ _ H1 locs1 ⟨by rw [e9]; exact h1, by rw [e9]; exact h7, z_w_set h3 hws ⟨_, by rw [List.length_set], z_es_set hf hx1⟩, by rw [e9]; exact h6, hP1, hD1, hS1⟩
theorem z_bast (hx : p.tables.exec = Jvm.exec) (hb : c.code = cc) {B : List (Int × Int)} (hB : z_B B env) {r k : Nat} {t v : zI} {es : List zI} (hK : va_K D cl tys s) (ht : tys[2]? = some (kc 2, .byte)) (hd : decode cc pc = .ok (.bastore, 1)) (hw : w[r]? = some (.inr (.inl (2, es)))) (hi : z_ix B t es.length = some k) (kk : z_G p l e R s m args below meth c Q xb env kc D cl A H0 ad0 nL (pc + 1) (zl, st, w.set r (.inr (.inl (2, es.set k (.inl none)))), nc, ns)) : z_G p l e R s m args below meth c Q xb env kc D cl A H0 ad0 nL pc (zl, .inl v :: .inl t :: .inr (.inl (some (r + 1))) :: st, w, nc, ns) := by
  intro ls sv ws H locs ⟨h1, h2, h3, h6, hP, hD, hS⟩
  obtain ⟨_, sv', rfl, ⟨x, rfl, hx1⟩, h4⟩ := z_st1 h2
  obtain ⟨_, sv'', rfl, ⟨y, rfl, hy⟩, h5⟩ := z_st1 h4
  obtain ⟨_, sv3, rfl, ⟨a, ha, rfl⟩, h7⟩ := z_st1 h5
  obtain ⟨a', e', hws, ha', f, rfl, hf⟩ := z_w_get h3 hw
  obtain rfl : a = a' := Option.some.inj (ha.symm.trans ha')
  obtain ⟨hi1, hi2, hi3⟩ := z_ix_ok hB hy hi
  refine va_bast hx hb hK hP hD hS r 2 hws ht hi1 hd (fun H1 locs1 hP1 hD1 hS1 => ?_)
  rw [hi2] at hP1 hD1
  have e9 := z_ad_set (xb := xb) (e := .inl (kc 2, es.length, .inl (upd f k (vp_nar .byte x)))) hws
  exact kk ls _ _ H1 locs1 ⟨by rw [e9]; exact h1, by rw [e9]; exact h7, z_w_set h3 hws ⟨_, by rw [List.length_set], z_es_set hf trivial⟩, by rw [e9]; exact h6, hP1, hD1, hS1⟩
theorem z_zast (hx : p.tables.exec = Jvm.exec) (hb : c.code = cc) {B : List (Int × Int)} (hB : z_B B env) {r k : Nat} {t : zI} {v : Int32} {es : List zI} (hK : va_K D cl tys s) (ht : tys[3]? = some (kc 3, .boolean)) (hd : decode cc pc = .ok (.bastore, 1)) (hv : vp_nar .boolean v = v) (hw : w[r]? = some (.inr (.inl (3, es)))) (hi : z_ix B t es.length = some k) (kk : z_G p l e R s m args below meth c Q xb env kc D cl A H0 ad0 nL (pc + 1) (zl, st, w.set r (.inr (.inl (3, es.set k (.inl (some v))))), nc, ns)) : z_G p l e R s m args below meth c Q xb env kc D cl A H0 ad0 nL pc (zl, .inl (.inl (some v)) :: .inl t :: .inr (.inl (some (r + 1))) :: st, w, nc, ns) := by
  intro ls sv ws H locs ⟨h1, h2, h3, h6, hP, hD, hS⟩
  obtain ⟨_, sv', rfl, ⟨x, rfl, hx1⟩, h4⟩ := z_st1 h2
  obtain ⟨_, sv'', rfl, ⟨y, rfl, hy⟩, h5⟩ := z_st1 h4
  obtain ⟨_, sv3, rfl, ⟨a, ha, rfl⟩, h7⟩ := z_st1 h5
  obtain ⟨a', e', hws, ha', f, rfl, hf⟩ := z_w_get h3 hw
  obtain rfl : a = a' := Option.some.inj (ha.symm.trans ha')
  obtain ⟨hi1, hi2, hi3⟩ := z_ix_ok hB hy hi
  obtain rfl : x = v := hx1
  refine va_zast hx hb hK hP hD hS r 3 hws ht hi1 hd (fun H1 locs1 hP1 hD1 hS1 => ?_)
  rw [hi2, hv] at hP1 hD1
  have e9 := z_ad_set (xb := xb) (e := .inl (kc 3, es.length, .inl (upd f k x))) hws
  exact kk ls _ _ H1 locs1 ⟨by rw [e9]; exact h1, by rw [e9]; exact h7, z_w_set h3 hws ⟨_, by rw [List.length_set], z_es_set hf rfl⟩, by rw [e9]; exact h6, hP1, hD1, hS1⟩
theorem z_lald (hx : p.tables.exec = Jvm.exec) (hb : c.code = cc) {B : List (Int × Int)} (hB : z_B B env) {r k n : Nat} {t : zI} (hK : va_K D cl tys s) (ht : tys[1]? = some (kc 1, .long)) (hd : decode cc pc = .ok (.laload, 1)) (hw : w[r]? = some (.inr (.inr (.inl n)))) (hi : z_ix B t n = some k) (kk : z_G p l e R s m args below meth c Q xb env kc D cl A H0 ad0 nL (pc + 1) (zl, .inr (.inr ()) :: st, w, nc, ns)) : z_G p l e R s m args below meth c Q xb env kc D cl A H0 ad0 nL pc (zl, .inl t :: .inr (.inl (some (r + 1))) :: st, w, nc, ns) := by
  intro ls sv ws H locs ⟨h1, h2, h3, h6, hP, hD, hS⟩
  obtain ⟨_, sv', rfl, ⟨y, rfl, hy⟩, h4⟩ := z_st1 h2
  obtain ⟨_, sv'', rfl, ⟨a, ha, rfl⟩, h5⟩ := z_st1 h4
  obtain ⟨a', e', hws, ha', f, rfl⟩ := z_w_get h3 hw
  obtain rfl : a = a' := Option.some.inj (ha.symm.trans ha')
  obtain ⟨hi1, hi2, hi3⟩ := z_ix_ok hB hy hi
  refine va_lald hx hb hK hP r 1 hws ht hi1 hd ?_
  exact kk ls _ ws H locs ⟨h1, ⟨⟨_, rfl⟩, h5⟩, h3, h6, hP, hD, hS⟩
theorem z_last (hx : p.tables.exec = Jvm.exec) (hb : c.code = cc) {B : List (Int × Int)} (hB : z_B B env) {r k n : Nat} {t : zI} (hK : va_K D cl tys s) (ht : tys[1]? = some (kc 1, .long)) (hd : decode cc pc = .ok (.lastore, 1)) (hw : w[r]? = some (.inr (.inr (.inl n)))) (hi : z_ix B t n = some k) (kk : z_G p l e R s m args below meth c Q xb env kc D cl A H0 ad0 nL (pc + 1) (zl, st, w, nc, ns)) : z_G p l e R s m args below meth c Q xb env kc D cl A H0 ad0 nL pc (zl, .inr (.inr ()) :: .inl t :: .inr (.inl (some (r + 1))) :: st, w, nc, ns) := by
  intro ls sv ws H locs ⟨h1, h2, h3, h6, hP, hD, hS⟩
  obtain ⟨_, sv', rfl, ⟨x, rfl⟩, h4⟩ := z_st1 h2
  obtain ⟨_, sv'', rfl, ⟨y, rfl, hy⟩, h5⟩ := z_st1 h4
  obtain ⟨_, sv3, rfl, ⟨a, ha, rfl⟩, h7⟩ := z_st1 h5
  obtain ⟨a', e', hws, ha', f, rfl⟩ := z_w_get h3 hw
  obtain rfl : a = a' := Option.some.inj (ha.symm.trans ha')
  obtain ⟨hi1, hi2, hi3⟩ := z_ix_ok hB hy hi
  refine va_last hx hb hK hP hD hS r 1 hws ht hi1 hd (fun H1 locs1 hP1 hD1 hS1 => ?_)
  have e9 := z_ad_set (xb := xb) (e := .inl (kc 1, n, .inr (.inl (vp_updL f y.toNatClampNeg x)))) hws
  have hw9 : z_w xb env kc w (ws.set r (a, .inl (kc 1, n, .inr (.inl (vp_updL f y.toNatClampNeg x))))) := by
    have h8 := z_w_set (c := .inr (.inr (.inl n))) h3 hws (e := .inl (kc 1, n, .inr (.inl (vp_updL f y.toNatClampNeg x)))) ⟨_, rfl⟩
    rwa [show w.set r (.inr (.inr (.inl n))) = w from List.ext_getElem? (fun i => by
      by_cases hi9 : r = i
      · subst hi9
        rw [List.getElem?_set_self (List.getElem?_eq_some_iff.mp hw).1, hw]
      · rw [List.getElem?_set_ne hi9])] at h8
  exact kk ls _ _ H1 locs1 ⟨by rw [e9]; exact h1, by rw [e9]; exact h7, hw9, by rw [e9]; exact h6, hP1, hD1, hS1⟩
theorem z_aald (hx : p.tables.exec = Jvm.exec) (hb : c.code = cc) {B : List (Int × Int)} (hB : z_B B env) {r k q kt : Nat} {t : zI} {es : List (Option Nat)} {C : String} (hK : va_K D cl tys s) (ht : tys[kt]? = some (kc kt, .object C)) (hd : decode cc pc = .ok (.aaload, 1)) (hw : w[r]? = some (.inr (.inr (.inr (kt, es))))) (hi : z_ix B t es.length = some k) (hv : es[k]? = some (some q)) (kk : z_G p l e R s m args below meth c Q xb env kc D cl A H0 ad0 nL (pc + 1) (zl, .inr (.inl (some q)) :: st, w, nc, ns)) : z_G p l e R s m args below meth c Q xb env kc D cl A H0 ad0 nL pc (zl, .inl t :: .inr (.inl (some (r + 1))) :: st, w, nc, ns) := by
  intro ls sv ws H locs ⟨h1, h2, h3, h6, hP, hD, hS⟩
  obtain ⟨_, sv', rfl, ⟨y, rfl, hy⟩, h4⟩ := z_st1 h2
  obtain ⟨_, sv'', rfl, ⟨a, ha, rfl⟩, h5⟩ := z_st1 h4
  obtain ⟨a', e', hws, ha', f, rfl, hf⟩ := z_w_get h3 hw
  obtain rfl : a = a' := Option.some.inj (ha.symm.trans ha')
  obtain ⟨hi1, hi2, hi3⟩ := z_ix_ok hB hy hi
  refine va_aldq hx hb hK hP r kt hws ht hi1 hd ?_
  obtain ⟨b, hb1, hb2⟩ := hf k (some q) hv
  rw [hi2, hb2]
  exact kk ls _ ws H locs ⟨h1, ⟨⟨b, hb1, rfl⟩, h5⟩, h3, h6, hP, hD, hS⟩
theorem z_aast (hx : p.tables.exec = Jvm.exec) (hb : c.code = cc) {B : List (Int × Int)} (hB : z_B B env) {r k q kt ci : Nat} {t : zI} {es : List (Option Nat)} {rr : vw_C} {fs : List zV} (hK : va_K D cl tys s) (ht : tys[kt]? = some (kc kt, .object rr.1)) (hc : cl[ci]? = some rr) (hd : decode cc pc = .ok (.aastore, 1)) (hw : w[r]? = some (.inr (.inr (.inr (kt, es))))) (hq : w[q]? = some (.inl (ci, fs))) (hi : z_ix B t es.length = some k) (kk : z_G p l e R s m args below meth c Q xb env kc D cl A H0 ad0 nL (pc + 1) (zl, st, w.set r (.inr (.inr (.inr (kt, es.set k (some (q + 1)))))), nc, ns)) : z_G p l e R s m args below meth c Q xb env kc D cl A H0 ad0 nL pc (zl, .inr (.inl (some (q + 1))) :: .inl t :: .inr (.inl (some (r + 1))) :: st, w, nc, ns) := by
  intro ls sv ws H locs ⟨h1, h2, h3, h6, hP, hD, hS⟩
  obtain ⟨_, sv', rfl, ⟨x, hx1, rfl⟩, h4⟩ := z_st1 h2
  obtain ⟨_, sv'', rfl, ⟨y, rfl, hy⟩, h5⟩ := z_st1 h4
  obtain ⟨_, sv3, rfl, ⟨a, ha, rfl⟩, h7⟩ := z_st1 h5
  obtain ⟨a', e', hws, ha', f, rfl, hf⟩ := z_w_get h3 hw
  obtain rfl : a = a' := Option.some.inj (ha.symm.trans ha')
  obtain ⟨x', e2, hwq, hx', vs, rfl, hvs⟩ := z_w_get h3 hq
  obtain rfl : x = x' := Option.some.inj (hx1.symm.trans hx')
  obtain ⟨hi1, hi2, hi3⟩ := z_ix_ok hB hy hi
  refine va_astq hx hb hK hP hD hS r kt q ci hws ht hwq hc hi1 hd (fun H1 locs1 hP1 hD1 hS1 => ?_)
  rw [hi2] at hP1 hD1
  have e9 := z_ad_set (xb := xb) (e := .inl (kc kt, es.length, .inr (.inr (.inr (.inr (va_up f k (some x))))))) hws
  have hf9 : ∀ (j : Nat) (z : Option Nat), (es.set k (some (q + 1)))[j]? = some z → z_o (z_ad xb ws) z (va_up f k (some x) j) := by
    intro j z hj
    by_cases hk : k = j
    · subst hk
      rw [List.getElem?_set_self hi3] at hj
      cases hj
      exact ⟨x, hx1, by simp [va_up]⟩
    · rw [List.getElem?_set_ne hk] at hj
      have h8 := hf j z hj
      rwa [show va_up f k (some x) j = f j by unfold va_up; rw [if_neg (fun q => hk q.symm)]]
  exact kk ls _ _ H1 locs1 ⟨by rw [e9]; exact h1, by rw [e9]; exact h7, z_w_set h3 hws ⟨_, by rw [List.length_set], hf9⟩, by rw [e9]; exact h6, hP1, hD1, hS1⟩
theorem z_alen (hx : p.tables.exec = Jvm.exec) (hb : c.code = cc) {r n : Nat} {es : List zI} (hK : va_K D cl tys s) (ht : tys[0]? = some (kc 0, .int)) (hd : decode cc pc = .ok (.arraylength, 1)) (hw : w[r]? = some (.inr (.inl (0, es)))) (kk : z_G p l e R s m args below meth c Q xb env kc D cl A H0 ad0 nL (pc + 1) (zl, .inl (.inl (some (Int32.ofNat es.length))) :: st, w, nc, ns)) : z_G p l e R s m args below meth c Q xb env kc D cl A H0 ad0 nL pc (zl, .inr (.inl (some (r + 1))) :: st, w, nc, ns) := by
  intro ls sv ws H locs ⟨h1, h2, h3, h6, hP, hD, hS⟩
  obtain ⟨_, sv', rfl, ⟨a, ha, rfl⟩, h4⟩ := z_st1 h2
  obtain ⟨a', e', hws, ha', f, rfl, hf⟩ := z_w_get h3 hw
  obtain rfl : a = a' := Option.some.inj (ha.symm.trans ha')
  refine va_alen hx hb hK hP r 0 hws ht rfl hd ?_
  exact kk ls _ ws H locs ⟨h1, ⟨⟨_, rfl, rfl⟩, h4⟩, h3, h6, hP, hD, hS⟩
end ZH
end
section
/-! ===== new cells, copies, switches ===== -/
def z_dv (v : zV) : Value := match v with
  | .inl (.inl (some c)) => .int c
  | .inr (.inr _) => .long 0
  | _ => .null
def z_dok (v : zV) : Bool := match v with
  | .inl (.inl (some _)) => true
  | .inr (.inr _) => true
  | .inr (.inl none) => true
  | _ => false
theorem z_dv_ok {env : Nat → Int32} {ad : Nat → Option Nat} : ∀ {v : zV}, z_dok v = true → z_v env ad v (z_dv v)
  | .inl (.inl (some c)), _ => ⟨c, rfl, rfl⟩
  | .inr (.inr _), _ => ⟨0, rfl⟩
  | .inr (.inl none), _ => rfl
  | .inl (.inl none), h => by cases h
  | .inl (.inr _), h => by cases h
  | .inr (.inl (some _)), h => by cases h
theorem z_dvs_ok {env : Nat → Int32} {ad : Nat → Option Nat} : ∀ {vs : List zV}, vs.all z_dok = true → z_L (z_v env ad) vs (vs.map z_dv)
  | [], _ => trivial
  | v :: vs, h => by
    rw [List.all_cons, Bool.and_eq_true] at h
    exact ⟨z_dv_ok h.1, z_dvs_ok h.2⟩
def z_tgt (pc : Nat) (off : Int) : Option Nat := if 0 ≤ (pc : Int) + off then some ((pc : Int) + off).toNat else none
theorem z_tgt_ok {pc tgt : Nat} {off : Int} (h : z_tgt pc off = some tgt) : (pc : Int) + off = (tgt : Int) := by
  unfold z_tgt at h
  split at h
  next h1 => have := Option.some.inj h; omega
  next => cases h
def z_sw (B : List (Int × Int)) (pc : Nat) (dflt lo hi : Int) (offs : Array Int) (t : zI) : Option Nat :=
  if (z_rng B t).2 < lo ∨ hi < (z_rng B t).1 then z_tgt pc dflt
  else if (z_rng B t).1 = (z_rng B t).2 ∧ lo ≤ (z_rng B t).1 ∧ (z_rng B t).1 ≤ hi then match offs[((z_rng B t).1 - lo).toNat]? with
    | some off => z_tgt pc off
    | none => none
  else none
theorem z_cats {env : Nat → Int32} {ad : Nat → Option Nat} : ∀ {st : List zV} {sv : List Value}, z_L (z_v env ad) st sv → (st.map z_cat).sum = (sv.map fun v => v.category).sum
  | [], [], _ => rfl
  | _ :: _, _ :: _, h => by
    rw [List.map_cons, List.map_cons, List.sum_cons, List.sum_cons, z_v_cat h.1, z_cats h.2]
  | [], _ :: _, h => h.elim
  | _ :: _, [], h => h.elim
section ZN
variable {p : Program} {l : Launch} {e : Env} {R : Room} {s : State} {m : MethodId} {args : Array Value} {below : List Frame} {meth : Method} {c : Code} {Q : State → Prop} {cc : ByteArray}
variable {xb : Nat} {env : Nat → Int32} {kc : Nat → ClassId} {D : va_G} {cl : List vw_C} {A : Nat → Prop} {H0 : Heap} {ad0 : Nat → Option Nat} {nL : Nat}
variable {zl : List (Nat × zV)} {st : List zV} {w : zW} {nc ns pc : Nat} {tys : List (ClassId × FieldType)}
theorem z_table (hx : p.tables.exec = Jvm.exec) (hb : c.code = cc) {B : List (Int × Int)} (hB : z_B B env) {dflt lo hi : Int} {offs : Array Int} {len tgt : Nat} {t : zI} (hd : decode cc pc = .ok (.tableswitch dflt lo hi offs, len)) (hs : z_sw B pc dflt lo hi offs t = some tgt) (kk : z_G p l e R s m args below meth c Q xb env kc D cl A H0 ad0 nL tgt (zl, st, w, nc, ns)) : z_G p l e R s m args below meth c Q xb env kc D cl A H0 ad0 nL pc (zl, .inl t :: st, w, nc, ns) := by
  intro ls sv ws H locs ⟨h1, h2, h3⟩
  obtain ⟨_, sv', rfl, ⟨x, rfl, hx1⟩, h4⟩ := z_st1 h2
  have kk := kk ls sv' ws H locs ⟨h1, h4, h3⟩
  have hr := z_rng_ok hB hx1
  unfold z_sw at hs
  split at hs
  next h5 => exact lv_tableOut hx hb hd (by omega) (z_tgt_ok hs) kk
  next =>
    split at hs
    next h6 =>
      have hxe : x.toInt = (z_rng B t).1 := by omega
      split at hs
      next off ho =>
        rw [← hxe] at ho
        exact lv_tableIn hx hb hd (by omega) (by omega) ho (z_tgt_ok hs) kk
      next => cases hs
    next => cases hs
theorem z_objInit (hx : p.tables.exec = Jvm.exec) (hb : c.code = cc) {own : String} {idx r : Nat} (hown : s.vm.findClass own = some m.cls) (hml : c.maxLocals = nL) (hlink : (Cond.methodLink own idx Lib.objectInit).before args s = true) (hinst : (Cond.instanceMethod Lib.objectInit).before args s = true) (hcode : (Cond.code Lib.objectInit ⟨#[0xb1]⟩ 1 none).before args s = true) (hd : decode cc pc = .ok (.invokespecial idx, 3)) (hfr : 1 ≤ R.frames) (hlo : 100 ≤ R.locals) (hst : (st.map z_cat).sum ≤ 8) (kk : z_G p l e R s m args below meth c Q xb env kc D cl A H0 ad0 nL (pc + 3) (zl, st, w, nc, ns)) : z_G p l e R s m args below meth c Q xb env kc D cl A H0 ad0 nL pc (zl, .inr (.inl (some r)) :: st, w, nc, ns) := by
  intro ls sv ws H locs ⟨h1, h2, h3⟩
  obtain ⟨_, sv', rfl, ⟨a, ha, rfl⟩, h4⟩ := z_st1 h2
  have hsum : (sv'.map fun v => v.category).sum ≤ 8 := by rw [← z_cats h4]; exact hst
  obtain ⟨lv, hl, hz⟩ := id h1
  refine W.objInit hx hb hown hlink hinst hcode rfl (by rw [hml]; exact hl.1) rfl hd hfr (by show 2 * 0 + _ + 12 ≤ _; omega) ?_
  exact kk ls sv' ws H locs ⟨h1, h4, h3⟩
theorem z_newo (hx : p.tables.exec = Jvm.exec) (hb : c.code = cc) {own C : String} {T : u_T} {N ci index : Nat} {Ts : List Cond} {df : List zV} {ty0 : Nat → FieldType} (hts : ∀ w ∈ Ts, w.before args s = true) (hin : ∀ w ∈ u_ws C T N, w ∈ Ts) (hty : ∀ k, k < N → parseFieldDescriptor (T k).2.2.1 = some (ty0 k)) (hown : s.vm.findClass own = some m.cls) (hcl : (Cond.classLink own index C) ∈ Ts) (hinst : (Cond.instantiable C N) ∈ Ts) (hini : (Cond.initialized C) ∈ Ts)
    (hK : va_K D cl tys s) (hA : ∀ q, H0.size ≤ q → A q) (hc : cl[ci]? = some (C, T, N)) (hdf : df.all z_dok = true) (hfs : ∀ j, j < N → defaultValue (ty0 j) = vp_V (df.map z_dv) j) (hcells : nc + 1 ≤ R.cells) (hslots : ns + N ≤ R.slots) (hd : decode cc pc = .ok (.new index, 3)) (kk : z_G p l e R s m args below meth c Q xb env kc D cl A H0 ad0 nL (pc + 3) (zl, .inr (.inl (some (w.length + 1))) :: st, w ++ [.inl (ci, df)], nc + 1, ns + N)) : z_G p l e R s m args below meth c Q xb env kc D cl A H0 ad0 nL pc (zl, st, w, nc, ns) := by
  intro ls sv ws H locs ⟨h1, h2, h3, h6, hP, hD, hS⟩
  refine va_new hx hb hts hin ty0 hty hown (hts _ hcl) (hts _ hinst) (hts _ hini) hK hP hD hS hA hc hfs hcells hslots hd (fun q H1 hP1 hD1 hS1 => ?_)
  have hm : ∀ i a, z_ad xb ws i = some a → z_ad xb (ws ++ [(q, .inr (ci, df.map z_dv))]) i = some a := fun i a h => z_ad_app h
  refine kk ls _ _ H1 locs ⟨z_l_mono hm h1, ⟨⟨q, ?_, rfl⟩, z_L_mono (z_v_mono hm) h2⟩, z_w_push h3 ⟨_, rfl, z_dvs_ok hdf⟩, fun i a h => hm i a (h6 i a h), hP1, hD1, hS1⟩
  rw [z_L_len h3]
  exact z_ad_new xb ws q _
theorem z_newi (hx : p.tables.exec = Jvm.exec) (hb : c.code = cc) {atype : ArrayType} {ty : FieldType} {kt n : Nat} {t : Int32} (harr : (Cond.arrayClass (newarray.typeOf atype)).before args s = true) (hty : newarray.typeOf atype = ty) (hk : tys[kt]? = some (kc kt, ty)) (hdv : defaultValue ty = .int 0) (hK : va_K D cl tys s) (hA : ∀ q, H0.size ≤ q → A q) (hn : ¬ t < 0) (hN : t.toNatClampNeg = n) (hby : n * componentBytes ty ≤ 536870912) (hcells : nc + 1 ≤ R.cells) (hslots : ns + n ≤ R.slots) (hd : decode cc pc = .ok (.newarray atype, 2)) (kk : z_G p l e R s m args below meth c Q xb env kc D cl A H0 ad0 nL (pc + 2) (zl, .inr (.inl (some (w.length + 1))) :: st, w ++ [.inr (.inl (kt, List.replicate n (.inl (some 0))))], nc + 1, ns + n)) : z_G p l e R s m args below meth c Q xb env kc D cl A H0 ad0 nL pc (zl, .inl (.inl (some t)) :: st, w, nc, ns) := by
  intro ls sv ws H locs ⟨h1, h2, h3, h6, hP, hD, hS⟩
  obtain ⟨_, sv', rfl, ⟨x, rfl, hx1⟩, h4⟩ := z_st1 h2
  obtain rfl : x = t := hx1
  refine va_newa hx hb harr hty hK hP hD hS hA (N' := n) (a0 := (n, .inl (fun _ => 0))) (fun cA => by show _ = _; rw [hdv]; rfl) hn hN hby hcells hslots hd (fun q cA H1 hK1 hP1 hD1 hS1 => ?_)
  obtain rfl : cA = kc kt := z_same hK1 hk
  have hm : ∀ i a, z_ad xb ws i = some a → z_ad xb (ws ++ [(q, .inl (kc kt, (n, .inl (fun _ => 0))))]) i = some a := fun i a h => z_ad_app h
  refine kk ls _ _ H1 locs ⟨z_l_mono hm h1, ⟨⟨q, ?_, rfl⟩, z_L_mono (z_v_mono hm) h4⟩, z_w_push h3 ⟨fun _ => 0, by rw [List.length_replicate], fun j y hj => ?_⟩, fun i a h => hm i a (h6 i a h), hP1, hD1, hS1⟩
  · rw [z_L_len h3]
    exact z_ad_new xb ws q _
  · have := List.eq_of_mem_replicate (List.mem_of_getElem? hj)
    subst this
    rfl
theorem z_newl (hx : p.tables.exec = Jvm.exec) (hb : c.code = cc) {n : Nat} {t : Int32} (harr : (Cond.arrayClass .long).before args s = true) (hk : tys[1]? = some (kc 1, .long)) (hK : va_K D cl tys s) (hA : ∀ q, H0.size ≤ q → A q) (hn : ¬ t < 0) (hN : t.toNatClampNeg = n) (hby : n * componentBytes .long ≤ 536870912) (hcells : nc + 1 ≤ R.cells) (hslots : ns + n ≤ R.slots) (hd : decode cc pc = .ok (.newarray .long, 2)) (kk : z_G p l e R s m args below meth c Q xb env kc D cl A H0 ad0 nL (pc + 2) (zl, .inr (.inl (some (w.length + 1))) :: st, w ++ [.inr (.inr (.inl n))], nc + 1, ns + n)) : z_G p l e R s m args below meth c Q xb env kc D cl A H0 ad0 nL pc (zl, .inl (.inl (some t)) :: st, w, nc, ns) := by
  intro ls sv ws H locs ⟨h1, h2, h3, h6, hP, hD, hS⟩
  obtain ⟨_, sv', rfl, ⟨x, rfl, hx1⟩, h4⟩ := z_st1 h2
  obtain rfl : x = t := hx1
  refine va_newa hx hb (atype := .long) harr rfl hK hP hD hS hA (N' := n) (a0 := (n, .inr (.inl (fun _ => 0)))) (fun cA => rfl) hn hN hby hcells hslots hd (fun q cA H1 hK1 hP1 hD1 hS1 => ?_)
  obtain rfl : cA = kc 1 := z_same hK1 hk
  have hm : ∀ i a, z_ad xb ws i = some a → z_ad xb (ws ++ [(q, .inl (kc 1, (n, .inr (.inl (fun _ => 0)))))]) i = some a := fun i a h => z_ad_app h
  refine kk ls _ _ H1 locs ⟨z_l_mono hm h1, ⟨⟨q, ?_, rfl⟩, z_L_mono (z_v_mono hm) h4⟩, z_w_push h3 ⟨fun _ => 0, rfl⟩, fun i a h => hm i a (h6 i a h), hP1, hD1, hS1⟩
  rw [z_L_len h3]
  exact z_ad_new xb ws q _
theorem z_newr (hx : p.tables.exec = Jvm.exec) (hb : c.code = cc) {own C : String} {index kt n : Nat} {t : Int32} (hown : s.vm.findClass own = some m.cls) (hclink : (Cond.classLink own index C).before args s = true) (hover : va_AO C s) (hk : tys[kt]? = some (kc kt, .object C)) (hK : va_K D cl tys s) (hA : ∀ q, H0.size ≤ q → A q) (hn : ¬ t < 0) (hN : t.toNatClampNeg = n) (hby : n * 4 ≤ 536870912) (hcells : nc + 1 ≤ R.cells) (hslots : ns + n ≤ R.slots) (hd : decode cc pc = .ok (.anewarray index, 3)) (kk : z_G p l e R s m args below meth c Q xb env kc D cl A H0 ad0 nL (pc + 3) (zl, .inr (.inl (some (w.length + 1))) :: st, w ++ [.inr (.inr (.inr (kt, List.replicate n none)))], nc + 1, ns + n)) : z_G p l e R s m args below meth c Q xb env kc D cl A H0 ad0 nL pc (zl, .inl (.inl (some t)) :: st, w, nc, ns) := by
  intro ls sv ws H locs ⟨h1, h2, h3, h6, hP, hD, hS⟩
  obtain ⟨_, sv', rfl, ⟨x, rfl, hx1⟩, h4⟩ := z_st1 h2
  obtain rfl : x = t := hx1
  refine va_newq hx hb hown hclink hover hK hP hD hS hA (N' := n) hn hN hby hcells hslots hd (fun q cA H1 hK1 hP1 hD1 hS1 => ?_)
  obtain rfl : cA = kc kt := z_same hK1 hk
  have hm : ∀ i a, z_ad xb ws i = some a → z_ad xb (ws ++ [(q, .inl (kc kt, n, .inr (.inr (.inr (.inr (fun _ => none))))))]) i = some a := fun i a h => z_ad_app h
  refine kk ls _ _ H1 locs ⟨z_l_mono hm h1, ⟨⟨q, ?_, rfl⟩, z_L_mono (z_v_mono hm) h4⟩, z_w_push h3 ⟨fun _ => none, by rw [List.length_replicate], fun j y hj => ?_⟩, fun i a h => hm i a (h6 i a h), hP1, hD1, hS1⟩
  · rw [z_L_len h3]
    exact z_ad_new xb ws q _
  · have := List.eq_of_mem_replicate (List.mem_of_getElem? hj)
    subst this
    rfl
theorem z_copyi (hx : p.tables.exec = Jvm.exec) (hb : c.code = cc) {own : String} {index r0 r1 : Nat} {es0 es1 : List zI} {n : Int32} (hown : s.vm.findClass own = some m.cls) (hml : c.maxLocals = nL) (hlink : (Cond.methodLink own index arraycopyName).before args s = true) (hnat : (Cond.native arraycopyName).before args s = true) (hstat : (Cond.static arraycopyName).before args s = true) (hini : (Cond.initialized "java/lang/System").before args s = true) (hK : va_K D cl tys s) (ht : tys[0]? = some (kc 0, .int))
    (hw0 : w[r0]? = some (.inr (.inl (0, es0)))) (hw1 : w[r1]? = some (.inr (.inl (0, es1)))) (hl : es0.length = es1.length) (hn : ¬ n < 0) (hN : n.toNatClampNeg = es0.length) (hfr : 1 ≤ R.frames) (hlo : 100 ≤ R.locals) (hst : (st.map z_cat).sum ≤ 8) (hd : decode cc pc = .ok (.invokestatic index, 3)) (kk : z_G p l e R s m args below meth c Q xb env kc D cl A H0 ad0 nL (pc + 3) (zl, st, w.set r1 (.inr (.inl (0, es0))), nc, ns)) : z_G p l e R s m args below meth c Q xb env kc D cl A H0 ad0 nL pc (zl, .inl (.inl (some n)) :: .inl (.inl (some 0)) :: .inr (.inl (some (r1 + 1))) :: .inl (.inl (some 0)) :: .inr (.inl (some (r0 + 1))) :: st, w, nc, ns) := by
  intro ls sv ws H locs ⟨h1, h2, h3, h6, hP, hD, hS⟩
  obtain ⟨_, sv1, rfl, ⟨x1, rfl, e1⟩, g1⟩ := z_st1 h2
  obtain ⟨_, sv2, rfl, ⟨x2, rfl, e2⟩, g2⟩ := z_st1 g1
  obtain ⟨_, sv3, rfl, ⟨a1, ha1, rfl⟩, g3⟩ := z_st1 g2
  obtain ⟨_, sv4, rfl, ⟨x4, rfl, e4⟩, g4⟩ := z_st1 g3
  obtain ⟨_, sv5, rfl, ⟨a0, ha0, rfl⟩, h5⟩ := z_st1 g4
  obtain rfl : x1 = n := e1
  obtain rfl : x2 = 0 := e2
  obtain rfl : x4 = 0 := e4
  obtain ⟨b0, _, hws0, hb0, f, rfl, hf⟩ := z_w_get h3 hw0
  obtain rfl : a0 = b0 := Option.some.inj (ha0.symm.trans hb0)
  obtain ⟨b1, _, hws1, hb1, g, rfl, hg⟩ := z_w_get h3 hw1
  obtain rfl : a1 = b1 := Option.some.inj (ha1.symm.trans hb1)
  have hsum : (sv5.map fun v => v.category).sum ≤ 8 := by rw [← z_cats h5]; exact hst
  obtain ⟨lv, hlv, hz⟩ := id h1
  have z0 : (0 : Int32).toNatClampNeg = 0 := by decide
  refine va_copyi hx hb (by rw [hml]; exact hlv.1.symm) hown hlink hnat hstat hini hK hP hD hS r0 r1 0 0 hws0 hws1 ht ht rfl (by decide) (by decide) hn (by rw [z0, hN]; omega) (by rw [z0, hN]; omega) (fun _ _ => rfl) hfr (Nat.le_trans (Nat.add_le_add_right hsum _) (Nat.le_trans (by decide) hlo)) hd (fun H1 locs1 hP1 hD1 hS1 => ?_)
  rw [z0, hN] at hP1 hD1
  have e9 := z_ad_set (xb := xb) (e := .inl (kc 0, es1.length, .inl (va_cpy f g 0 0 es0.length))) hws1
  refine kk ls _ _ H1 locs1 ⟨by rw [e9]; exact h1, by rw [e9]; exact h5, z_w_set h3 hws1 ⟨_, by rw [hl], fun j y hj => ?_⟩, by rw [e9]; exact h6, hP1, hD1, hS1⟩
  have hj2 : j < es0.length := (List.getElem?_eq_some_iff.mp hj).1
  rw [pk_cpy_in (Nat.zero_le j) (by omega), Nat.zero_add, Nat.sub_zero]
  exact hf j y hj
theorem z_copyl (hx : p.tables.exec = Jvm.exec) (hb : c.code = cc) {own : String} {index r0 r1 n0 n1 : Nat} {n : Int32} (hown : s.vm.findClass own = some m.cls) (hml : c.maxLocals = nL) (hlink : (Cond.methodLink own index arraycopyName).before args s = true) (hnat : (Cond.native arraycopyName).before args s = true) (hstat : (Cond.static arraycopyName).before args s = true) (hini : (Cond.initialized "java/lang/System").before args s = true) (hK : va_K D cl tys s) (ht : tys[1]? = some (kc 1, .long))
    (hw0 : w[r0]? = some (.inr (.inr (.inl n0)))) (hw1 : w[r1]? = some (.inr (.inr (.inl n1)))) (hn : ¬ n < 0) (hN : n.toNatClampNeg ≤ n0) (hN1 : n.toNatClampNeg ≤ n1) (hfr : 1 ≤ R.frames) (hlo : 100 ≤ R.locals) (hst : (st.map z_cat).sum ≤ 8) (hd : decode cc pc = .ok (.invokestatic index, 3)) (kk : z_G p l e R s m args below meth c Q xb env kc D cl A H0 ad0 nL (pc + 3) (zl, st, w.set r1 (.inr (.inr (.inl n1))), nc, ns)) : z_G p l e R s m args below meth c Q xb env kc D cl A H0 ad0 nL pc (zl, .inl (.inl (some n)) :: .inl (.inl (some 0)) :: .inr (.inl (some (r1 + 1))) :: .inl (.inl (some 0)) :: .inr (.inl (some (r0 + 1))) :: st, w, nc, ns) := by
  intro ls sv ws H locs ⟨h1, h2, h3, h6, hP, hD, hS⟩
  obtain ⟨_, sv1, rfl, ⟨x1, rfl, e1⟩, g1⟩ := z_st1 h2
  obtain ⟨_, sv2, rfl, ⟨x2, rfl, e2⟩, g2⟩ := z_st1 g1
  obtain ⟨_, sv3, rfl, ⟨a1, ha1, rfl⟩, g3⟩ := z_st1 g2
  obtain ⟨_, sv4, rfl, ⟨x4, rfl, e4⟩, g4⟩ := z_st1 g3
  obtain ⟨_, sv5, rfl, ⟨a0, ha0, rfl⟩, h5⟩ := z_st1 g4
  obtain rfl : x1 = n := e1
  obtain rfl : x2 = 0 := e2
  obtain rfl : x4 = 0 := e4
  obtain ⟨b0, _, hws0, hb0, f, rfl⟩ := z_w_get h3 hw0
  obtain rfl : a0 = b0 := Option.some.inj (ha0.symm.trans hb0)
  obtain ⟨b1, _, hws1, hb1, g, rfl⟩ := z_w_get h3 hw1
  obtain rfl : a1 = b1 := Option.some.inj (ha1.symm.trans hb1)
  have hsum : (sv5.map fun v => v.category).sum ≤ 8 := by rw [← z_cats h5]; exact hst
  obtain ⟨lv, hlv, hz⟩ := id h1
  have z0 : (0 : Int32).toNatClampNeg = 0 := by decide
  refine va_copyl hx hb (by rw [hml]; exact hlv.1.symm) hown hlink hnat hstat hini hK hP hD hS r0 r1 1 1 hws0 hws1 ht ht rfl (by decide) (by decide) hn (by rw [z0]; omega) (by rw [z0]; omega) (fun _ _ => rfl) hfr (Nat.le_trans (Nat.add_le_add_right hsum _) (Nat.le_trans (by decide) hlo)) hd (fun H1 locs1 hP1 hD1 hS1 => ?_)
  have e9 := z_ad_set (xb := xb) (e := .inl (kc 1, n1, .inr (.inl (va_cpy f g (0 : Int32).toNatClampNeg (0 : Int32).toNatClampNeg x1.toNatClampNeg)))) hws1
  exact kk ls _ _ H1 locs1 ⟨by rw [e9]; exact h1, by rw [e9]; exact h5, z_w_set h3 hws1 ⟨_, rfl⟩, by rw [e9]; exact h6, hP1, hD1, hS1⟩
theorem z_mmin (hx : p.tables.exec = Jvm.exec) (hb : c.code = cc) {B : List (Int × Int)} (hB : z_B B env) {own : String} {index : Nat} {x y : zI} {b : Bool} (hown : s.vm.findClass own = some m.cls) (hml : c.maxLocals = nL) (hlink : (Cond.methodLink own index Lib.Math.min.name).before args s = true) (hstat : (Cond.static Lib.Math.min.name).before args s = true) (hini : (Cond.initialized "java/lang/Math").before args s = true) (hcode : (Cond.code Lib.Math.min.name Lib.Math.min.code 2 (some .int)).before args s = true) (hfr : 1 ≤ R.frames) (hlo : 100 ≤ R.locals) (hc : nc ≤ R.cells) (hs : ns ≤ R.slots) (hst : (st.map z_cat).sum ≤ 8) (hlt : z_lt B y x = some b) (hd : decode cc pc = .ok (.invokestatic index, 3)) (kk : z_G p l e R s m args below meth c Q xb env kc D cl A H0 ad0 nL (pc + 3) (zl, .inl (if b then y else x) :: st, w, nc, ns)) : z_G p l e R s m args below meth c Q xb env kc D cl A H0 ad0 nL pc (zl, .inl y :: .inl x :: st, w, nc, ns) := by
  intro ls sv ws H locs ⟨h1, h2, h3⟩
  obtain ⟨_, sv', rfl, ⟨v, rfl, hv⟩, h4⟩ := z_st1 h2
  obtain ⟨_, sv'', rfl, ⟨u, rfl, hu⟩, h5⟩ := z_st1 h4
  have hsum : (sv''.map fun v => v.category).sum ≤ 8 := by rw [← z_cats h5]; exact hst
  obtain ⟨lv, hlv, hz⟩ := id h1
  refine va_mmin hx hb (by rw [hml]; exact hlv.1.symm) hown hlink hstat hini hcode hfr (by omega) hc hs hd ?_
  refine kk ls _ ws H locs ⟨h1, ⟨⟨_, rfl, ?_⟩, h5⟩, h3⟩
  have he := z_lt_ok hB hv hu hlt
  cases b with
  | true => rw [if_pos (he.mpr rfl)]; exact hv
  | false => rw [if_neg (show ¬ v < u from fun q => by have := he.mp q; cases this)]; exact hu
end ZN
end
section
/-! ===== calls ===== -/
theorem z_L_un {α β : Type} {R : α → β → Prop} : ∀ {as cs : List α} {bs : List β}, z_L R (as ++ cs) bs → ∃ x y, bs = x ++ y ∧ z_L R as x ∧ z_L R cs y
  | [], _, bs, h => ⟨[], bs, rfl, trivial, h⟩
  | a :: as, cs, [], h => h.elim
  | a :: as, cs, b :: bs, h => by
    obtain ⟨x, y, rfl, h1, h2⟩ := z_L_un (as := as) h.2
    exact ⟨b :: x, y, rfl, ⟨h.1, h1⟩, h2⟩
theorem z_L_rev {α β : Type} {R : α → β → Prop} : ∀ {as : List α} {bs : List β}, z_L R as bs → z_L R as.reverse bs.reverse
  | [], [], _ => trivial
  | a :: as, b :: bs, h => by
    rw [List.reverse_cons, List.reverse_cons]
    exact z_L_app (z_L_rev h.2) ⟨h.1, trivial⟩
  | [], _ :: _, h => h.elim
  | _ :: _, [], h => h.elim
/-- what the machine's tables say beside the words -/
def z_N (NT : List (String × Nat × MethodName × String)) (U : State) : Prop := (∀ q ∈ NT, va_Nw (.methodLinkNest q.1 q.2.1 q.2.2.1 q.2.2.2) U) ∧ va_AO "HeldCoats$State" U ∧ va_AO "HeldCoats$Image" U
theorem z_N_moved {NT : List (String × Nat × MethodName × String)} {s U : State} (hW : s.WarmedH U.vm) (h : z_N NT s) : z_N NT U := ⟨fun q hq => va_Nw.warmM hW (h.1 q hq), va_AO.moved hW.alike h.2.1, va_AO.moved hW.alike h.2.2⟩
/-- what lies outside the world and is only read: it stays -/
def z_EX (EX : (Nat → Prop) → State → Heap → Prop) : Prop := (∀ (A : Nat → Prop) (u U : State) (H : Heap), u.WarmedH U.vm → EX A u H → EX A U H) ∧ (∀ (A : Nat → Prop) (U : State) (H H1 : Heap), (∀ q : Nat, q < H.size → ¬ A q → H1[q]? = H[q]?) → EX A U H → EX A U H1) ∧ ∀ (A B : Nat → Prop) (U : State) (H : Heap), (∀ q, B q → A q) → EX A U H → EX B U H
def z_pre (EX : (Nat → Prop) → State → Heap → Prop) (NT : List (String × Nat × MethodName × String)) (D : va_G) (cl : List vw_C) (kc : Nat → ClassId) (ws0 : va_W) (sz : Nat) (U : State) : Prop := U.heap.size = sz ∧ va_P D cl ws0 U.heap ∧ va_K D cl (z_TY kc) U ∧ va_D (fun _ => True) ws0 ∧ z_N NT U ∧ EX (va_A ws0 sz) U U.heap
def z_post (D : va_G) (cl : List vw_C) (ws0 : va_W) (sz : Nat) (u : va_W) (t : State) : Prop := va_P D cl u t.heap ∧ va_D (va_A ws0 sz) u
def z_ok (xb : Nat) (env : Nat → Int32) (kc : Nat → ClassId) (ws0 : va_W) (w' : zW) (u : va_W) : Prop := z_w xb env kc w' u ∧ ∀ i a, z_ad xb ws0 i = some a → z_ad xb u i = some a
def z_Qc (xb : Nat) (env : Nat → Int32) (kc : Nat → ClassId) (D : va_G) (cl : List vw_C) (ws0 : va_W) (sz : Nat) (w' : zW) (rz : Option zV) : Array Value → State → Outcome → State → Prop := match rz with
  | none => va_Qv (fun u : va_W => z_ok xb env kc ws0 w' u) (z_post D cl ws0 sz) (va_A ws0 sz)
  | some (.inl t) => va_Qi (fun (r : Int32) (u : va_W) => z_i env t r ∧ z_ok xb env kc ws0 w' u) (z_post D cl ws0 sz) (va_A ws0 sz)
  | some (.inr (.inl (some i))) => va_Qr (fun u : va_W => z_ok xb env kc ws0 w' u) (fun u a t => z_ad xb u i = some a ∧ z_post D cl ws0 sz u t) (va_A ws0 sz)
  | _ => fun _ _ _ _ => False
def z_Met (EX : (Nat → Prop) → State → Heap → Prop) (l : Launch) (TB : List Cond) (NT : List (String × Nat × MethodName × String)) (kc : Nat → ClassId) (D : va_G) (cl : List vw_C) (xb : Nat) (env : Nat → Int32) (y : MethodName) (cc : ByteArray) (maxL : Nat) (ret : Option FieldType) (rm : Room) (za : List zV) (w : zW) (rz : Option zV) (w' : zW) (mc ms : Nat) : Prop :=
  ∀ (av : List Value) (ws0 : va_W) (sz : Nat), z_L (z_v env (z_ad xb ws0)) za av → z_w xb env kc w ws0 → Met l y (.code y cc maxL ret :: TB) rm (va_Pc av (z_pre EX NT D cl kc ws0 sz)) (z_Qc xb env kc D cl ws0 sz w' rz) mc ms (va_A ws0 sz)
theorem z_blind {EX : (Nat → Prop) → State → Heap → Prop} (hE : z_EX EX) {NT : List (String × Nat × MethodName × String)} {D : va_G} {cl : List vw_C} {kc : Nat → ClassId} {ws0 : va_W} {sz : Nat} {av : List Value} : FrameBlind (va_Pc av (z_pre EX NT D cl kc ws0 sz)) := fun a U g mk q => by
  obtain ⟨q0, q1, qP, qK, qD, qN, qE⟩ := q
  exact ⟨q0, q1, qP, va_K.moved (u := U) (U := U.calling g mk a) (Vm.Alike.refl U.vm) qK, qD, ⟨fun x hx => va_Nw.same rfl rfl (qN.1 x hx), va_AO.moved (u := U) (U := U.calling g mk a) (Vm.Alike.refl U.vm) qN.2.1, va_AO.moved (u := U) (U := U.calling g mk a) (Vm.Alike.refl U.vm) qN.2.2⟩, hE.1 _ U (U.calling g mk a) _ (State.WarmedH.refl U) qE⟩
section ZC
variable {p : Program} {l : Launch} {e : Env} {R : Room} {s : State} {m : MethodId} {args : Array Value} {below : List Frame} {meth : Method} {c : Code} {Q : State → Prop} {cc : ByteArray}
variable {xb : Nat} {env : Nat → Int32} {kc : Nat → ClassId} {D : va_G} {cl : List vw_C} {A : Nat → Prop} {H0 : Heap} {ad0 : Nat → Option Nat} {nL : Nat}
variable {zl : List (Nat × zV)} {st : List zV} {w : zW} {nc ns pc : Nat} {NT : List (String × Nat × MethodName × String)} {TB : List Cond} {EX : (Nat → Prop) → State → Heap → Prop}
theorem z_exin (hE : z_EX EX) (hE0 : EX A s s.heap) (hA : ∀ q, s.heap.size ≤ q → A q) {ws : va_W} {H : Heap} {locs : List Loc} (hD : va_D A ws) (hS : va_S A s.heap H locs) {U : State} (hU : U.heap = H) (hW : s.WarmedH U.vm) : EX (va_A ws H.size) U U.heap := by
  rw [hU]
  refine hE.1 _ s U _ hW (hE.2.2 A _ s H (fun q hq => ?_) (hE.2.1 A s s.heap H hS.2.1 hE0))
  rcases hq with ⟨k, e1, hk⟩ | hq
  · exact hD.2 k (q, e1) hk
  · exact hA q (Nat.le_trans hS.1 hq)
theorem z_after {rz : Option zV} {w' : zW} {mc ms : Nat} {rest : List zV} {ls : Array Slot} {st0 svr : List Value} {ws : va_W} {H : Heap} {locs : List Loc} {a : Array Value} (hr : va_Run p l e R s m args below meth c H locs nc ns mc ms (F0 m pc ls st0) svr (z_Qc xb env kc D cl ws H.size w' rz a) (va_A ws H.size)) (hA : ∀ q, H0.size ≤ q → A q) (h1 : z_l env (z_ad xb ws) nL zl ls) (h2 : z_L (z_v env (z_ad xb ws)) rest svr) (h6 : ∀ i a, ad0 i = some a → z_ad xb ws i = some a) (hP : va_P D cl ws H) (hD : va_D A ws) (hS : va_S A H0 H locs) (kk : z_G p l e R s m args below meth c Q xb env kc D cl A H0 ad0 nL (pc + 3) (zl, rz.toList ++ rest, w', nc + mc, ns + ms)) : W p l e R s m args below meth c H locs nc ns Q (F0 m pc ls st0) := by
  have hAA : ∀ q, va_A ws H.size q → A q := by
    intro q hq
    rcases hq with ⟨k, e1, hk⟩ | hq
    · exact hD.2 k (q, e1) hk
    · exact hA q (Nat.le_trans hS.1 hq)
  have hgo : ∀ (u : va_W) (H1 : Heap) (locs1 : List Loc) (sr : List Value), z_ok xb env kc ws w' u → va_P D cl u H1 → va_D (va_A ws H.size) u → va_S A H0 H1 locs1 → z_L (z_v env (z_ad xb u)) rz.toList sr → W p l e R s m args below meth c H1 locs1 (nc + mc) (ns + ms) Q (F0 m (pc + 3) ls (sr ++ svr)) := by
    intro u H1 locs1 sr hu hP1 hD1 hS1 hsr
    exact kk ls _ u H1 locs1 ⟨z_l_mono hu.2 h1, z_L_app hsr (z_L_mono (z_v_mono hu.2) h2), hu.1, fun i b hi => hu.2 i b (h6 i b hi), hP1, hD1.weaken (fun _ _ _ h => hAA _ h), hS1⟩
  match rz, hr, hgo with
  | none, hr, hgo =>
    refine va_callv (a := a) hr hS (fun q _ h => hAA q h) hAA (fun u t H1 locs1 ht hvm hw hB hz1 hk1 hS1 => ?_)
    exact hgo u H1 locs1 [] hw (by rw [← ht]; exact hB.1) hB.2 hS1 trivial
  | some (.inl t0), hr, hgo =>
    refine va_calli (a := a) hr hS (fun q _ h => hAA q h) hAA (fun r u t H1 locs1 ht hvm hw hB hz1 hk1 hS1 => ?_)
    exact hgo u H1 locs1 [.int r] hw.2 (by rw [← ht]; exact hB.1) hB.2 hS1 ⟨⟨r, rfl, hw.1⟩, trivial⟩
  | some (.inr (.inl (some i))), hr, hgo =>
    refine va_callr (a := a) hr hS (fun q _ h => hAA q h) hAA (fun u ra t H1 locs1 ht hvm hw hB hz1 hk1 hS1 => ?_)
    exact hgo u H1 locs1 [.ref ra] hw (by rw [← ht]; exact hB.2.1) hB.2.2 hS1 ⟨⟨ra, hB.1, rfl⟩, trivial⟩
  | some (.inr (.inl none)), hr, _ =>
    intro T hT X
    obtain ⟨v, st₀, t, T', L, _, _, _, _, _, hq, _⟩ := hr T hT X
    exact hq.elim
  | some (.inr (.inr _)), hr, _ =>
    intro T hT X
    obtain ⟨v, st₀, t, T', L, _, _, _, _, _, hq, _⟩ := hr T hT X
    exact hq.elim
theorem z_good {y : MethodName} {cy : ByteArray} {maxL : Nat} {ret : Option FieldType} (hg : ∀ w ∈ TB, goodWord w = true) (hc : Cond.code y cy maxL ret ∈ TB) : GoodIn TB (Cond.code y cy maxL ret :: TB) := by
  intro w hw
  rcases List.mem_cons.mp hw with rfl | hw
  · exact ⟨hc, good_of_word (hg _ hc)⟩
  · exact ⟨hw, good_of_word (hg _ hw)⟩
/-- what is said of a method that is called -/
def z_Y (TB : List Cond) (y : MethodName) (cy : ByteArray) (maxL n : Nat) (ret : Option FieldType) : Prop :=
  Cond.code y cy maxL ret ∈ TB ∧ Cond.initialized y.cls ∈ TB ∧ (y.cls ≠ "java/lang/invoke/MethodHandle" ∧ y.cls ≠ "java/lang/invoke/VarHandle" ∧ (parseMethodDescriptor y.desc).map (fun d => d.parameters.length) = some n)
theorem z_callV (hx : p.tables.exec = Jvm.exec) (hb : c.code = cc) {own : String} {index maxL n r ci : Nat} {y : MethodName} {cy : ByteArray} {ret : Option FieldType} {rm : Room} {za : List zV} {rest : List zV} {rz : Option zV} {w' : zW} {mc ms : Nat} {T : u_T} {N : Nat} {fs : List zV} (hg : ∀ w ∈ TB, goodWord w = true) (hts : ∀ w ∈ TB, w.before args s = true) (hown : s.vm.findClass own = some m.cls) (hml : c.maxLocals = nL) (hK : va_K D cl (z_TY kc) s) (hN : z_N NT s) (hA : ∀ q, s.heap.size ≤ q → A q) (hE : z_EX EX) (hE0 : EX A s s.heap) (hH0 : H0 = s.heap)
    (hy : z_Y TB y cy maxL n ret) (hl : Cond.methodLink own index y ∈ TB ∨ ∃ host, (own, index, y, host) ∈ NT) (hin : Cond.instanceMethod y ∈ TB) (hsel : Cond.selects y.cls y y ∈ TB) (hcl : cl[ci]? = some (y.cls, T, N)) (hw : w[r]? = some (.inl (ci, fs))) (hM : z_Met EX l TB NT kc D cl xb env y cy maxL ret rm (.inr (.inl (some (r + 1))) :: za) w rz w' mc ms) (hrc : rm.cells = mc) (hrs : rm.slots = ms) (hR : rm.frames + 1 ≤ R.frames ∧ 8 + (maxL + 11) + rm.locals ≤ R.locals) (hn : za.length = n) (hst : (rest.map z_cat).sum ≤ 8) (hd : decode cc pc = .ok (.invokevirtual index, 3)) (hf : nc + mc ≤ R.cells ∧ ns + ms ≤ R.slots) (kk : z_G p l e R s m args below meth c Q xb env kc D cl A H0 ad0 nL (pc + 3) (zl, rz.toList ++ rest, w', nc + mc, ns + ms)) : z_G p l e R s m args below meth c Q xb env kc D cl A H0 ad0 nL pc (zl, za.reverse ++ .inr (.inl (some (r + 1))) :: rest, w, nc, ns) := by
  subst hH0
  intro ls sv ws H locs ⟨h1, h2, h3, h6, hP, hD, hS⟩
  obtain ⟨sa, sb, rfl, ha, hb2⟩ := z_L_un h2
  obtain ⟨_, svr, rfl, ⟨b, hb1, rfl⟩, h5⟩ := z_st1 hb2
  have ha2 : z_L (z_v env (z_ad xb ws)) za sa.reverse := by rw [← List.reverse_reverse za]; exact z_L_rev ha
  obtain ⟨b', _, hws, hb', vs, rfl, hvs⟩ := z_w_get h3 hw
  obtain rfl : b = b' := Option.some.inj (hb1.symm.trans hb')
  have hsum : (svr.map fun v => v.category).sum ≤ 8 := by rw [← z_cats h5]; exact hst
  obtain ⟨lv, hlv, hz⟩ := id h1
  have hM' := hM (.ref b :: sa.reverse) ws H.size ⟨⟨b, hb1, rfl⟩, ha2⟩ h3
  have hp : PreV s H y.cls b (va_Pc (.ref b :: sa.reverse) (z_pre EX NT D cl kc ws H.size)) sa.reverse := ⟨z_blind hE, va_recv (q := (y.cls, T, N)) hK hP hcl hws, fun U hU hW => ⟨rfl, by rw [hU], by rw [hU]; exact hP, va_K.moved hW.alike hK, hD.weaken (fun _ _ _ _ => trivial), z_N_moved hW hN, z_exin hE hE0 hA hD hS hU hW⟩⟩
  have hlen : sa.reverse.length = n := by rw [← z_L_len ha2]; exact hn
  have hstk : (F0 m pc ls (sa ++ Value.ref b :: svr)).stack = sa.reverse.reverse ++ .ref b :: svr := by rw [List.reverse_reverse]
  have hrun : va_Run p l e R s m args below meth c H locs nc ns mc ms (F0 m pc ls (sa ++ Value.ref b :: svr)) svr (z_Qc xb env kc D cl ws H.size w' rz (Value.ref b :: sa.reverse).toArray) (va_A ws H.size) := by
    rcases hl with hl | ⟨host, hl⟩
    · exact va_runV ⟨hx, hb, hml, hown, hts⟩ hM' ⟨callB_of n hts (z_good hg hy.1) rfl hrc hrs (hts _ hy.2.1) (hts _ hl) hy.2.2 hR, hts _ hin, hts _ hsel⟩ hp rfl hlen hlv.1 hstk (lv_room hsum) hd hf
    · exact va_runVN ⟨hx, hb, hml, hown, hts⟩ hM' ⟨va_cnB n hts (z_good hg hy.1) rfl hrc hrs (hN.1 _ hl) (hts _ hy.2.1) hy.2.2 hR, hts _ hin, hts _ hsel⟩ hp rfl hlen hlv.1 hstk (lv_room hsum) hd hf
  exact z_after hrun hA h1 h5 h6 hP hD hS kk
theorem z_callI (hx : p.tables.exec = Jvm.exec) (hb : c.code = cc) {own : String} {index maxL n r : Nat} {y : MethodName} {cy : ByteArray} {rm : Room} {za : List zV} {rest : List zV} {w' : zW} {mc ms : Nat} (hg : ∀ w ∈ TB, goodWord w = true) (hts : ∀ w ∈ TB, w.before args s = true) (hown : s.vm.findClass own = some m.cls) (hml : c.maxLocals = nL) (hK : va_K D cl (z_TY kc) s) (hN : z_N NT s) (hA : ∀ q, s.heap.size ≤ q → A q) (hE : z_EX EX) (hE0 : EX A s s.heap) (hH0 : H0 = s.heap)
    (hy : z_Y TB y cy maxL n none) (hl : Cond.methodLink own index y ∈ TB ∨ ∃ host, (own, index, y, host) ∈ NT) (hin : Cond.instanceMethod y ∈ TB) (hni : y.name = "<init>") (hM : z_Met EX l TB NT kc D cl xb env y cy maxL none rm (.inr (.inl (some r)) :: za) w none w' mc ms) (hrc : rm.cells = mc) (hrs : rm.slots = ms) (hR : rm.frames + 1 ≤ R.frames ∧ 8 + (maxL + 11) + rm.locals ≤ R.locals) (hn : za.length = n) (hst : (rest.map z_cat).sum ≤ 8) (hd : decode cc pc = .ok (.invokespecial index, 3)) (hf : nc + mc ≤ R.cells ∧ ns + ms ≤ R.slots) (kk : z_G p l e R s m args below meth c Q xb env kc D cl A H0 ad0 nL (pc + 3) (zl, rest, w', nc + mc, ns + ms)) : z_G p l e R s m args below meth c Q xb env kc D cl A H0 ad0 nL pc (zl, za.reverse ++ .inr (.inl (some r)) :: rest, w, nc, ns) := by
  subst hH0
  intro ls sv ws H locs ⟨h1, h2, h3, h6, hP, hD, hS⟩
  obtain ⟨sa, sb, rfl, ha, hb2⟩ := z_L_un h2
  obtain ⟨_, svr, rfl, ⟨b, hb1, rfl⟩, h5⟩ := z_st1 hb2
  have ha2 : z_L (z_v env (z_ad xb ws)) za sa.reverse := by rw [← List.reverse_reverse za]; exact z_L_rev ha
  have hsum : (svr.map fun v => v.category).sum ≤ 8 := by rw [← z_cats h5]; exact hst
  obtain ⟨lv, hlv, hz⟩ := id h1
  have hM' := hM (.ref b :: sa.reverse) ws H.size ⟨⟨b, hb1, rfl⟩, ha2⟩ h3
  have hp : PreS s H (va_Pc (.ref b :: sa.reverse) (z_pre EX NT D cl kc ws H.size)) (.ref b :: sa.reverse) := ⟨z_blind hE, fun U hU hW => ⟨rfl, by rw [hU], by rw [hU]; exact hP, va_K.moved hW.alike hK, hD.weaken (fun _ _ _ _ => trivial), z_N_moved hW hN, z_exin hE hE0 hA hD hS hU hW⟩⟩
  have hlen : sa.reverse.length = n := by rw [← z_L_len ha2]; exact hn
  have hstk : (F0 m pc ls (sa ++ Value.ref b :: svr)).stack = sa.reverse.reverse ++ .ref b :: svr := by rw [List.reverse_reverse]
  have hrun : va_Run p l e R s m args below meth c H locs nc ns mc ms (F0 m pc ls (sa ++ Value.ref b :: svr)) svr (z_Qc xb env kc D cl ws H.size w' none (Value.ref b :: sa.reverse).toArray) (va_A ws H.size) := by
    rcases hl with hl | ⟨host, hl⟩
    · exact va_runI ⟨hx, hb, hml, hown, hts⟩ hM' ⟨callB_of n hts (z_good hg hy.1) rfl hrc hrs (hts _ hy.2.1) (hts _ hl) hy.2.2 hR, hni, hts _ hin⟩ hp rfl hlen hlv.1 hstk (lv_room hsum) hd hf
    · exact va_runIN ⟨hx, hb, hml, hown, hts⟩ hM' ⟨va_cnB n hts (z_good hg hy.1) rfl hrc hrs (hN.1 _ hl) (hts _ hy.2.1) hy.2.2 hR, hni, hts _ hin⟩ hp rfl hlen hlv.1 hstk (lv_room hsum) hd hf
  exact z_after hrun hA h1 h5 h6 hP hD hS kk
theorem z_callS (hx : p.tables.exec = Jvm.exec) (hb : c.code = cc) {own : String} {index maxL n : Nat} {y : MethodName} {cy : ByteArray} {ret : Option FieldType} {rm : Room} {za : List zV} {rest : List zV} {rz : Option zV} {w' : zW} {mc ms : Nat} (hg : ∀ w ∈ TB, goodWord w = true) (hts : ∀ w ∈ TB, w.before args s = true) (hown : s.vm.findClass own = some m.cls) (hml : c.maxLocals = nL) (hK : va_K D cl (z_TY kc) s) (hN : z_N NT s) (hA : ∀ q, s.heap.size ≤ q → A q) (hE : z_EX EX) (hE0 : EX A s s.heap) (hH0 : H0 = s.heap)
    (hy : z_Y TB y cy maxL n ret) (hl : Cond.methodLink own index y ∈ TB ∨ ∃ host, (own, index, y, host) ∈ NT) (hsta : Cond.static y ∈ TB) (hM : z_Met EX l TB NT kc D cl xb env y cy maxL ret rm za w rz w' mc ms) (hrc : rm.cells = mc) (hrs : rm.slots = ms) (hR : rm.frames + 1 ≤ R.frames ∧ 8 + (maxL + 11) + rm.locals ≤ R.locals) (hn : za.length = n) (hst : (rest.map z_cat).sum ≤ 8) (hd : decode cc pc = .ok (.invokestatic index, 3)) (hf : nc + mc ≤ R.cells ∧ ns + ms ≤ R.slots) (kk : z_G p l e R s m args below meth c Q xb env kc D cl A H0 ad0 nL (pc + 3) (zl, rz.toList ++ rest, w', nc + mc, ns + ms)) : z_G p l e R s m args below meth c Q xb env kc D cl A H0 ad0 nL pc (zl, za.reverse ++ rest, w, nc, ns) := by
  subst hH0
  intro ls sv ws H locs ⟨h1, h2, h3, h6, hP, hD, hS⟩
  obtain ⟨sa, svr, rfl, ha, h5⟩ := z_L_un h2
  have ha2 : z_L (z_v env (z_ad xb ws)) za sa.reverse := by rw [← List.reverse_reverse za]; exact z_L_rev ha
  have hsum : (svr.map fun v => v.category).sum ≤ 8 := by rw [← z_cats h5]; exact hst
  obtain ⟨lv, hlv, hz⟩ := id h1
  have hM' := hM sa.reverse ws H.size ha2 h3
  have hp : PreS s H (va_Pc sa.reverse (z_pre EX NT D cl kc ws H.size)) sa.reverse := ⟨z_blind hE, fun U hU hW => ⟨rfl, by rw [hU], by rw [hU]; exact hP, va_K.moved hW.alike hK, hD.weaken (fun _ _ _ _ => trivial), z_N_moved hW hN, z_exin hE hE0 hA hD hS hU hW⟩⟩
  have hlen : sa.reverse.length = n := by rw [← z_L_len ha2]; exact hn
  have hstk : (F0 m pc ls (sa ++ svr)).stack = sa.reverse.reverse ++ svr := by rw [List.reverse_reverse]
  have hrun : va_Run p l e R s m args below meth c H locs nc ns mc ms (F0 m pc ls (sa ++ svr)) svr (z_Qc xb env kc D cl ws H.size w' rz sa.reverse.toArray) (va_A ws H.size) := by
    rcases hl with hl | ⟨host, hl⟩
    · exact va_runS ⟨hx, hb, hml, hown, hts⟩ hM' ⟨callB_of n hts (z_good hg hy.1) rfl hrc hrs (hts _ hy.2.1) (hts _ hl) hy.2.2 hR, hts _ hsta⟩ hp rfl hlen hlv.1 hstk (lv_room hsum) hd hf
    · exact va_runSN ⟨hx, hb, hml, hown, hts⟩ hM' ⟨va_cnB n hts (z_good hg hy.1) rfl hrc hrs (hN.1 _ hl) (hts _ hy.2.1) hy.2.2 hR, hts _ hsta, trivial⟩ hp rfl hlen hlv.1 hstk (lv_room hsum) hd hf
  exact z_after hrun hA h1 h5 h6 hP hD hS kk
end ZC
section ZR
variable {p : Program} {l : Launch} {e : Env} {R : Room} {s : State} {m : MethodId} {args : Array Value} {below : List Frame} {meth : Method} {c : Code} {cc : ByteArray}
variable {xb : Nat} {env : Nat → Int32} {kc : Nat → ClassId} {D : va_G} {cl : List vw_C} {ws0 : va_W} {sz : Nat} {nL : Nat} {zl : List (Nat × zV)} {w : zW} {nc ns pc mc ms : Nat}
theorem z_iret (hx : p.tables.exec = Jvm.exec) (hb : c.code = cc) {ty : FieldType} {t : zI} (hr : meth.sig.returnType = some ty) (hlocks : meth.locks = false) (hfit : z_fit ty (.inl t) = true) (h1 : nc ≤ mc) (h2 : ns ≤ ms) (hd : decode cc pc = .ok (.ireturn, 1)) : z_G p l e R s m args below meth c (MQ below (z_Qc xb env kc D cl ws0 sz w (some (.inl t))) args s mc ms (va_A ws0 sz)) xb env kc D cl (va_A ws0 sz) s.heap (z_ad xb ws0) nL pc (zl, [.inl t], w, nc, ns) := by
  intro ls sv ws H locs ⟨_, g2, g3, g6, hP, hD, hS⟩
  obtain ⟨_, sv', rfl, ⟨x, rfl, hx1⟩, g4⟩ := z_st1 g2
  obtain rfl : sv' = [] := by
    cases sv' with
    | nil => rfl
    | cons _ _ => exact g4.elim
  refine W.widen (k := mc) (n := ms) h1 h2 ?_
  exact W.zret hx hb hr (z_fit_ok (ad := z_ad xb ws) hfit ⟨x, rfl, hx1⟩).1 (fun t' ht hW => ⟨⟨x, ws, rfl, ⟨hx1, g3, g6⟩, by rw [ht]; exact hP, hD⟩, hS.F ht⟩) hS.2.2 hd hlocks
theorem z_vret (hx : p.tables.exec = Jvm.exec) (hb : c.code = cc) (hr : meth.sig.returnType = none) (hlocks : meth.locks = false) (h1 : nc ≤ mc) (h2 : ns ≤ ms) (hd : decode cc pc = .ok (.return_, 1)) : z_G p l e R s m args below meth c (MQ below (z_Qc xb env kc D cl ws0 sz w none) args s mc ms (va_A ws0 sz)) xb env kc D cl (va_A ws0 sz) s.heap (z_ad xb ws0) nL pc (zl, [], w, nc, ns) := by
  intro ls sv ws H locs ⟨_, g2, g3, g6, hP, hD, hS⟩
  obtain rfl : sv = [] := by
    cases sv with
    | nil => rfl
    | cons _ _ => exact g2.elim
  refine W.widen (k := mc) (n := ms) h1 h2 ?_
  exact W.vret hx hb hr (fun t' ht hW => ⟨⟨ws, rfl, ⟨g3, g6⟩, by rw [ht]; exact hP, hD⟩, hS.F ht⟩) hS.2.2 hd (hlocks := hlocks)
theorem z_aret (hx : p.tables.exec = Jvm.exec) (hb : c.code = cc) {n : String} {i : Nat} (hr : meth.sig.returnType = some (.object n)) (hlocks : meth.locks = false) (h1 : nc ≤ mc) (h2 : ns ≤ ms) (hd : decode cc pc = .ok (.areturn, 1)) : z_G p l e R s m args below meth c (MQ below (z_Qc xb env kc D cl ws0 sz w (some (.inr (.inl (some i))))) args s mc ms (va_A ws0 sz)) xb env kc D cl (va_A ws0 sz) s.heap (z_ad xb ws0) nL pc (zl, [.inr (.inl (some i))], w, nc, ns) := by
  intro ls sv ws H locs ⟨_, g2, g3, g6, hP, hD, hS⟩
  obtain ⟨_, sv', rfl, ⟨a, ha, rfl⟩, g4⟩ := z_st1 g2
  obtain rfl : sv' = [] := by
    cases sv' with
    | nil => rfl
    | cons _ _ => exact g4.elim
  refine W.widen (k := mc) (n := ms) h1 h2 ?_
  exact W.aret hx hb hr (Or.inl ⟨n, rfl⟩) (Or.inr ⟨a, rfl⟩) (fun t' ht hW => ⟨⟨ws, a, rfl, ⟨g3, g6⟩, ha, by rw [ht]; exact hP, hD⟩, hS.F ht⟩) hS.2.2 hd (hlocks := hlocks)
end ZR
end
section
/-! ===== the run ===== -/
abbrev zE : Type := Nat × Instr × List Nat
/-- a method: its name, code, locals, answer, rows, cells and slots that it makes at most, arguments -/
abbrev zM : Type := MethodName × ByteArray × Nat × Option FieldType × List zE × Nat × Nat × Nat
def z_find : List zE → Nat → Option (Instr × List Nat)
  | [], _ => none
  | (k, I, inf) :: r, pc => if k = pc then some (I, inf) else z_find r pc
theorem z_find_in : ∀ {t : List zE} {pc : Nat} {I : Instr} {inf : List Nat}, z_find t pc = some (I, inf) → (pc, I, inf) ∈ t
  | [], _, _, _, h => by cases h
  | (k, J, jnf) :: r, pc, I, inf, h => by
    unfold z_find at h
    by_cases hk : k = pc
    · rw [if_pos hk] at h
      cases h
      subst hk
      exact List.mem_cons_self
    · rw [if_neg hk] at h
      exact List.mem_cons_of_mem _ (z_find_in h)
def z_len (I : Instr) (inf : List Nat) : Nat := match I with
  | .bipush _ => 2
  | .sipush _ => 3
  | .ldc _ => 2
  | .ldc2_w _ => 3
  | .iload _ => 2
  | .aload _ => 2
  | .istore _ => 2
  | .astore _ => 2
  | .iinc _ _ => 3
  | .goto _ => 3
  | .if_icmp _ _ => 3
  | .ifCond _ _ => 3
  | .getfield _ => 3
  | .putfield _ => 3
  | .new _ => 3
  | .newarray _ => 2
  | .anewarray _ => 3
  | .invokespecial _ => 3
  | .invokestatic _ => 3
  | .invokevirtual _ => 3
  | .tableswitch _ _ _ _ => inf.headD 0
  | _ => 1
def z_x (B : List (Int × Int)) (TF : Nat → Nat → FieldType) (DF : Nat → List zV) (C S nL : Nat) (I : Instr) (inf : List Nat) (pc : Nat) (z : zS) : Option (Nat × zS) :=
  match z with
  | (zl, st, w, nc, ns) => match I with
    | .iconst n => some (pc + 1, (zl, .inl (.inl (some (Int32.ofInt n))) :: st, w, nc, ns))
    | .bipush n => some (pc + 2, (zl, .inl (.inl (some (Int8.ofInt n).toInt32)) :: st, w, nc, ns))
    | .sipush n => some (pc + 3, (zl, .inl (.inl (some (Int16.ofInt n).toInt32)) :: st, w, nc, ns))
    | .lconst _ => some (pc + 1, (zl, .inr (.inr ()) :: st, w, nc, ns))
    | .ldc2_w _ => some (pc + 3, (zl, .inr (.inr ()) :: st, w, nc, ns))
    | .lload_n k => match z_get zl (k : Nat) with
      | some (.inr (.inr ())) => some (pc + 1, (zl, .inr (.inr ()) :: st, w, nc, ns))
      | _ => none
    | .lstore_n k => match st with
      | .inr (.inr ()) :: rest => if (k : Nat) + 1 < nL then some (pc + 1, (z_put2 zl (k : Nat), rest, w, nc, ns)) else none
      | _ => none
    | .ladd => match st with
      | .inr (.inr ()) :: .inr (.inr ()) :: rest => some (pc + 1, (zl, .inr (.inr ()) :: rest, w, nc, ns))
      | _ => none
    | .lmul => match st with
      | .inr (.inr ()) :: .inr (.inr ()) :: rest => some (pc + 1, (zl, .inr (.inr ()) :: rest, w, nc, ns))
      | _ => none
    | .iload i => match z_get zl i with
      | some (.inl t) => some (pc + 2, (zl, .inl t :: st, w, nc, ns))
      | _ => none
    | .iload_n k => match z_get zl (k : Nat) with
      | some (.inl t) => some (pc + 1, (zl, .inl t :: st, w, nc, ns))
      | _ => none
    | .aload i => match z_get zl i with
      | some (.inr (.inl (some r))) => some (pc + 2, (zl, .inr (.inl (some r)) :: st, w, nc, ns))
      | _ => none
    | .aload_n k => match z_get zl (k : Nat) with
      | some (.inr (.inl (some r))) => some (pc + 1, (zl, .inr (.inl (some r)) :: st, w, nc, ns))
      | _ => none
    | .istore i => match st with
      | .inl t :: rest => if i < nL then some (pc + 2, (z_put zl i (.inl t), rest, w, nc, ns)) else none
      | _ => none
    | .istore_n k => match st with
      | .inl t :: rest => if (k : Nat) < nL then some (pc + 1, (z_put zl (k : Nat) (.inl t), rest, w, nc, ns)) else none
      | _ => none
    | .astore i => match st with
      | .inr (.inl (some r)) :: rest => if i < nL then some (pc + 2, (z_put zl i (.inr (.inl (some r))), rest, w, nc, ns)) else none
      | _ => none
    | .astore_n k => match st with
      | .inr (.inl (some r)) :: rest => if (k : Nat) < nL then some (pc + 1, (z_put zl (k : Nat) (.inr (.inl (some r))), rest, w, nc, ns)) else none
      | _ => none
    | .iinc i n => match z_get zl i with
      | some (.inl t) => if i < nL then some (pc + 3, (z_put zl i (.inl (z_add t (.inl (some (Int32.ofInt n))))), st, w, nc, ns)) else none
      | _ => none
    | .dup => match st with
      | t :: rest => if z_cat t = 1 then some (pc + 1, (zl, t :: t :: rest, w, nc, ns)) else none
      | _ => none
    | .dup2 => match st with
      | t :: u :: rest => if z_cat t = 1 ∧ z_cat u = 1 then some (pc + 1, (zl, t :: u :: t :: u :: rest, w, nc, ns)) else none
      | _ => none
    | .pop => match st with
      | t :: rest => if z_cat t = 1 then some (pc + 1, (zl, rest, w, nc, ns)) else none
      | _ => none
    | .goto off => match z_tgt pc off with
      | some t => some (t, (zl, st, w, nc, ns))
      | none => none
    | .i2l => match st with
      | .inl _ :: rest => some (pc + 1, (zl, .inr (.inr ()) :: rest, w, nc, ns))
      | _ => none
    | .i2b => match st with
      | .inl _ :: rest => some (pc + 1, (zl, .inl (.inl none) :: rest, w, nc, ns))
      | _ => none
    | .iadd => match st with
      | .inl y :: .inl x :: rest => some (pc + 1, (zl, .inl (z_add x y) :: rest, w, nc, ns))
      | _ => none
    | .iand => match st with
      | .inl y :: .inl x :: rest => some (pc + 1, (zl, .inl (z_and x y) :: rest, w, nc, ns))
      | _ => none
    | .isub => match st with
      | .inl y :: .inl x :: rest => some (pc + 1, (zl, .inl (z_op2 (fun a b => a - b) x y) :: rest, w, nc, ns))
      | _ => none
    | .imul => match st with
      | .inl y :: .inl x :: rest => some (pc + 1, (zl, .inl (z_op2 (fun a b => a * b) x y) :: rest, w, nc, ns))
      | _ => none
    | .ior => match st with
      | .inl y :: .inl x :: rest => some (pc + 1, (zl, .inl (z_op2 (fun a b => a ||| b) x y) :: rest, w, nc, ns))
      | _ => none
    | .ixor => match st with
      | .inl y :: .inl x :: rest => some (pc + 1, (zl, .inl (z_op2 (fun a b => a ^^^ b) x y) :: rest, w, nc, ns))
      | _ => none
    | .ishl => match st with
      | .inl y :: .inl x :: rest => some (pc + 1, (zl, .inl (z_op2 (fun a b => a <<< (b &&& 31)) x y) :: rest, w, nc, ns))
      | _ => none
    | .ishr => match st with
      | .inl y :: .inl x :: rest => some (pc + 1, (zl, .inl (z_op2 (fun a b => a >>> (b &&& 31)) x y) :: rest, w, nc, ns))
      | _ => none
    | .iushr => match st with
      | .inl _ :: .inl _ :: rest => some (pc + 1, (zl, .inl (.inl none) :: rest, w, nc, ns))
      | _ => none
    | .if_icmp k off => match st with
      | .inl y :: .inl x :: rest => match z_tgt pc off with
        | some t => match z_cond B k x y with
          | some b => some (if b then t else pc + 3, (zl, rest, w, nc, ns))
          | none => none
        | none => none
      | _ => none
    | .ifCond k off => match st with
      | .inl x :: rest => match z_tgt pc off with
        | some t => match z_cond B k x (.inl (some 0)) with
          | some b => some (if b then t else pc + 3, (zl, rest, w, nc, ns))
          | none => none
        | none => none
      | _ => none
    | .tableswitch d lo hi offs => match st with
      | .inl t :: rest => match z_sw B pc d lo hi offs t with
        | some tgt => some (tgt, (zl, rest, w, nc, ns))
        | none => none
      | _ => none
    | .getfield _ => match inf, st with
      | [ci, k], .inr (.inl (some (r + 1))) :: rest => match w[r]? with
        | some (.inl (cj, fs)) => if cj = ci then match fs[k]? with
            | some v => some (pc + 3, (zl, v :: rest, w, nc, ns))
            | none => none
          else none
        | _ => none
      | _, _ => none
    | .putfield _ => match inf, st with
      | [ci, k], v :: .inr (.inl (some (r + 1))) :: rest => match w[r]? with
        | some (.inl (cj, fs)) => if cj = ci ∧ k < fs.length ∧ z_fit (TF ci k) v = true then some (pc + 3, (zl, rest, w.set r (.inl (cj, fs.set k v)), nc, ns)) else none
        | _ => none
      | _, _ => none
    | .iaload => match st with
      | .inl t :: .inr (.inl (some (r + 1))) :: rest => match w[r]? with
        | some (.inr (.inl (0, es))) => match z_ix B t es.length with
          | some k => match es[k]? with
            | some x => some (pc + 1, (zl, .inl x :: rest, w, nc, ns))
            | none => none
          | none => none
        | _ => none
      | _ => none
    | .baload => match st with
      | .inl t :: .inr (.inl (some (r + 1))) :: rest => match w[r]? with
        | some (.inr (.inl (3, es))) => match z_ix B t es.length with
          | some k => match es[k]? with
            | some x => some (pc + 1, (zl, .inl x :: rest, w, nc, ns))
            | none => none
          | none => none
        | _ => none
      | _ => none
    | .iastore => match st with
      | .inl v :: .inl t :: .inr (.inl (some (r + 1))) :: rest => match w[r]? with
        | some (.inr (.inl (0, es))) => match z_ix B t es.length with
          | some k => some (pc + 1, (zl, rest, w.set r (.inr (.inl (0, es.set k v))), nc, ns))
          | none => none
        | _ => none
      | _ => none
    | .bastore => match st with
      | .inl v :: .inl t :: .inr (.inl (some (r + 1))) :: rest => match w[r]? with
        | some (.inr (.inl (2, es))) => match z_ix B t es.length with
          | some k => some (pc + 1, (zl, rest, w.set r (.inr (.inl (2, es.set k (.inl none)))), nc, ns))
          | none => none
        | some (.inr (.inl (3, es))) => match z_ix B t es.length with
          | some k => match v with
            | .inl (some v0) => if v0 = 0 ∨ v0 = 1 then some (pc + 1, (zl, rest, w.set r (.inr (.inl (3, es.set k (.inl (some v0))))), nc, ns)) else none
            | _ => none
          | none => none
        | _ => none
      | _ => none
    | .laload => match st with
      | .inl t :: .inr (.inl (some (r + 1))) :: rest => match w[r]? with
        | some (.inr (.inr (.inl n))) => match z_ix B t n with
          | some _ => some (pc + 1, (zl, .inr (.inr ()) :: rest, w, nc, ns))
          | none => none
        | _ => none
      | _ => none
    | .lastore => match st with
      | .inr (.inr _) :: .inl t :: .inr (.inl (some (r + 1))) :: rest => match w[r]? with
        | some (.inr (.inr (.inl n))) => match z_ix B t n with
          | some _ => some (pc + 1, (zl, rest, w, nc, ns))
          | none => none
        | _ => none
      | _ => none
    | .aaload => match st with
      | .inl t :: .inr (.inl (some (r + 1))) :: rest => match w[r]? with
        | some (.inr (.inr (.inr (kt, es)))) => if kt = 4 ∨ kt = 5 then match z_ix B t es.length with
            | some k => match es[k]? with
              | some (some q) => some (pc + 1, (zl, .inr (.inl (some q)) :: rest, w, nc, ns))
              | _ => none
            | none => none
          else none
        | _ => none
      | _ => none
    | .aastore => match st with
      | .inr (.inl (some (q + 1))) :: .inl t :: .inr (.inl (some (r + 1))) :: rest => match w[r]? with
        | some (.inr (.inr (.inr (kt, es)))) => match w[q]? with
          | some (.inl (ci, _)) => if (kt = 4 ∧ ci = 9) ∨ (kt = 5 ∧ ci = 2) then match z_ix B t es.length with
              | some k => some (pc + 1, (zl, rest, w.set r (.inr (.inr (.inr (kt, es.set k (some (q + 1)))))), nc, ns))
              | none => none
            else none
          | _ => none
        | _ => none
      | _ => none
    | .arraylength => match st with
      | .inr (.inl (some (r + 1))) :: rest => match w[r]? with
        | some (.inr (.inl (0, es))) => some (pc + 1, (zl, .inl (.inl (some (Int32.ofNat es.length))) :: rest, w, nc, ns))
        | _ => none
      | _ => none
    | .new _ => match inf with
      | [ci, N] => if nc + 1 ≤ C ∧ ns + N ≤ S then some (pc + 3, (zl, .inr (.inl (some (w.length + 1))) :: st, w ++ [.inl (ci, DF ci)], nc + 1, ns + N)) else none
      | _ => none
    | .newarray at0 => match st with
      | .inl (.inl (some t)) :: rest => if ¬ t < 0 ∧ t.toNatClampNeg ≤ 100000 ∧ nc + 1 ≤ C ∧ ns + t.toNatClampNeg ≤ S then match at0 with
          | .int => some (pc + 2, (zl, .inr (.inl (some (w.length + 1))) :: rest, w ++ [.inr (.inl (0, List.replicate t.toNatClampNeg (.inl (some 0))))], nc + 1, ns + t.toNatClampNeg))
          | .byte => some (pc + 2, (zl, .inr (.inl (some (w.length + 1))) :: rest, w ++ [.inr (.inl (2, List.replicate t.toNatClampNeg (.inl (some 0))))], nc + 1, ns + t.toNatClampNeg))
          | .boolean => some (pc + 2, (zl, .inr (.inl (some (w.length + 1))) :: rest, w ++ [.inr (.inl (3, List.replicate t.toNatClampNeg (.inl (some 0))))], nc + 1, ns + t.toNatClampNeg))
          | .long => some (pc + 2, (zl, .inr (.inl (some (w.length + 1))) :: rest, w ++ [.inr (.inr (.inl t.toNatClampNeg))], nc + 1, ns + t.toNatClampNeg))
          | _ => none
        else none
      | _ => none
    | .anewarray _ => match inf, st with
      | [kt], .inl (.inl (some t)) :: rest => if ¬ t < 0 ∧ t.toNatClampNeg ≤ 100000 ∧ nc + 1 ≤ C ∧ ns + t.toNatClampNeg ≤ S then some (pc + 3, (zl, .inr (.inl (some (w.length + 1))) :: rest, w ++ [.inr (.inr (.inr (kt, List.replicate t.toNatClampNeg none)))], nc + 1, ns + t.toNatClampNeg)) else none
      | _, _ => none
    | .invokespecial _ => match inf, st with
      | [0], .inr (.inl (some _)) :: rest => if (rest.map z_cat).sum ≤ 8 then some (pc + 3, (zl, rest, w, nc, ns)) else none
      | _, _ => none
    | .invokestatic _ => match inf, st with
      | [0], .inl (.inl (some n)) :: .inl (.inl (some z1)) :: .inr (.inl (some (r1 + 1))) :: .inl (.inl (some z0)) :: .inr (.inl (some (r0 + 1))) :: rest =>
        if z1 = 0 ∧ z0 = 0 ∧ ¬ n < 0 ∧ (rest.map z_cat).sum ≤ 8 then match w[r0]?, w[r1]? with
          | some (.inr (.inl (0, es0))), some (.inr (.inl (0, es1))) => if es0.length = es1.length ∧ n.toNatClampNeg = es0.length then some (pc + 3, (zl, rest, w.set r1 (.inr (.inl (0, es0))), nc, ns)) else none
          | some (.inr (.inr (.inl n0))), some (.inr (.inr (.inl n1))) => if n.toNatClampNeg ≤ n0 ∧ n.toNatClampNeg ≤ n1 then some (pc + 3, (zl, rest, w.set r1 (.inr (.inr (.inl n1))), nc, ns)) else none
          | _, _ => none
        else none
      | [2], .inl y :: .inl x :: rest => match z_lt B y x with
        | some b => if nc ≤ C ∧ ns ≤ S ∧ (rest.map z_cat).sum ≤ 8 then some (pc + 3, (zl, .inl (if b then y else x) :: rest, w, nc, ns)) else none
        | none => none
      | _, _ => none
    | _ => none
/-- what the tables say of a class of the world -/
def z_K (TB : List Cond) (cl : List vw_C) (TF : Nat → Nat → FieldType) (ci : Nat) (C : String) (T : u_T) (N : Nat) : Prop :=
  cl[ci]? = some (C, T, N) ∧ (∀ w ∈ u_ws C T N, w ∈ TB) ∧ (∀ k, k < N → parseFieldDescriptor (T k).2.2.1 = some (TF ci k)) ∧ ∀ a, a < N → ∀ b, b < N → a ≠ b → (T a).2.1 ≠ (T b).2.1
/-- what the tables say of a row -/
def z_en (TB : List Cond) (NT : List (String × Nat × MethodName × String)) (cl : List vw_C) (TF : Nat → Nat → FieldType) (DF : Nat → List zV) (P : List zM) (y : MethodName) (cc : ByteArray) (en : zE) : Prop :=
  decode cc en.1 = .ok (en.2.1, z_len en.2.1 en.2.2) ∧ match en.2.1 with
  | .ldc idx => idx = 19
  | .ldc2_w idx => ∃ v, Cond.constantLong y.cls idx v ∈ TB
  | .getfield idx => ∃ ci k C T N, en.2.2 = [ci, k] ∧ z_K TB cl TF ci C T N ∧ k < N ∧ Cond.fieldLink y.cls idx (T k).1 (T k).2.1 (T k).2.2.1 ∈ TB
  | .putfield idx => ∃ ci k C T N, en.2.2 = [ci, k] ∧ z_K TB cl TF ci C T N ∧ k < N ∧ Cond.fieldLink y.cls idx (T k).1 (T k).2.1 (T k).2.2.1 ∈ TB ∧ ((T k).2.2.2 = false ∨ ((T k).2.2.2 = true ∧ y.name = "<init>" ∧ (T k).1 = y.cls))
  | .new idx => ∃ ci C T N, en.2.2 = [ci, N] ∧ z_K TB cl TF ci C T N ∧ Cond.classLink y.cls idx C ∈ TB ∧ Cond.instantiable C N ∈ TB ∧ Cond.initialized C ∈ TB ∧ (DF ci).all z_dok = true ∧ ∀ j, j < N → defaultValue (TF ci j) = vp_V ((DF ci).map z_dv) j
  | .newarray at0 => Cond.arrayClass (newarray.typeOf at0) ∈ TB
  | .anewarray idx => ∃ kt C, en.2.2 = [kt] ∧ Cond.classLink y.cls idx C ∈ TB ∧ ((kt = 4 ∧ C = "HeldCoats$State") ∨ (kt = 5 ∧ C = "HeldCoats$Image"))
  | .invokespecial idx => en.2.2 = [9999] ∨ (en.2.2 = [0] ∧ Cond.methodLink y.cls idx Lib.objectInit ∈ TB ∧ Cond.instanceMethod Lib.objectInit ∈ TB ∧ Cond.code Lib.objectInit ⟨#[0xb1]⟩ 1 none ∈ TB) ∨ (∃ j y2 c2 L2 t2 mc ms n, en.2.2 = [1, j] ∧ P[j]? = some (y2, c2, L2, none, t2, mc, ms, n) ∧ z_Y TB y2 c2 L2 n none ∧ (Cond.methodLink y.cls idx y2 ∈ TB ∨ ∃ host, (y.cls, idx, y2, host) ∈ NT) ∧ Cond.instanceMethod y2 ∈ TB ∧ y2.name = "<init>")
  | .invokestatic idx => en.2.2 = [9999] ∨ (en.2.2 = [2] ∧ Cond.methodLink y.cls idx Lib.Math.min.name ∈ TB ∧ Cond.static Lib.Math.min.name ∈ TB ∧ Cond.initialized "java/lang/Math" ∈ TB ∧ Cond.code Lib.Math.min.name Lib.Math.min.code 2 (some .int) ∈ TB) ∨ (en.2.2 = [0] ∧ Cond.methodLink y.cls idx arraycopyName ∈ TB ∧ Cond.native arraycopyName ∈ TB ∧ Cond.static arraycopyName ∈ TB ∧ Cond.initialized "java/lang/System" ∈ TB) ∨ (∃ j y2 c2 L2 r2 t2 mc ms n, en.2.2 = [1, j] ∧ P[j]? = some (y2, c2, L2, r2, t2, mc, ms, n) ∧ z_Y TB y2 c2 L2 n r2 ∧ (Cond.methodLink y.cls idx y2 ∈ TB ∨ ∃ host, (y.cls, idx, y2, host) ∈ NT) ∧ Cond.static y2 ∈ TB)
  | .invokevirtual idx => (en.2.2 = [9999] ∨ (en.2.2 = [77] ∧ idx = 21) ∨ (en.2.2 = [78] ∧ idx = 27)) ∨ ∃ j ci y2 c2 L2 r2 t2 mc ms n T N, en.2.2 = [1, j, ci] ∧ P[j]? = some (y2, c2, L2, r2, t2, mc, ms, n) ∧ z_Y TB y2 c2 L2 n r2 ∧ (Cond.methodLink y.cls idx y2 ∈ TB ∨ ∃ host, (y.cls, idx, y2, host) ∈ NT) ∧ Cond.instanceMethod y2 ∈ TB ∧ Cond.selects y2.cls y2 y2 ∈ TB ∧ cl[ci]? = some (y2.cls, T, N)
  | _ => True
end
section
section ZX
variable {p : Program} {l : Launch} {e : Env} {R : Room} {s : State} {m : MethodId} {args : Array Value} {below : List Frame} {meth : Method} {c : Code} {Q : State → Prop} {cc : ByteArray}
variable {xb : Nat} {env : Nat → Int32} {kc : Nat → ClassId} {D : va_G} {cl : List vw_C} {A : Nat → Prop} {H0 : Heap} {ad0 : Nat → Option Nat} {nL : Nat}
variable {NT : List (String × Nat × MethodName × String)} {TB : List Cond} {TF : Nat → Nat → FieldType} {DF : Nat → List zV} {P : List zM} {B : List (Int × Int)} {C S : Nat}
set_option maxHeartbeats 4000000 in
set_option maxRecDepth 100000 in
theorem z_x_ok (hx : p.tables.exec = Jvm.exec) (hb : c.code = cc) {y : MethodName} {I : Instr} {inf : List Nat} {pc pc' : Nat} {z z' : zS} (hB : z_B B env) (hml : c.maxLocals = nL) (hown : s.vm.findClass y.cls = some m.cls) (hname : y.name = "<init>" → meth.name = "<init>") (hts : ∀ w ∈ TB, w.before args s = true) (hK : va_K D cl (z_TY kc) s) (hN : z_N NT s) (hA : ∀ q, H0.size ≤ q → A q) (hfr : 1 ≤ R.frames) (hlo : 100 ≤ R.locals) (hC : C ≤ R.cells) (hS : S ≤ R.slots) (hc9 : ∃ T N, cl[9]? = some ("HeldCoats$State", T, N)) (hc2 : ∃ T N, cl[2]? = some ("HeldCoats$Image", T, N)) (hen : z_en TB NT cl TF DF P y cc (pc, I, inf)) (h : z_x B TF DF C S nL I inf pc z = some (pc', z')) (kk : z_G p l e R s m args below meth c Q xb env kc D cl A H0 ad0 nL pc' z') : z_G p l e R s m args below meth c Q xb env kc D cl A H0 ad0 nL pc z := by
  obtain ⟨zl, st, w, nc, ns⟩ := z
  obtain ⟨hd, hen⟩ := hen
  dsimp only at hd hen
  unfold z_x at h
  dsimp only at h
  split at h
  next => cases h; exact z_iconst hx hb hd kk
  next => cases h; exact z_bipush hx hb hd kk
  next => cases h; exact z_sipush hx hb hd kk
  next => cases h; exact z_lconst hx hb hd kk
  next => cases h; obtain ⟨v, hv⟩ := hen; exact z_ldc2 hx hb hown (hts _ hv) hd kk
  next =>
    split at h
    next hg => cases h; exact z_lload_n hx hb hd hg kk
    next => cases h
  next =>
    split at h
    next =>
      split at h
      next hn => cases h; exact z_lstore_n hx hb hd hn kk
      next => cases h
    next => cases h
  next =>
    split at h
    next => cases h; exact z_ladd hx hb hd kk
    next => cases h
  next =>
    split at h
    next => cases h; exact z_lmul hx hb hd kk
    next => cases h
  next =>
    split at h
    next hg => cases h; exact z_iload hx hb hd hg kk
    next => cases h
  next =>
    split at h
    next hg => cases h; exact z_iload_n hx hb hd hg kk
    next => cases h
  next =>
    split at h
    next hg => cases h; exact z_aload hx hb hd hg kk
    next => cases h
  next =>
    split at h
    next hg => cases h; exact z_aload_n hx hb hd hg kk
    next => cases h
  next =>
    split at h
    next =>
      split at h
      next hn => cases h; exact z_istore hx hb hd hn kk
      next => cases h
    next => cases h
  next =>
    split at h
    next =>
      split at h
      next hn => cases h; exact z_istore_n hx hb hd hn kk
      next => cases h
    next => cases h
  next =>
    split at h
    next =>
      split at h
      next hn => cases h; exact z_astore hx hb hd hn kk
      next => cases h
    next => cases h
  next =>
    split at h
    next =>
      split at h
      next hn => cases h; exact z_astore_n hx hb hd hn kk
      next => cases h
    next => cases h
  next =>
    split at h
    next hg =>
      split at h
      next hn => cases h; exact z_iinc hx hb hd hg hn kk
      next => cases h
    next => cases h
  next =>
    split at h
    next =>
      split at h
      next hn => cases h; exact z_dup hx hb hd hn kk
      next => cases h
    next => cases h
  next =>
    split at h
    next =>
      split at h
      next hn => cases h; exact z_dup2 hx hb hd hn.1 hn.2 kk
      next => cases h
    next => cases h
  next =>
    split at h
    next =>
      split at h
      next hn => cases h; exact z_pop hx hb hd hn kk
      next => cases h
    next => cases h
  next =>
    split at h
    next ht => cases h; exact z_goto hx hb hd (z_tgt_ok ht) kk
    next => cases h
  next =>
    split at h
    next => cases h; exact z_i2l hx hb hd kk
    next => cases h
  next =>
    split at h
    next => cases h; exact z_i2b hx hb hd kk
    next => cases h
  next =>
    split at h
    next => cases h; exact z_iadd hx hb hd kk
    next => cases h
  next =>
    split at h
    next => cases h; exact z_iand hx hb hd kk
    next => cases h
  next =>
    split at h
    next => cases h; exact z_isub hx hb hd kk
    next => cases h
  next =>
    split at h
    next => cases h; exact z_imul hx hb hd kk
    next => cases h
  next =>
    split at h
    next => cases h; exact z_ior hx hb hd kk
    next => cases h
  next =>
    split at h
    next => cases h; exact z_ixor hx hb hd kk
    next => cases h
  next =>
    split at h
    next => cases h; exact z_ishl hx hb hd kk
    next => cases h
  next =>
    split at h
    next => cases h; exact z_ishr hx hb hd kk
    next => cases h
  next =>
    split at h
    next => cases h; exact z_iushr hx hb hd kk
    next => cases h
  next =>
    split at h
    next =>
      split at h
      next ht =>
        split at h
        next hr => cases h; exact z_icmp hx hb hB hd (z_tgt_ok ht) hr kk
        next => cases h
      next => cases h
    next => cases h
  next =>
    split at h
    next =>
      split at h
      next ht =>
        split at h
        next hr => cases h; exact z_if hx hb hB hd (z_tgt_ok ht) hr kk
        next => cases h
      next => cases h
    next => cases h
  next =>
    split at h
    next =>
      split at h
      next hs => cases h; exact z_table hx hb hB hd hs kk
      next => cases h
    next => cases h
  next =>
    split at h
    next =>
      split at h
      next hw =>
        split at h
        next hci =>
          split at h
          next hv =>
            cases h
            obtain ⟨ci, k, C0, T, N, hi, hKc, hk, hl⟩ := hen
            cases hi
            subst hci
            exact z_getf hx hb hts hKc.2.1 hown hK hKc.1 hk hl hd hw hv kk
          next => cases h
        next => cases h
      next => cases h
    next => cases h
  next =>
    split at h
    next =>
      split at h
      next hw =>
        split at h
        next hci =>
          cases h
          obtain ⟨ci, k, C0, T, N, hi, hKc, hk, hl, hfin⟩ := hen
          cases hi
          obtain ⟨hci, hkl, hfit⟩ := hci
          subst hci
          exact z_putf hx hb hts hKc.2.1 hKc.2.2.1 hKc.2.2.2 hown hK hKc.1 hk hl (hfin.imp id (fun q => ⟨q.1, hname q.2.1, q.2.2⟩)) hd hw hkl hfit kk
        next => cases h
      next => cases h
    next => cases h
  next =>
    split at h
    next =>
      split at h
      next hw =>
        split at h
        next hi =>
          split at h
          next hv => cases h; exact z_iald hx hb hB hK rfl hd hw hi hv kk
          next => cases h
        next => cases h
      next => cases h
    next => cases h
  next =>
    split at h
    next =>
      split at h
      next hw =>
        split at h
        next hi =>
          split at h
          next hv => cases h; exact z_zald hx hb hB hK rfl hd hw hi hv kk
          next => cases h
        next => cases h
      next => cases h
    next => cases h
  next =>
    split at h
    next =>
      split at h
      next hw =>
        split at h
        next hi => cases h; exact z_iast hx hb hB hK rfl hd hw hi kk
        next => cases h
      next => cases h
    next => cases h
  next =>
    split at h
    next =>
      split at h
      next hw =>
        split at h
        next hi => cases h; exact z_bast hx hb hB hK rfl hd hw hi kk
        next => cases h
      next hw =>
        split at h
        next hi =>
          split at h
          next v0 =>
            split at h
            next h01 =>
              cases h
              exact z_zast hx hb hB hK rfl hd (by rcases h01 with rfl | rfl <;> decide +kernel) hw hi kk
            next => cases h
          next => cases h
        next => cases h
      next => cases h
    next => cases h
  next =>
    split at h
    next =>
      split at h
      next hw =>
        split at h
        next hi => cases h; exact z_lald hx hb hB hK rfl hd hw hi kk
        next => cases h
      next => cases h
    next => cases h
  next =>
    split at h
    next =>
      split at h
      next hw =>
        split at h
        next hi => cases h; exact z_last hx hb hB hK rfl hd hw hi kk
        next => cases h
      next => cases h
    next => cases h
  next =>
    split at h
    next =>
      split at h
      next hw =>
        split at h
        next hkt =>
          split at h
          next hi =>
            split at h
            next hv =>
              cases h
              rcases hkt with rfl | rfl
              · exact z_aald hx hb hB hK rfl hd hw hi hv kk
              · exact z_aald hx hb hB hK rfl hd hw hi hv kk
            next => cases h
          next => cases h
        next => cases h
      next => cases h
    next => cases h
  next =>
    split at h
    next =>
      split at h
      next hw =>
        split at h
        next hq =>
          split at h
          next hkt =>
            split at h
            next hi =>
              cases h
              rcases hkt with ⟨rfl, rfl⟩ | ⟨rfl, rfl⟩
              · obtain ⟨T, N, hc⟩ := hc9
                exact z_aast hx hb hB hK rfl hc hd hw hq hi kk
              · obtain ⟨T, N, hc⟩ := hc2
                exact z_aast hx hb hB hK rfl hc hd hw hq hi kk
            next => cases h
          next => cases h
        next => cases h
      next => cases h
    next => cases h
  next =>
    split at h
    next =>
      split at h
      next hw => cases h; exact z_alen (n := 0) hx hb hK rfl hd hw kk
      next => cases h
    next => cases h
  next =>
    split at h
    next =>
      split at h
      next hcs =>
        cases h
        obtain ⟨ci, C0, T, N, hi, hKc, hl, hins, hini, hdf, hfs⟩ := hen
        cases hi
        exact z_newo hx hb hts hKc.2.1 hKc.2.2.1 hown hl hins hini hK hA hKc.1 hdf hfs (by omega) (by omega) hd kk
      next => cases h
    next => cases h
  next =>
    split at h
    next =>
      split at h
      next hcs =>
        obtain ⟨hn0, hn1, hn2, hn3⟩ := hcs
        split at h
        next =>
          cases h
          exact z_newi hx hb (hts _ hen) rfl (kt := 0) rfl rfl hK hA hn0 rfl (by show _ * 4 ≤ _; omega) (by omega) (by omega) hd kk
        next =>
          cases h
          exact z_newi hx hb (hts _ hen) rfl (kt := 2) rfl rfl hK hA hn0 rfl (by show _ * 1 ≤ _; omega) (by omega) (by omega) hd kk
        next =>
          cases h
          exact z_newi hx hb (hts _ hen) rfl (kt := 3) rfl rfl hK hA hn0 rfl (by show _ * 1 ≤ _; omega) (by omega) (by omega) hd kk
        next =>
          cases h
          exact z_newl hx hb (hts _ hen) rfl hK hA hn0 rfl (by show _ * 8 ≤ _; omega) (by omega) (by omega) hd kk
        next => cases h
      next => cases h
    next => cases h
  next =>
    split at h
    next =>
      split at h
      next hcs =>
        obtain ⟨hn0, hn1, hn2, hn3⟩ := hcs
        cases h
        obtain ⟨kt, C0, hi, hl, hk⟩ := hen
        cases hi
        rcases hk with ⟨rfl, rfl⟩ | ⟨rfl, rfl⟩
        · exact z_newr hx hb hown (hts _ hl) hN.2.1 (kt := 4) rfl hK hA hn0 rfl (by omega) (by omega) (by omega) hd kk
        · exact z_newr hx hb hown (hts _ hl) hN.2.2 (kt := 5) rfl hK hA hn0 rfl (by omega) (by omega) (by omega) hd kk
      next => cases h
    next => cases h
  next =>
    split at h
    next =>
      split at h
      next hs =>
        cases h
        rcases hen with hi | ⟨_, h1, h2, h3⟩ | ⟨_, _, _, _, _, _, _, _, hi, _⟩
        · cases hi
        · exact z_objInit hx hb hown hml (hts _ h1) (hts _ h2) (hts _ h3) hd hfr hlo hs kk
        · cases hi
      next => cases h
    next => cases h
  next =>
    split at h
    next =>
      split at h
      next hs =>
        obtain ⟨rfl, rfl, hn0, hs⟩ := hs
        rcases hen with hi | ⟨hi, _⟩ | ⟨_, h1, h2, h3, h4⟩ | ⟨_, _, _, _, _, _, _, _, _, hi, _⟩
        · cases hi
        · cases hi
        · split at h
          next hw0 hw1 =>
            split at h
            next hle =>
              cases h
              exact z_copyi hx hb hown hml (hts _ h1) (hts _ h2) (hts _ h3) (hts _ h4) hK rfl hw0 hw1 hle.1 hn0 hle.2 hfr hlo hs hd kk
            next => cases h
          next hw0 hw1 =>
            split at h
            next hle =>
              cases h
              exact z_copyl hx hb hown hml (hts _ h1) (hts _ h2) (hts _ h3) (hts _ h4) hK rfl hw0 hw1 hn0 hle.1 hle.2 hfr hlo hs hd kk
            next => cases h
          next => cases h
        · cases hi
      next => cases h
    next =>
      split at h
      next b0 hlt =>
        split at h
        next hcs =>
          cases h
          rcases hen with hi | ⟨_, h1, h2, h3, h4⟩ | ⟨hi, _⟩ | ⟨_, _, _, _, _, _, _, _, _, hi, _⟩
          · cases hi
          · exact z_mmin hx hb hB hown hml (hts _ h1) (hts _ h2) (hts _ h3) (hts _ h4) hfr hlo (by omega) (by omega) hcs.2.2 hlt hd kk
          · cases hi
          · cases hi
        next => cases h
      next => cases h
    next => cases h
  next => cases h
end ZX
end
section
/-! ===== the run through methods ===== -/
def z_ent : Nat → List zV → List (Nat × zV)
  | _, [] => []
  | i, v :: vs => (i, v) :: z_ent (if z_cat v = 2 then i + 2 else i + 1) vs
theorem z_ent_ok {env : Nat → Int32} {ad : Nat → Option Nat} : ∀ {za : List zV} {av : List Value} (i : Nat), z_L (z_v env ad) za av → z_L (fun (a : Nat × zV) (b : Nat × Value) => a.1 = b.1 ∧ z_v env ad a.2 b.2) (z_ent i za) (lv_args i av)
  | [], [], _, _ => trivial
  | v :: za, x :: av, i, h => by
    unfold z_ent lv_args
    rw [z_v_cat h.1]
    exact ⟨⟨rfl, h.1⟩, z_ent_ok _ h.2⟩
  | [], _ :: _, _, h => h.elim
  | _ :: _, [], _, h => h.elim
theorem z_sl_len : ∀ (vs : List Value), (lg_sl vs).length = (vs.map fun v => v.category).sum
  | [] => rfl
  | v :: vs => by
    have ih := z_sl_len vs
    unfold lg_sl at ih ⊢
    rw [List.flatMap_cons, List.length_append, List.map_cons, List.sum_cons, ih]
    rcases lv_cat v with h | h <;> simp [h]
def z_res (tab : List zE) (ret : Option FieldType) (pc : Nat) (st : List zV) : Option (Option zV) := match z_find tab pc with
  | some (.ireturn, _) => match ret, st with
    | some ty, [.inl t] => if z_fit ty (.inl t) = true then some (some (.inl t)) else none
    | _, _ => none
  | some (.return_, _) => match ret, st with
    | none, [] => some none
    | _, _ => none
  | some (.areturn, _) => match ret, st with
    | some (.object _), [.inr (.inl (some i))] => some (some (.inr (.inl (some i))))
    | _, _ => none
  | _ => none
def z_isR (I : Instr) : Bool := match I with
  | .ireturn => true
  | .return_ => true
  | .areturn => true
  | .athrow => true
  | _ => false
/-- a call: how (1 of an object, 2 a constructor, 3 static), of whom, the receiver's class -/
def z_ck (I : Instr) (inf : List Nat) : Option (Nat × Nat × Nat) := match I, inf with
  | .invokevirtual _, [_, j, ci] => some (1, j, ci)
  | .invokespecial _, [_, j] => some (2, j, 0)
  | .invokestatic _, [_, j] => some (3, j, 0)
  | _, _ => none
/-- the arguments (the receiver ahead), what stays on the stack -/
def z_arg (k n ci : Nat) (st : List zV) (w : zW) : Option (List zV × List zV) :=
  if n ≤ st.length then
    if k = 3 then some ((st.take n).reverse, st.drop n)
    else match st.drop n with
      | .inr (.inl (some (r + 1))) :: rest => if k = 2 then some (.inr (.inl (some (r + 1))) :: (st.take n).reverse, rest) else match w[r]? with
          | some (.inl (cj, _)) => if cj = ci then some (.inr (.inl (some (r + 1))) :: (st.take n).reverse, rest) else none
          | _ => none
      | _ => none
  else none
def z_fin (C S nc ns : Nat) (M2 : zM) (za rest : List zV) (pcr : Nat) (zr : zS) : Option (Option zV) :=
  if zr.2.2.2.1 ≤ M2.2.2.2.2.2.1 ∧ zr.2.2.2.2 ≤ M2.2.2.2.2.2.2.1 ∧ nc + M2.2.2.2.2.2.1 ≤ C ∧ ns + M2.2.2.2.2.2.2.1 ≤ S ∧ (rest.map z_cat).sum ≤ 8 ∧ (za.map z_cat).sum ≤ M2.2.2.1 ∧ M2.2.2.1 ≤ 80 then z_res M2.2.2.2.2.1 M2.2.2.2.1 pcr zr.2.1 else none
/-- a call whose contract is given -/
def z_sp (sp : Nat → List zV → zW → Option (Option zV × zW)) (C S nc ns d j : Nat) (M2 : zM) (za rest : List zV) (w : zW) : Option (Option zV × zW) := if 10 ≤ d ∧ nc + M2.2.2.2.2.2.1 ≤ C ∧ ns + M2.2.2.2.2.2.2.1 ≤ S ∧ (rest.map z_cat).sum ≤ 8 ∧ M2.2.2.1 ≤ 80 then match sp j za w with
    | some (rz, w2) => match M2.2.2.2.1, rz with
      | none, some _ => none
      | _, _ => some (rz, w2)
    | none => none
  else none
theorem z_sp_ok {sp : Nat → List zV → zW → Option (Option zV × zW)} {C S nc ns d j : Nat} {M2 : zM} {za rest : List zV} {w w2 : zW} {rz : Option zV} (h : z_sp sp C S nc ns d j M2 za rest w = some (rz, w2)) : 10 ≤ d ∧ nc + M2.2.2.2.2.2.1 ≤ C ∧ ns + M2.2.2.2.2.2.2.1 ≤ S ∧ (rest.map z_cat).sum ≤ 8 ∧ M2.2.2.1 ≤ 80 ∧ sp j za w = some (rz, w2) ∧ (M2.2.2.2.1 = none → rz = none) := by
  unfold z_sp at h
  split at h
  next hc =>
    obtain ⟨h1, h2, h3, h4, h5⟩ := hc
    split at h
    next rz' w2' hsp =>
      split at h
      next => cases h
      next hne =>
        cases h
        refine ⟨h1, h2, h3, h4, h5, hsp, fun hr => ?_⟩
        cases rz with
        | none => rfl
        | some v => exact absurd rfl (hne v hr)
    next => cases h
  next => cases h
/-- the law's own script (its length, its ints, which are the named numbers), or a text that lies outside -/
def z_scr (B : List (Int × Int)) (Ls : Option (Nat ⊕ List Int32)) (I : Instr) (inf : List Nat) (pc : Nat) (z : zS) : Option (Nat × zS) := match Ls, I, z with
  | some (.inl L), .arraylength, (zl, .inr (.inl (some 0)) :: rest, w, nc, ns) => some (pc + 1, (zl, .inl (.inl (some (Int32.ofNat L))) :: rest, w, nc, ns))
  | some (.inl L), .iaload, (zl, .inl t :: .inr (.inl (some 0)) :: rest, w, nc, ns) => match z_ix B t L with
    | some k => some (pc + 1, (zl, .inl (if (z_rng B (.inr (k, 0))).1 = (z_rng B (.inr (k, 0))).2 then .inl (some (Int32.ofInt (z_rng B (.inr (k, 0))).1)) else .inr (k, 0)) :: rest, w, nc, ns))
    | none => none
  | some (.inr _), .ldc _, (zl, st, w, nc, ns) => some (pc + 2, (zl, .inr (.inl (some 0)) :: st, w, nc, ns))
  | some (.inr bs), .invokevirtual _, (zl, .inr (.inl (some 0)) :: rest, w, nc, ns) => if inf = [77] ∧ (rest.map z_cat).sum ≤ 8 then some (pc + 3, (zl, .inl (.inl (some (Int32.ofNat bs.length))) :: rest, w, nc, ns)) else none
  | some (.inr bs), .invokevirtual _, (zl, .inl t :: .inr (.inl (some 0)) :: rest, w, nc, ns) => if inf = [78] ∧ (rest.map z_cat).sum ≤ 8 then match z_ix B t bs.length with
      | some k => match bs[k]? with
        | some v => some (pc + 3, (zl, .inl (.inl (some v)) :: rest, w, nc, ns))
        | none => none
      | none => none
    else none
  | _, _, _ => none
/-- what a frame that reads a text owes: the text's place on the stack, its length, its letters -/
def z_STR (p : Program) (l : Launch) (e : Env) (R : Room) (s : State) (m : MethodId) (args : Array Value) (below : List Frame) (meth : Method) (c : Code) (Q : State → Prop) (xb : Nat) (env : Nat → Int32) (kc : Nat → ClassId) (D : va_G) (cl : List vw_C) (A : Nat → Prop) (H0 : Heap) (ad0 : Nat → Option Nat) (nL : Nat) (cc : ByteArray) (bs : List Int32) : Prop :=
  ∀ (pc : Nat) (zl : List (Nat × zV)) (st : List zV) (w : zW) (nc ns : Nat),
    (decode cc pc = .ok (.ldc 19, 2) → z_G p l e R s m args below meth c Q xb env kc D cl A H0 ad0 nL (pc + 2) (zl, .inr (.inl (some 0)) :: st, w, nc, ns) → z_G p l e R s m args below meth c Q xb env kc D cl A H0 ad0 nL pc (zl, st, w, nc, ns)) ∧
    (decode cc pc = .ok (.invokevirtual 21, 3) → (st.map z_cat).sum ≤ 8 → z_G p l e R s m args below meth c Q xb env kc D cl A H0 ad0 nL (pc + 3) (zl, .inl (.inl (some (Int32.ofNat bs.length))) :: st, w, nc, ns) → z_G p l e R s m args below meth c Q xb env kc D cl A H0 ad0 nL pc (zl, .inr (.inl (some 0)) :: st, w, nc, ns)) ∧
    ∀ (t : zI) (k : Nat) (v : Int32), decode cc pc = .ok (.invokevirtual 27, 3) → (st.map z_cat).sum ≤ 8 → bs[k]? = some v → (∀ x, z_i env t x → vp_in x bs.length ∧ x.toNatClampNeg = k) → z_G p l e R s m args below meth c Q xb env kc D cl A H0 ad0 nL (pc + 3) (zl, .inl (.inl (some v)) :: st, w, nc, ns) → z_G p l e R s m args below meth c Q xb env kc D cl A H0 ad0 nL pc (zl, .inl t :: .inr (.inl (some 0)) :: st, w, nc, ns)
def z_run (P : List zM) (B : List (Int × Int)) (TF : Nat → Nat → FieldType) (DF : Nat → List zV) (sp : Nat → List zV → zW → Option (Option zV × zW)) : Nat → Option (Nat ⊕ List Int32) → Nat → Nat → Nat → zM → Nat → zS → Option (Nat × zS)
  | 0, _, _, _, _, _, _, _ => none
  | n + 1, Ls, d, C, S, M, pc, z => match z_find M.2.2.2.2.1 pc with
    | none => none
    | some (I, inf) => if (z_isR I || inf.getLast? == some 9999) = true then some (pc, z) else match z_ck I inf with
      | some (k, j, ci) => match d, P[j]? with
        | d' + 1, some M2 => match z_arg k M2.2.2.2.2.2.2.2 ci z.2.1 z.2.2.1 with
          | some (za, rest) => match z_sp sp C S z.2.2.2.1 z.2.2.2.2 d' j M2 za rest z.2.2.1 with
            | some (rz, w2) => z_run P B TF DF sp n Ls (d' + 1) C S M (pc + 3) (z.1, rz.toList ++ rest, w2, z.2.2.2.1 + M2.2.2.2.2.2.1, z.2.2.2.2 + M2.2.2.2.2.2.2.1)
            | none => match z_run P B TF DF sp n none d' M2.2.2.2.2.2.1 M2.2.2.2.2.2.2.1 M2 0 (z_ent 0 za, [], z.2.2.1, 0, 0) with
              | some (pcr, zr) => match z_fin C S z.2.2.2.1 z.2.2.2.2 M2 za rest pcr zr with
                | some rz => z_run P B TF DF sp n Ls (d' + 1) C S M (pc + 3) (z.1, rz.toList ++ rest, zr.2.2.1, z.2.2.2.1 + M2.2.2.2.2.2.1, z.2.2.2.2 + M2.2.2.2.2.2.2.1)
                | none => none
              | none => none
          | none => none
        | _, _ => none
      | none => match z_scr B Ls I inf pc z with
        | some (pc', z') => z_run P B TF DF sp n Ls d C S M pc' z'
        | none => match z_x B TF DF C S M.2.2.1 I inf pc z with
          | some (pc', z') => z_run P B TF DF sp n Ls d C S M pc' z'
          | none => none
def z_Mok (TB : List Cond) (NT : List (String × Nat × MethodName × String)) (cl : List vw_C) (TF : Nat → Nat → FieldType) (DF : Nat → List zV) (P : List zM) (M : zM) : Prop := plainName M.1.cls = true ∧ ∀ en ∈ M.2.2.2.2.1, z_en TB NT cl TF DF P M.1 M.2.1 en
/-- what a frame of a method stands on -/
def z_ctx (EX : (Nat → Prop) → State → Heap → Prop) (TB : List Cond) (NT : List (String × Nat × MethodName × String)) (cl : List vw_C) (kc : Nat → ClassId) (D : va_G) (p : Program) (R : Room) (s : State) (m : MethodId) (args : Array Value) (meth : Method) (c : Code) (A : Nat → Prop) (H0 : Heap) (xb : Nat) (env : Nat → Int32) (Ls : Option (Nat ⊕ List Int32)) (d C S : Nat) (M : zM) : Prop :=
  p.tables.exec = Jvm.exec ∧ c.code = M.2.1 ∧ c.maxLocals = M.2.2.1 ∧ s.vm.findClass M.1.cls = some m.cls ∧ (M.1.name = "<init>" → meth.name = "<init>") ∧ (∀ w ∈ TB, w.before args s = true) ∧ va_K D cl (z_TY kc) s ∧ z_N NT s ∧ (∀ q, H0.size ≤ q → A q) ∧ d + 1 ≤ R.frames ∧ 100 * d + 100 ≤ R.locals ∧ C ≤ R.cells ∧ S ≤ R.slots ∧ H0 = s.heap ∧ EX A s s.heap ∧ ∀ L, Ls = some (.inl L) → va_X xb L env s s.heap ∧ xb < s.heap.size ∧ ¬ A xb ∧ H0 = s.heap
/-- the whole program's tables -/
def z_all (TB : List Cond) (NT : List (String × Nat × MethodName × String)) (cl : List vw_C) (TF : Nat → Nat → FieldType) (DF : Nat → List zV) (P : List zM) : Prop :=
  (∀ w ∈ TB, goodWord w = true) ∧ (∃ T N, cl[9]? = some ("HeldCoats$State", T, N)) ∧ (∃ T N, cl[2]? = some ("HeldCoats$Image", T, N)) ∧ ∀ (j : Nat) (M : zM), P[j]? = some M → z_Mok TB NT cl TF DF P M
/-- what the run of n steps says -/
def z_H (EX : (Nat → Prop) → State → Heap → Prop) (l : Launch) (TB : List Cond) (NT : List (String × Nat × MethodName × String)) (cl : List vw_C) (kc : Nat → ClassId) (D : va_G) (xb : Nat) (env : Nat → Int32) (B : List (Int × Int)) (TF : Nat → Nat → FieldType) (DF : Nat → List zV) (sp : Nat → List zV → zW → Option (Option zV × zW)) (P : List zM) (n : Nat) : Prop :=
  ∀ (Ls : Option (Nat ⊕ List Int32)) (d C S : Nat) (M : zM) (pc : Nat) (z : zS) (pc' : Nat) (z' : zS), z_run P B TF DF sp n Ls d C S M pc z = some (pc', z') → z_Mok TB NT cl TF DF P M → ∀ (p : Program) (e : Env) (R : Room) (s : State) (m : MethodId) (args : Array Value) (below : List Frame) (meth : Method) (c : Code) (Q : State → Prop) (A : Nat → Prop) (H0 : Heap) (ad0 : Nat → Option Nat), z_ctx EX TB NT cl kc D p R s m args meth c A H0 xb env Ls d C S M → (∀ bs, Ls = some (.inr bs) → z_STR p l e R s m args below meth c Q xb env kc D cl A H0 ad0 M.2.2.1 M.2.1 bs) →
    z_G p l e R s m args below meth c Q xb env kc D cl A H0 ad0 M.2.2.1 pc' z' → z_G p l e R s m args below meth c Q xb env kc D cl A H0 ad0 M.2.2.1 pc z
def z_rm (d mc ms : Nat) : Room := { frames := d + 1, cells := mc, slots := ms, locals := 100 * d + 100 }
/-- the given contracts -/
def z_spok (EX : (Nat → Prop) → State → Heap → Prop) (l : Launch) (TB : List Cond) (NT : List (String × Nat × MethodName × String)) (kc : Nat → ClassId) (D : va_G) (cl : List vw_C) (xb : Nat) (env : Nat → Int32) (sp : Nat → List zV → zW → Option (Option zV × zW)) (P : List zM) : Prop :=
  ∀ (j : Nat) (za : List zV) (w : zW) (rz : Option zV) (w2 : zW) (y : MethodName) (cc : ByteArray) (maxL : Nat) (ret : Option FieldType) (tab : List zE) (mc ms na d : Nat), 10 ≤ d → sp j za w = some (rz, w2) → P[j]? = some (y, cc, maxL, ret, tab, mc, ms, na) → z_Met EX l TB NT kc D cl xb env y cc maxL ret (z_rm d mc ms) za w rz w2 mc ms
theorem z_meets {EX : (Nat → Prop) → State → Heap → Prop} {l : Launch} {TB : List Cond} {NT : List (String × Nat × MethodName × String)} {cl : List vw_C} {kc : Nat → ClassId} {D : va_G} {xb : Nat} {env : Nat → Int32} {B : List (Int × Int)} {TF : Nat → Nat → FieldType} {DF : Nat → List zV} {sp : Nat → List zV → zW → Option (Option zV × zW)} {P : List zM} {n d pcr mc ms na : Nat} {y : MethodName} {cc : ByteArray} {maxL : Nat} {ret : Option FieldType} {tab : List zE} {za : List zV} {w : zW} {zr : zS} {rz : Option zV}
    (hH : z_H EX l TB NT cl kc D xb env B TF DF sp P n) (hM : z_Mok TB NT cl TF DF P (y, cc, maxL, ret, tab, mc, ms, na)) (hrun : z_run P B TF DF sp n none d mc ms (y, cc, maxL, ret, tab, mc, ms, na) 0 (z_ent 0 za, [], w, 0, 0) = some (pcr, zr)) (hres : z_res tab ret pcr zr.2.1 = some rz) (h1 : zr.2.2.2.1 ≤ mc) (h2 : zr.2.2.2.2 ≤ ms) (hL : (za.map z_cat).sum ≤ maxL) : z_Met EX l TB NT kc D cl xb env y cc maxL ret (z_rm d mc ms) za w rz zr.2.2.1 mc ms := by
  intro av ws0 sz hav hws
  refine Met.ofW (cc := cc) (maxL := maxL) (ret := ret) hM.1 rfl ?_
  intro p e s m args below meth c s₁ Bd hml hv
  obtain ⟨rfl, hsz, hP, hK, hD0, hN, hEx⟩ := hv
  subst hsz
  have hts0 := atoms_spec (ws := Cond.code y cc maxL ret :: TB) Bd.pre
  have hts : ∀ w ∈ TB, w.before av.toArray s = true := fun w hw => hts0 w (List.mem_cons_of_mem _ hw)
  have hown : s.vm.findClass y.cls = some m.cls := findClass_of_methodNamed Bd.named
  have hname : y.name = "<init>" → meth.name = "<init>" := fun h => (name_of_methodNamed Bd.named Bd.method).1.trans h
  have hsum : (lg_sl av).length ≤ maxL := by rw [z_sl_len, ← z_cats hav]; exact hL
  rw [lg_entry_eq]
  refine hH none d mc ms (y, cc, maxL, ret, tab, mc, ms, na) 0 _ pcr zr hrun hM p e _ s m av.toArray below meth c _ (va_A ws0 s.heap.size) s.heap (z_ad xb ws0) ⟨Bd.exec, Bd.bytes, hml, hown, hname, hts, hK, hN, fun q h => Or.inr h, Nat.le_refl _, Nat.le_refl _, Nat.le_refl _, Nat.le_refl _, rfl, hEx, fun _ h => by cases h⟩ (fun _ h => by cases h) ?_ _ [] ws0 s.heap [] ⟨⟨_, lv_entry av hsum, z_ent_ok 0 hav⟩, trivial, hws, fun _ _ h => h, hP, hD0.self, va_S.rf⟩
  obtain ⟨zl, st, w', nc, ns⟩ := zr
  dsimp only at hres h1 h2 ⊢
  unfold z_res at hres
  split at hres
  next hf =>
    split at hres
    next ty t =>
      split at hres
      next hfit =>
        cases hres
        exact z_iret Bd.exec Bd.bytes Bd.returns Bd.notSynchronized hfit h1 h2 (hM.2 _ (z_find_in hf)).1
      next => cases hres
    next => cases hres
  next hf =>
    split at hres
    next =>
      cases hres
      exact z_vret Bd.exec Bd.bytes Bd.returns Bd.notSynchronized h1 h2 (hM.2 _ (z_find_in hf)).1
    next => cases hres
  next hf =>
    split at hres
    next =>
      cases hres
      exact z_aret Bd.exec Bd.bytes Bd.returns Bd.notSynchronized h1 h2 (hM.2 _ (z_find_in hf)).1
    next => cases hres
  next => cases hres
theorem z_arg_st {k n ci : Nat} {st : List zV} {w : zW} {za rest : List zV} (h : z_arg k n ci st w = some (za, rest)) (hk : k ≠ 3) : ∃ (r : Nat) (zb : List zV), za = .inr (.inl (some (r + 1))) :: zb ∧ st = zb.reverse ++ .inr (.inl (some (r + 1))) :: rest ∧ zb.length = n ∧ (k ≠ 2 → ∃ fs, w[r]? = some (.inl (ci, fs))) := by
  unfold z_arg at h
  split at h
  next hn =>
    split at h
    next r rest' hdr =>
      have hst : st = (st.take n).reverse.reverse ++ .inr (.inl (some (r + 1))) :: rest' := by rw [List.reverse_reverse, ← hdr, List.take_append_drop]
      have hlen : (st.take n).reverse.length = n := by rw [List.length_reverse, List.length_take]; omega
      split at h
      next h2 =>
        cases h
        exact ⟨r, _, rfl, hst, hlen, fun q => absurd h2 q⟩
      next =>
        split at h
        next cj fs hw =>
          split at h
          next hc =>
            cases h
            subst hc
            exact ⟨r, _, rfl, hst, hlen, fun _ => ⟨fs, hw⟩⟩
          next => cases h
        next => cases h
    next => cases h
  next => cases h
theorem z_arg_s {n ci : Nat} {st : List zV} {w : zW} {za rest : List zV} (h : z_arg 3 n ci st w = some (za, rest)) : st = za.reverse ++ rest ∧ za.length = n := by
  unfold z_arg at h
  split at h
  next hn =>
    rw [if_pos rfl] at h
    cases h
    exact ⟨by rw [List.reverse_reverse, List.take_append_drop], by rw [List.length_reverse, List.length_take]; omega⟩
  next => cases h
theorem z_ck_1 {I : Instr} {inf : List Nat} {j ci : Nat} (h : z_ck I inf = some (1, j, ci)) : ∃ idx k, I = .invokevirtual idx ∧ inf = [k, j, ci] := by
  unfold z_ck at h
  split at h <;> cases h
  exact ⟨_, _, rfl, rfl⟩
theorem z_ck_2 {I : Instr} {inf : List Nat} {j ci : Nat} (h : z_ck I inf = some (2, j, ci)) : ∃ idx k, I = .invokespecial idx ∧ inf = [k, j] := by
  unfold z_ck at h
  split at h <;> cases h
  exact ⟨_, _, rfl, rfl⟩
theorem z_ck_3 {I : Instr} {inf : List Nat} {j ci : Nat} (h : z_ck I inf = some (3, j, ci)) : ∃ idx k, I = .invokestatic idx ∧ inf = [k, j] := by
  unfold z_ck at h
  split at h <;> cases h
  exact ⟨_, _, rfl, rfl⟩
theorem z_ck_k {I : Instr} {inf : List Nat} {k j ci : Nat} (h : z_ck I inf = some (k, j, ci)) : k = 1 ∨ k = 2 ∨ k = 3 := by
  unfold z_ck at h
  split at h <;> cases h
  · exact Or.inl rfl
  · exact Or.inr (Or.inl rfl)
  · exact Or.inr (Or.inr rfl)
section ZQ
variable {p : Program} {l : Launch} {e : Env} {R : Room} {s : State} {m : MethodId} {args : Array Value} {below : List Frame} {meth : Method} {c : Code} {Q : State → Prop} {cc : ByteArray}
variable {xb : Nat} {env : Nat → Int32} {kc : Nat → ClassId} {D : va_G} {cl : List vw_C} {A : Nat → Prop} {H0 : Heap} {ad0 : Nat → Option Nat} {nL : Nat} {B : List (Int × Int)}
theorem z_scr_ok (hx : p.tables.exec = Jvm.exec) (hb : c.code = cc) {TB : List Cond} {NT : List (String × Nat × MethodName × String)} {TF : Nat → Nat → FieldType} {DF : Nat → List zV} {P : List zM} {y : MethodName} {Ls : Option (Nat ⊕ List Int32)} {I : Instr} {inf : List Nat} {pc pc' : Nat} {z z' : zS} (hB : z_B B env) (hLs : ∀ L, Ls = some (.inl L) → va_X xb L env s s.heap ∧ xb < s.heap.size ∧ ¬ A xb ∧ H0 = s.heap) (hstr : ∀ bs, Ls = some (.inr bs) → z_STR p l e R s m args below meth c Q xb env kc D cl A H0 ad0 nL cc bs) (hen : z_en TB NT cl TF DF P y cc (pc, I, inf)) (h : z_scr B Ls I inf pc z = some (pc', z')) (kk : z_G p l e R s m args below meth c Q xb env kc D cl A H0 ad0 nL pc' z') : z_G p l e R s m args below meth c Q xb env kc D cl A H0 ad0 nL pc z := by
  obtain ⟨hd, hen⟩ := hen
  dsimp only at hd hen
  unfold z_scr at h
  split at h
  next L zl rest w nc ns =>
    cases h
    obtain ⟨hX, hbl, hbA, rfl⟩ := hLs L rfl
    intro ls sv ws H locs ⟨h1, h2, h3, h6, hP, hD, hS⟩
    obtain ⟨_, sv', rfl, ⟨a, ha, rfl⟩, h4⟩ := z_st1 h2
    obtain rfl : a = xb := (Option.some.inj ha).symm
    refine va_slen hx hb hX hbl hbA hS hd ?_
    exact kk ls _ ws H locs ⟨h1, ⟨⟨_, rfl, rfl⟩, h4⟩, h3, h6, hP, hD, hS⟩
  next L zl t rest w nc ns =>
    split at h
    next k hk =>
      cases h
      obtain ⟨hX, hbl, hbA, rfl⟩ := hLs L rfl
      intro ls sv ws H locs ⟨h1, h2, h3, h6, hP, hD, hS⟩
      obtain ⟨_, sv', rfl, ⟨y, rfl, hy⟩, h4⟩ := z_st1 h2
      obtain ⟨_, sv'', rfl, ⟨a, ha, rfl⟩, h5⟩ := z_st1 h4
      obtain rfl : a = xb := (Option.some.inj ha).symm
      obtain ⟨hi1, hi2, hi3⟩ := z_ix_ok hB hy hk
      refine va_sld hx hb hX hbl hbA hS hi1 hd ?_
      rw [hi2]
      have hk0 : z_i env (.inr (k, 0)) (env k) := (Int32.add_zero _).symm
      have hr := z_rng_ok hB hk0
      refine kk ls _ ws H locs ⟨h1, ⟨⟨_, rfl, ?_⟩, h5⟩, h3, h6, hP, hD, hS⟩
      split
      next heq =>
        show env k = Int32.ofInt _
        rw [← Int32.ofInt_toInt (env k), show (env k).toInt = (z_rng B (.inr (k, 0))).1 by omega]
      next => exact hk0
    next => cases h
  next bs idx zl st w nc ns =>
    cases h
    obtain rfl : idx = 19 := hen
    exact (hstr bs rfl pc zl st w nc ns).1 hd kk
  next bs idx zl rest w nc ns =>
    split at h
    next hc =>
      cases h
      obtain ⟨rfl, hs⟩ := hc
      rcases hen with (hi | ⟨_, rfl⟩ | ⟨hi, _⟩) | ⟨_, _, _, _, _, _, _, _, _, _, _, _, hi, _⟩
      · cases hi
      · exact (hstr bs rfl pc zl rest w nc ns).2.1 hd hs kk
      · cases hi
      · cases hi
    next => cases h
  next bs idx zl t rest w nc ns =>
    split at h
    next hc =>
      obtain ⟨rfl, hs⟩ := hc
      split at h
      next k hk =>
        split at h
        next v hv =>
          cases h
          rcases hen with (hi | ⟨hi, _⟩ | ⟨_, rfl⟩) | ⟨_, _, _, _, _, _, _, _, _, _, _, _, hi, _⟩
          · cases hi
          · cases hi
          · exact (hstr bs rfl pc zl rest w nc ns).2.2 t k v hd hs hv (fun x hx1 => ⟨(z_ix_ok hB hx1 hk).1, (z_ix_ok hB hx1 hk).2.1⟩) kk
          · cases hi
        next => cases h
      next => cases h
    next => cases h
  next => cases h
end ZQ
set_option maxHeartbeats 4000000 in
theorem z_run_ok {EX : (Nat → Prop) → State → Heap → Prop} (hE : z_EX EX) {l : Launch} {TB : List Cond} {NT : List (String × Nat × MethodName × String)} {cl : List vw_C} {kc : Nat → ClassId} {D : va_G} {xb : Nat} {env : Nat → Int32} {B : List (Int × Int)} {TF : Nat → Nat → FieldType} {DF : Nat → List zV} {sp : Nat → List zV → zW → Option (Option zV × zW)} {P : List zM} (hB : z_B B env) (hall : z_all TB NT cl TF DF P) (hsp : z_spok EX l TB NT kc D cl xb env sp P) : ∀ n, z_H EX l TB NT cl kc D xb env B TF DF sp P n := by
  intro n
  induction n with
  | zero =>
    intro Ls d C S M pc z pc' z' h
    simp only [z_run] at h
    cases h
  | succ n ih =>
    intro Ls d C S M pc z pc' z' h hM p e R s m args below meth c Q A H0 ad0 hctx hstr kk
    obtain ⟨hx, hb, hml, hown, hname, hts, hK, hN, hA, hfr, hlo, hC, hS, hH0, hEx, hLs⟩ := id hctx
    unfold z_run at h
    split at h
    next => cases h
    next I inf hf =>
      have hen := hM.2 _ (z_find_in hf)
      split at h
      next =>
        cases h
        exact kk
      next =>
        split at h
        next k j ci hck =>
          split at h
          next d' M2 hj =>
            split at h
            next za rest harg =>
              obtain ⟨y2, c2, L2, r2, t2, mc, ms, na⟩ := M2
              obtain ⟨zl, st, w, nc, ns⟩ := z
              dsimp only at h harg hf
              have hgo : ∀ (rz : Option zV) (w2 : zW), z_Met EX l TB NT kc D cl xb env y2 c2 L2 r2 (z_rm d' mc ms) za w rz w2 mc ms → (r2 = none → rz = none) → nc + mc ≤ C → ns + ms ≤ S → (rest.map z_cat).sum ≤ 8 → L2 ≤ 80 → z_run P B TF DF sp n Ls (d' + 1) C S M (pc + 3) (zl, rz.toList ++ rest, w2, nc + mc, ns + ms) = some (pc', z') → z_G p l e R s m args below meth c Q xb env kc D cl A H0 ad0 M.2.2.1 pc (zl, st, w, nc, ns) := by
                intro rz w2 hmet hrn g3 g4 g5 g7 h
                have kk2 := ih _ _ _ _ _ _ _ _ _ h hM p e R s m args below meth c Q A H0 ad0 hctx hstr kk
                have hR : (z_rm d' mc ms).frames + 1 ≤ R.frames ∧ 8 + (L2 + 11) + (z_rm d' mc ms).locals ≤ R.locals := by
                  unfold z_rm
                  dsimp only
                  omega
                rcases z_ck_k hck with rfl | rfl | rfl
                · obtain ⟨idx, k0, rfl, rfl⟩ := z_ck_1 hck
                  obtain ⟨hd, hen⟩ := hen
                  rcases hen with (hi | ⟨hi, _⟩ | ⟨hi, _⟩) | ⟨j', ci', y2', c2', L2', r2', t2', mc', ms', na', T, N, hi, hj', hY, hl, hin, hsel, hcl⟩
                  · cases hi
                  · cases hi
                  · cases hi
                  cases hi
                  rw [hj] at hj'
                  cases hj'
                  obtain ⟨r, zb, rfl, rfl, hzb, hw⟩ := z_arg_st harg (by decide)
                  obtain ⟨fs, hw⟩ := hw (by decide)
                  exact z_callV hx hb hall.1 hts hown hml hK hN (hH0 ▸ hA) hE hEx hH0 hY hl hin hsel hcl hw hmet rfl rfl hR hzb g5 hd ⟨by omega, by omega⟩ kk2
                · obtain ⟨idx, k0, rfl, rfl⟩ := z_ck_2 hck
                  obtain ⟨hd, hen⟩ := hen
                  rcases hen with hi | ⟨hi, _⟩ | ⟨j', y2', c2', L2', t2', mc', ms', na', hi, hj', hY, hl, hin, hni⟩
                  · cases hi
                  · cases hi
                  cases hi
                  rw [hj] at hj'
                  cases hj'
                  obtain ⟨r, zb, rfl, rfl, hzb, _⟩ := z_arg_st harg (by decide)
                  obtain rfl : rz = none := hrn rfl
                  exact z_callI hx hb hall.1 hts hown hml hK hN (hH0 ▸ hA) hE hEx hH0 hY hl hin hni hmet rfl rfl hR hzb g5 hd ⟨by omega, by omega⟩ kk2
                · obtain ⟨idx, k0, rfl, rfl⟩ := z_ck_3 hck
                  obtain ⟨hd, hen⟩ := hen
                  rcases hen with hi | ⟨hi, _⟩ | ⟨hi, _⟩ | ⟨j', y2', c2', L2', r2', t2', mc', ms', na', hi, hj', hY, hl, hsta⟩
                  · cases hi
                  · cases hi
                  · cases hi
                  cases hi
                  rw [hj] at hj'
                  cases hj'
                  obtain ⟨rfl, hzb⟩ := z_arg_s harg
                  exact z_callS hx hb hall.1 hts hown hml hK hN (hH0 ▸ hA) hE hEx hH0 hY hl hsta hmet rfl rfl hR hzb g5 hd ⟨by omega, by omega⟩ kk2
              split at h
              next rz w2 hz =>
                obtain ⟨s1, s2, s3, s4, s5, s6, s7⟩ := z_sp_ok hz
                exact hgo rz w2 (hsp j za w rz w2 y2 c2 L2 r2 t2 mc ms na d' s1 s6 hj) s7 s2 s3 s4 s5 h
              next =>
                split at h
                next pcr zr hrun =>
                  split at h
                  next rz hfin =>
                    unfold z_fin at hfin
                    split at hfin
                    next hcs =>
                      dsimp only at hcs hfin
                      obtain ⟨g1, g2, g3, g4, g5, g6, g7⟩ := hcs
                      refine hgo rz zr.2.2.1 (z_meets ih (hall.2.2.2 j _ hj) hrun hfin g1 g2 g6) (fun hr => ?_) g3 g4 g5 g7 h
                      subst hr
                      unfold z_res at hfin
                      split at hfin
                      · split at hfin <;> first | contradiction | cases hfin
                      · split at hfin
                        next => cases hfin; rfl
                        next => cases hfin
                      · split at hfin <;> first | contradiction | cases hfin
                      · cases hfin
                    next => cases hfin
                  next => cases h
                next => cases h
            next => cases h
          next => cases h
        next =>
          split at h
          next pc2 z2 hx2 =>
            have kk2 := ih _ _ _ _ _ _ _ _ _ h hM p e R s m args below meth c Q A H0 ad0 hctx hstr kk
            exact z_scr_ok hx hb hB hLs hstr hen hx2 kk2
          next =>
           split at h
           next pc2 z2 hx2 =>
            have kk2 := ih _ _ _ _ _ _ _ _ _ h hM p e R s m args below meth c Q A H0 ad0 hctx hstr kk
            exact z_x_ok hx hb hB hml hown hname hts hK hN hA (by omega) (by omega) hC hS hall.2.1 hall.2.2.1 hen hx2 kk2
           next => cases h

/-! ===== rows of the tables ===== -/
def z_simple (I : Instr) : Bool := match I with
  | .ldc _ => false
  | .ldc2_w _ => false
  | .getfield _ => false
  | .putfield _ => false
  | .new _ => false
  | .newarray _ => false
  | .anewarray _ => false
  | .invokespecial _ => false
  | .invokestatic _ => false
  | .invokevirtual _ => false
  | _ => true
section ZE
variable {TB : List Cond} {NT : List (String × Nat × MethodName × String)} {cl : List vw_C} {TF : Nat → Nat → FieldType} {DF : Nat → List zV} {P : List zM} {y : MethodName} {cc : ByteArray} {pc : Nat}
theorem ze_s {I : Instr} {inf : List Nat} (hd : decode cc pc = .ok (I, z_len I inf)) (hs : z_simple I = true) : z_en TB NT cl TF DF P y cc (pc, I, inf) := by
  refine ⟨hd, ?_⟩
  cases I <;> first | trivial | (cases hs; done)
theorem ze_ldc (hd : decode cc pc = .ok (.ldc 19, 2)) : z_en TB NT cl TF DF P y cc (pc, .ldc 19, []) := ⟨hd, rfl⟩
theorem ze_len (hd : decode cc pc = .ok (.invokevirtual 21, 3)) : z_en TB NT cl TF DF P y cc (pc, .invokevirtual 21, [77]) := ⟨hd, Or.inl (Or.inr (Or.inl ⟨rfl, rfl⟩))⟩
theorem ze_cha (hd : decode cc pc = .ok (.invokevirtual 27, 3)) : z_en TB NT cl TF DF P y cc (pc, .invokevirtual 27, [78]) := ⟨hd, Or.inl (Or.inr (Or.inr ⟨rfl, rfl⟩))⟩
theorem ze_ldc2 {idx : Nat} {v : Int64} (hd : decode cc pc = .ok (.ldc2_w idx, 3)) (h : Cond.constantLong y.cls idx v ∈ TB) : z_en TB NT cl TF DF P y cc (pc, .ldc2_w idx, []) := ⟨hd, v, h⟩
theorem ze_get {idx ci k N : Nat} {C : String} {T : u_T} (hd : decode cc pc = .ok (.getfield idx, 3)) (hK : z_K TB cl TF ci C T N) (hk : k < N) (hl : Cond.fieldLink y.cls idx (T k).1 (T k).2.1 (T k).2.2.1 ∈ TB) : z_en TB NT cl TF DF P y cc (pc, .getfield idx, [ci, k]) := ⟨hd, ci, k, C, T, N, rfl, hK, hk, hl⟩
theorem ze_put {idx ci k N : Nat} {C : String} {T : u_T} (hd : decode cc pc = .ok (.putfield idx, 3)) (hK : z_K TB cl TF ci C T N) (hk : k < N) (hl : Cond.fieldLink y.cls idx (T k).1 (T k).2.1 (T k).2.2.1 ∈ TB) (hf : (T k).2.2.2 = false ∨ ((T k).2.2.2 = true ∧ y.name = "<init>" ∧ (T k).1 = y.cls)) : z_en TB NT cl TF DF P y cc (pc, .putfield idx, [ci, k]) := ⟨hd, ci, k, C, T, N, rfl, hK, hk, hl, hf⟩
theorem ze_new {idx ci N : Nat} {C : String} {T : u_T} (hd : decode cc pc = .ok (.new idx, 3)) (hK : z_K TB cl TF ci C T N) (h1 : Cond.classLink y.cls idx C ∈ TB) (h2 : Cond.instantiable C N ∈ TB) (h3 : Cond.initialized C ∈ TB) (h4 : (DF ci).all z_dok = true) (h5 : ∀ j, j < N → defaultValue (TF ci j) = vp_V ((DF ci).map z_dv) j) : z_en TB NT cl TF DF P y cc (pc, .new idx, [ci, N]) := ⟨hd, ci, C, T, N, rfl, hK, h1, h2, h3, h4, h5⟩
theorem ze_newa {at0 : ArrayType} (hd : decode cc pc = .ok (.newarray at0, 2)) (h : Cond.arrayClass (newarray.typeOf at0) ∈ TB) : z_en TB NT cl TF DF P y cc (pc, .newarray at0, []) := ⟨hd, h⟩
theorem ze_newr {idx kt : Nat} {C : String} (hd : decode cc pc = .ok (.anewarray idx, 3)) (h : Cond.classLink y.cls idx C ∈ TB) (hk : (kt = 4 ∧ C = "HeldCoats$State") ∨ (kt = 5 ∧ C = "HeldCoats$Image")) : z_en TB NT cl TF DF P y cc (pc, .anewarray idx, [kt]) := ⟨hd, kt, C, rfl, h, hk⟩
theorem ze_oi {idx : Nat} (hd : decode cc pc = .ok (.invokespecial idx, 3)) (h1 : Cond.methodLink y.cls idx Lib.objectInit ∈ TB) (h2 : Cond.instanceMethod Lib.objectInit ∈ TB) (h3 : Cond.code Lib.objectInit ⟨#[0xb1]⟩ 1 none ∈ TB) : z_en TB NT cl TF DF P y cc (pc, .invokespecial idx, [0]) := ⟨hd, Or.inr (Or.inl ⟨rfl, h1, h2, h3⟩)⟩
theorem ze_ci {idx j L2 mc ms n : Nat} {y2 : MethodName} {c2 : ByteArray} {t2 : List zE} (hd : decode cc pc = .ok (.invokespecial idx, 3)) (hj : P[j]? = some (y2, c2, L2, none, t2, mc, ms, n)) (hY : z_Y TB y2 c2 L2 n none) (hl : Cond.methodLink y.cls idx y2 ∈ TB ∨ ∃ host, (y.cls, idx, y2, host) ∈ NT) (hi : Cond.instanceMethod y2 ∈ TB) (hn : y2.name = "<init>") : z_en TB NT cl TF DF P y cc (pc, .invokespecial idx, [1, j]) := ⟨hd, Or.inr (Or.inr ⟨j, y2, c2, L2, t2, mc, ms, n, rfl, hj, hY, hl, hi, hn⟩)⟩
theorem ze_cp {idx : Nat} (hd : decode cc pc = .ok (.invokestatic idx, 3)) (h1 : Cond.methodLink y.cls idx arraycopyName ∈ TB) (h2 : Cond.native arraycopyName ∈ TB) (h3 : Cond.static arraycopyName ∈ TB) (h4 : Cond.initialized "java/lang/System" ∈ TB) : z_en TB NT cl TF DF P y cc (pc, .invokestatic idx, [0]) := ⟨hd, Or.inr (Or.inr (Or.inl ⟨rfl, h1, h2, h3, h4⟩))⟩
theorem ze_cs {idx j L2 mc ms n : Nat} {y2 : MethodName} {c2 : ByteArray} {r2 : Option FieldType} {t2 : List zE} (hd : decode cc pc = .ok (.invokestatic idx, 3)) (hj : P[j]? = some (y2, c2, L2, r2, t2, mc, ms, n)) (hY : z_Y TB y2 c2 L2 n r2) (hl : Cond.methodLink y.cls idx y2 ∈ TB ∨ ∃ host, (y.cls, idx, y2, host) ∈ NT) (hs : Cond.static y2 ∈ TB) : z_en TB NT cl TF DF P y cc (pc, .invokestatic idx, [1, j]) := ⟨hd, Or.inr (Or.inr (Or.inr ⟨j, y2, c2, L2, r2, t2, mc, ms, n, rfl, hj, hY, hl, hs⟩))⟩
theorem ze_mn {idx : Nat} (hd : decode cc pc = .ok (.invokestatic idx, 3)) (h1 : Cond.methodLink y.cls idx Lib.Math.min.name ∈ TB) (h2 : Cond.static Lib.Math.min.name ∈ TB) (h3 : Cond.initialized "java/lang/Math" ∈ TB) (h4 : Cond.code Lib.Math.min.name Lib.Math.min.code 2 (some .int) ∈ TB) : z_en TB NT cl TF DF P y cc (pc, .invokestatic idx, [2]) := ⟨hd, Or.inr (Or.inl ⟨rfl, h1, h2, h3, h4⟩)⟩
theorem ze_cv {idx j ci L2 mc ms n N : Nat} {y2 : MethodName} {c2 : ByteArray} {r2 : Option FieldType} {t2 : List zE} {T : u_T} (hd : decode cc pc = .ok (.invokevirtual idx, 3)) (hj : P[j]? = some (y2, c2, L2, r2, t2, mc, ms, n)) (hY : z_Y TB y2 c2 L2 n r2) (hl : Cond.methodLink y.cls idx y2 ∈ TB ∨ ∃ host, (y.cls, idx, y2, host) ∈ NT) (hi : Cond.instanceMethod y2 ∈ TB) (hs : Cond.selects y2.cls y2 y2 ∈ TB) (hc : cl[ci]? = some (y2.cls, T, N)) : z_en TB NT cl TF DF P y cc (pc, .invokevirtual idx, [1, j, ci]) := ⟨hd, Or.inr ⟨j, ci, y2, c2, L2, r2, t2, mc, ms, n, T, N, rfl, hj, hY, hl, hi, hs, hc⟩⟩
theorem ze_xi {idx : Nat} (hd : decode cc pc = .ok (.invokespecial idx, 3)) : z_en TB NT cl TF DF P y cc (pc, .invokespecial idx, [9999]) := ⟨hd, Or.inl rfl⟩
theorem ze_xs {idx : Nat} (hd : decode cc pc = .ok (.invokestatic idx, 3)) : z_en TB NT cl TF DF P y cc (pc, .invokestatic idx, [9999]) := ⟨hd, Or.inl rfl⟩
end ZE
theorem z_fields {TB : List Cond} {C : String} {T : u_T} {N : Nat} (h : ∀ k, k < N → u_lay C T k ∈ TB) : ∀ w ∈ u_ws C T N, w ∈ TB := by
  intro w hw
  obtain ⟨k, hk, rfl⟩ := List.mem_map.mp hw
  exact h k (List.mem_range.mp hk)
end
section
/-! ===== from one set of signs to a wider one; a counted loop ===== -/
def z_leL {α β : Type} (g : α → β → Bool) : List α → List β → Bool
  | [], [] => true
  | a :: as, b :: bs => g a b && z_leL g as bs
  | _, _ => false
def z_leV (f : zI → zI → Bool) (a b : zV) : Bool := match a, b with
  | .inl t, .inl u => f t u
  | .inr (.inl i), .inr (.inl j) => i == j
  | .inr (.inr _), .inr (.inr _) => true
  | _, _ => false
def z_leC (f : zI → zI → Bool) (a b : zC) : Bool := match a, b with
  | .inl (ci, fs), .inl (cj, gs) => ci == cj && z_leL (z_leV f) fs gs
  | .inr (.inl (k, es)), .inr (.inl (k', es')) => k == k' && z_leL f es es'
  | .inr (.inr (.inl n)), .inr (.inr (.inl n')) => n == n'
  | .inr (.inr (.inr (k, es))), .inr (.inr (.inr (k', es'))) => k == k' && es == es'
  | _, _ => false
def z_leS (f : zI → zI → Bool) (a b : zS) : Bool := z_leL (fun x y => x.1 == y.1 && z_leV f x.2 y.2) a.1 b.1 && z_leL (z_leV f) a.2.1 b.2.1 && z_leL (z_leC f) a.2.2.1 b.2.2.1 && a.2.2.2.1 == b.2.2.2.1 && a.2.2.2.2 == b.2.2.2.2
theorem z_leL_ok {α β γ : Type} {g : α → β → Bool} {R0 : α → γ → Prop} {S0 : β → γ → Prop} (h : ∀ a b x, g a b = true → R0 a x → S0 b x) : ∀ {as : List α} {bs : List β} {xs : List γ}, z_leL g as bs = true → z_L R0 as xs → z_L S0 bs xs
  | [], [], [], _, _ => trivial
  | a :: as, b :: bs, x :: xs, hg, hr => by
    unfold z_leL at hg
    rw [Bool.and_eq_true] at hg
    exact ⟨h a b x hg.1 hr.1, z_leL_ok h hg.2 hr.2⟩
  | [], [], _ :: _, _, hr => hr.elim
  | _ :: _, _ :: _, [], _, hr => hr.elim
  | [], _ :: _, _, hg, _ => by simp [z_leL] at hg
  | _ :: _, [], _, hg, _ => by simp [z_leL] at hg
theorem z_leL_len {α β : Type} {g : α → β → Bool} : ∀ {as : List α} {bs : List β}, z_leL g as bs = true → as.length = bs.length
  | [], [], _ => rfl
  | _ :: _, _ :: _, h => by
    unfold z_leL at h
    rw [Bool.and_eq_true] at h
    exact congrArg (· + 1) (z_leL_len h.2)
  | [], _ :: _, h => by simp [z_leL] at h
  | _ :: _, [], h => by simp [z_leL] at h
theorem z_leL_get {α β : Type} {g : α → β → Bool} : ∀ {as : List α} {bs : List β}, z_leL g as bs = true → ∀ {j : Nat} {b : β}, bs[j]? = some b → ∃ a, as[j]? = some a ∧ g a b = true
  | [], [], _, j, b, e => by simp at e
  | a :: as, b :: bs, h, 0, b', e => by
    unfold z_leL at h
    rw [Bool.and_eq_true] at h
    simp only [List.getElem?_cons_zero, Option.some.injEq] at e ⊢
    subst e
    exact ⟨a, rfl, h.1⟩
  | a :: as, b :: bs, h, j + 1, b', e => by
    unfold z_leL at h
    rw [Bool.and_eq_true] at h
    simp only [List.getElem?_cons_succ] at e ⊢
    exact z_leL_get h.2 e
  | [], _ :: _, h, _, _, _ => by simp [z_leL] at h
  | _ :: _, [], h, _, _, _ => by simp [z_leL] at h
theorem z_leV_ok {env env' : Nat → Int32} {ad : Nat → Option Nat} {f : zI → zI → Bool} (hf : ∀ t u x, f t u = true → z_i env t x → z_i env' u x) (a b : zV) (x : Value) (h : z_leV f a b = true) (hv : z_v env ad a x) : z_v env' ad b x := by
  unfold z_leV at h
  split at h
  next => obtain ⟨y, rfl, hy⟩ := hv; exact ⟨y, rfl, hf _ _ _ h hy⟩
  next i j =>
    have : i = j := by simpa using h
    subst this
    cases i with
    | none => exact hv
    | some i => exact hv
  next => exact hv
  next => cases h
theorem z_leC_ok {env env' : Nat → Int32} {kc : Nat → ClassId} {ad : Nat → Option Nat} {f : zI → zI → Bool} (hf : ∀ t u x, f t u = true → z_i env t x → z_i env' u x) (a b : zC) (q : va_E) (h : z_leC f a b = true) (hc : z_c env kc ad a q) : z_c env' kc ad b q := by
  unfold z_leC at h
  split at h
  next ci fs cj gs =>
    rw [Bool.and_eq_true, beq_iff_eq] at h
    obtain ⟨rfl, h2⟩ := h
    obtain ⟨vs, rfl, hvs⟩ := hc
    exact ⟨vs, rfl, z_leL_ok (z_leV_ok hf) h2 hvs⟩
  next k es k' es' =>
    rw [Bool.and_eq_true, beq_iff_eq] at h
    obtain ⟨rfl, h2⟩ := h
    obtain ⟨g, rfl, hg⟩ := hc
    refine ⟨g, by rw [z_leL_len h2], fun j y hj => ?_⟩
    obtain ⟨t, ht, hty⟩ := z_leL_get h2 hj
    exact hf _ _ _ hty (hg j t ht)
  next =>
    rw [beq_iff_eq] at h
    subst h
    exact hc
  next k es k' es' =>
    rw [Bool.and_eq_true, beq_iff_eq, beq_iff_eq] at h
    obtain ⟨rfl, rfl⟩ := h
    exact hc
  next => cases h
theorem z_leS_ok {xb : Nat} {env env' : Nat → Int32} {kc : Nat → ClassId} {D : va_G} {cl : List vw_C} {A : Nat → Prop} {H0 : Heap} {ad0 : Nat → Option Nat} {nL : Nat} {f : zI → zI → Bool} (hf : ∀ t u x, f t u = true → z_i env t x → z_i env' u x) {a b : zS} (h : z_leS f a b = true) {ls : Array Slot} {sv : List Value} {ws : va_W} {H : Heap} {locs : List Loc} (hs : z_S xb env kc D cl A H0 ad0 nL a ls sv ws H locs) : z_S xb env' kc D cl A H0 ad0 nL b ls sv ws H locs := by
  unfold z_leS at h
  simp only [Bool.and_eq_true] at h
  obtain ⟨⟨⟨⟨h1, h2⟩, h3⟩, _⟩, _⟩ := h
  obtain ⟨⟨lv, g1, g2⟩, g3, g4, g5⟩ := hs
  refine ⟨⟨lv, g1, z_leL_ok (fun a b x hab hr => ?_) h1 g2⟩, z_leL_ok (z_leV_ok hf) h2 g3, z_leL_ok (fun a b x hab hr => z_leC_ok hf a b x.2 hab hr) h3 g4, g5⟩
  rw [Bool.and_eq_true, beq_iff_eq] at hab
  exact ⟨hab.1.symm.trans hr.1, z_leV_ok hf _ _ _ hab.2 hr.2⟩
theorem z_leS_n {f : zI → zI → Bool} {a b : zS} (h : z_leS f a b = true) : a.2.2.2.1 = b.2.2.2.1 ∧ a.2.2.2.2 = b.2.2.2.2 := by
  unfold z_leS at h
  simp only [Bool.and_eq_true, beq_iff_eq] at h
  exact ⟨h.1.2, h.2⟩
/-- the number 6 counts the loop's rounds -/
def z_not6 (t : zI) : Bool := match t with
  | .inr (i, _) => i != 6
  | _ => true
def z_fin1 (t u : zI) : Bool := decide (u = .inl none) || (decide (t = u) && z_not6 t) || (decide (t = .inl (some 1)) && decide (u = .inr (6, 0)))
def z_fback (t u : zI) : Bool := decide (u = .inl none) || (decide (t = u) && z_not6 t) || (decide (t = .inr (6, 1)) && decide (u = .inr (6, 0)))
def z_fout (t u : zI) : Bool := decide (u = .inl none) || (decide (t = u) && z_not6 t) || (decide (t = .inr (6, 0)) && decide (u = .inr (1, 0)))
def z_ek (env : Nat → Int32) (k : Nat) : Nat → Int32 := fun i => if i = 6 then Int32.ofNat k else env i
theorem z_not6_ok {env env' : Nat → Int32} (he : ∀ i, i ≠ 6 → env' i = env i) {t : zI} {x : Int32} (h : z_not6 t = true) (hx : z_i env t x) : z_i env' t x := by
  match t, h, hx with
  | .inl (some _), _, hx => exact hx
  | .inl none, _, _ => trivial
  | .inr (i, c), h, hx =>
    have hi : i ≠ 6 := by simpa [z_not6] using h
    show x = env' i + c
    rw [he i hi]
    exact hx
theorem z_fout_ok (env : Nat → Int32) (k : Nat) (hk : Int32.ofNat k = env 1) (t u : zI) (x : Int32) (h : z_fout t u = true) (hx : z_i (z_ek env k) t x) : z_i env u x := by
  simp only [z_fout, Bool.or_eq_true, Bool.and_eq_true, decide_eq_true_eq] at h
  rcases h with (rfl | ⟨rfl, h⟩) | ⟨rfl, rfl⟩
  · trivial
  · exact z_not6_ok (fun i hi => by simp [z_ek, hi]) h hx
  · show x = env 1 + 0
    rw [← hk]
    exact hx
theorem z_fin1_ok (env : Nat → Int32) (t u : zI) (x : Int32) (h : z_fin1 t u = true) (hx : z_i env t x) : z_i (z_ek env 1) u x := by
  simp only [z_fin1, Bool.or_eq_true, Bool.and_eq_true, decide_eq_true_eq] at h
  rcases h with (rfl | ⟨rfl, h⟩) | ⟨rfl, rfl⟩
  · trivial
  · exact z_not6_ok (fun i hi => by simp [z_ek, hi]) h hx
  · show x = z_ek env 1 6 + 0
    rw [show x = 1 from hx]
    rfl
theorem z_fback_ok (env : Nat → Int32) (k : Nat) (t u : zI) (x : Int32) (h : z_fback t u = true) (hx : z_i (z_ek env k) t x) : z_i (z_ek env (k + 1)) u x := by
  simp only [z_fback, Bool.or_eq_true, Bool.and_eq_true, decide_eq_true_eq] at h
  rcases h with (rfl | ⟨rfl, h⟩) | ⟨rfl, rfl⟩
  · trivial
  · exact z_not6_ok (fun i hi => by simp [z_ek, hi]) h hx
  · show x = Int32.ofNat (k + 1) + 0
    rw [show x = Int32.ofNat k + 1 from hx, Int32.add_zero]
    exact (nI_1 k)
section ZW
variable {p : Program} {l : Launch} {e : Env} {R : Room} {s : State} {m : MethodId} {args : Array Value} {below : List Frame} {meth : Method} {c : Code} {Q : State → Prop} {cc : ByteArray}
variable {xb : Nat} {env : Nat → Int32} {kc : Nat → ClassId} {D : va_G} {cl : List vw_C} {A : Nat → Prop} {H0 : Heap} {ad0 : Nat → Option Nat} {nL : Nat}
variable {zl : List (Nat × zV)} {st : List zV} {w : zW} {nc ns pc : Nat}
theorem z_wide {env' : Nat → Int32} {f : zI → zI → Bool} (hf : ∀ t u x, f t u = true → z_i env t x → z_i env' u x) {a b : zS} (h : z_leS f a b = true) (kk : z_G p l e R s m args below meth c Q xb env' kc D cl A H0 ad0 nL pc b) : z_G p l e R s m args below meth c Q xb env kc D cl A H0 ad0 nL pc a := by
  intro ls sv ws H locs hs
  rw [(z_leS_n h).1, (z_leS_n h).2]
  exact kk ls sv ws H locs (z_leS_ok hf h hs)
theorem z_geenv (hx : p.tables.exec = Jvm.exec) (hb : c.code = cc) {i j tgt : Nat} {off : Int} (hd : decode cc pc = .ok (.if_icmp .ge off, 3)) (ht : (pc : Int) + off = (tgt : Int)) (kt : env j ≤ env i → z_G p l e R s m args below meth c Q xb env kc D cl A H0 ad0 nL tgt (zl, st, w, nc, ns)) (kf : ¬ env j ≤ env i → z_G p l e R s m args below meth c Q xb env kc D cl A H0 ad0 nL (pc + 3) (zl, st, w, nc, ns)) : z_G p l e R s m args below meth c Q xb env kc D cl A H0 ad0 nL pc (zl, .inl (.inr (j, 0)) :: .inl (.inr (i, 0)) :: st, w, nc, ns) := by
  intro ls sv ws H locs ⟨h1, h2, h3⟩
  obtain ⟨_, sv', rfl, ⟨b, rfl, hy⟩, h4⟩ := z_st1 h2
  obtain ⟨_, sv'', rfl, ⟨a, rfl, ha⟩, h5⟩ := z_st1 h4
  obtain rfl : b = env j := hy.trans (Int32.add_zero _)
  obtain rfl : a = env i := ha.trans (Int32.add_zero _)
  exact lv_icmp_ge hx hb hd ht (fun h => kt h ls _ ws H locs ⟨h1, h5, h3⟩) (fun h => kf h ls _ ws H locs ⟨h1, h5, h3⟩)
end ZW
def z_no : Nat → List zV → zW → Option (Option zV × zW) := fun _ _ _ => none
theorem z_no_ok {EX : (Nat → Prop) → State → Heap → Prop} {l : Launch} {TB : List Cond} {NT : List (String × Nat × MethodName × String)} {kc : Nat → ClassId} {D : va_G} {cl : List vw_C} {xb : Nat} {env : Nat → Int32} {P : List zM} : z_spok EX l TB NT kc D cl xb env z_no P := fun _ _ _ _ _ _ _ _ _ _ _ _ _ _ _ h => by cases h
set_option maxHeartbeats 4000000 in
/-- a method whose loop runs while the number 6 is below the number 1 -/
theorem z_counted {EX : (Nat → Prop) → State → Heap → Prop} (hE : z_EX EX) {l : Launch} {TB : List Cond} {NT : List (String × Nat × MethodName × String)} {cl : List vw_C} {kc : Nat → ClassId} {D : va_G} {xb : Nat} {env : Nat → Int32} {b0 b2 b3 b4 b5 : Int × Int} {TF : Nat → Nat → FieldType} {DF : Nat → List zV} {P : List zM} {n0 n1 nb nx d d0 q tgt pcr na : Nat} {off : Int} {y : MethodName} {cc : ByteArray} {maxL : Nat} {ret : Option FieldType} {tab : List zE} {inf : List Nat} {za : List zV} {w : zW} {zl0 : List (Nat × zV)} {st0 : List zV} {w0 : zW} {x0 y0 : zI} {z1 zb zx : zS} {zlh : List (Nat × zV)} {sth : List zV} {wh : zW} {zlr : List (Nat × zV)} {str : List zV} {wr : zW} {rz : Option zV}
    (hB : z_B [b0, (1, 60), b2, b3, b4, b5] env) (hall : z_all TB NT cl TF DF P) (hM : z_Mok TB NT cl TF DF P (y, cc, maxL, ret, tab, 0, 0, na)) (hd : d0 ≤ d)
    (hq : z_find tab q = some (.if_icmp .ge off, inf)) (ht : z_tgt q off = some tgt)
    (r0 : z_run P [b0, (1, 60), b2, b3, b4, b5] TF DF z_no n0 none d0 0 0 (y, cc, maxL, ret, tab, 0, 0, na) 0 (z_ent 0 za, [], w, 0, 0) = some (q, (zl0, .inl y0 :: .inl x0 :: st0, w0, 0, 0))) (c0 : z_cond [b0, (1, 60), b2, b3, b4, b5] .ge x0 y0 = some false)
    (r1 : z_run P [b0, (1, 60), b2, b3, b4, b5] TF DF z_no n1 none d0 0 0 (y, cc, maxL, ret, tab, 0, 0, na) (q + 3) (zl0, st0, w0, 0, 0) = some (q, z1)) (e1 : z_leS z_fin1 z1 (zlh, .inl (.inr (1, 0)) :: .inl (.inr (6, 0)) :: sth, wh, 0, 0) = true)
    (rb : z_run P [b0, (1, 60), b2, b3, b4, b5, (1, 59)] TF DF z_no nb none d0 0 0 (y, cc, maxL, ret, tab, 0, 0, na) (q + 3) (zlh, sth, wh, 0, 0) = some (q, zb)) (eb : z_leS z_fback zb (zlh, .inl (.inr (1, 0)) :: .inl (.inr (6, 0)) :: sth, wh, 0, 0) = true)
    (rx : z_run P [b0, (1, 60), b2, b3, b4, b5, (1, 60)] TF DF z_no nx none d0 0 0 (y, cc, maxL, ret, tab, 0, 0, na) tgt (zlh, sth, wh, 0, 0) = some (pcr, zx)) (ex : z_leS z_fout zx (zlr, str, wr, 0, 0) = true) (hres : z_res tab ret pcr str = some rz) (hL : (za.map z_cat).sum ≤ maxL) : z_Met EX l TB NT kc D cl xb env y cc maxL ret (z_rm d 0 0) za w rz wr 0 0 := by
  intro av ws0 sz hav hws
  refine Met.ofW (cc := cc) (maxL := maxL) (ret := ret) hM.1 rfl ?_
  intro p e s m args below meth c s₁ Bd hml hv
  obtain ⟨rfl, hsz, hP, hK, hD0, hN, hEx⟩ := hv
  subst hsz
  have hts0 := atoms_spec (ws := Cond.code y cc maxL ret :: TB) Bd.pre
  have hts : ∀ w ∈ TB, w.before av.toArray s = true := fun w hw => hts0 w (List.mem_cons_of_mem _ hw)
  have hown : s.vm.findClass y.cls = some m.cls := findClass_of_methodNamed Bd.named
  have hname : y.name = "<init>" → meth.name = "<init>" := fun h => (name_of_methodNamed Bd.named Bd.method).1.trans h
  have hsum : (lg_sl av).length ≤ maxL := by rw [z_sl_len, ← z_cats hav]; exact hL
  have hctx : ∀ env' : Nat → Int32, z_ctx EX TB NT cl kc D p (headSpec (Cond.code y cc maxL ret :: TB) (z_rm d 0 0)).room s m av.toArray meth c (va_A ws0 s.heap.size) s.heap xb env' none d0 0 0 (y, cc, maxL, ret, tab, 0, 0, na) := fun env' => ⟨Bd.exec, Bd.bytes, hml, hown, hname, hts, hK, hN, fun q h => Or.inr h, by show d0 + 1 ≤ d + 1; omega, by show 100 * d0 + 100 ≤ 100 * d + 100; omega, Nat.le_refl _, Nat.le_refl _, rfl, hEx, fun _ h => by cases h⟩
  have hdq := (hM.2 _ (z_find_in hq)).1
  dsimp only at hdq
  have htq := z_tgt_ok ht
  rw [lg_entry_eq]
  -- the end
  have hend : ∀ k, Int32.ofNat k = env 1 → z_G p l e (headSpec (Cond.code y cc maxL ret :: TB) (z_rm d 0 0)).room s m av.toArray below meth c (MQ below (z_Qc xb env kc D cl ws0 s.heap.size wr rz) av.toArray s 0 0 (va_A ws0 s.heap.size)) xb (z_ek env k) kc D cl (va_A ws0 s.heap.size) s.heap (z_ad xb ws0) maxL pcr zx := by
    intro k hk
    refine z_wide (z_fout_ok env k hk) ex ?_
    unfold z_res at hres
    split at hres
    next hf =>
      split at hres
      next ty t =>
        split at hres
        next hfit =>
          cases hres
          exact z_iret Bd.exec Bd.bytes Bd.returns Bd.notSynchronized hfit (Nat.le_refl _) (Nat.le_refl _) (hM.2 _ (z_find_in hf)).1
        next => cases hres
      next => cases hres
    next hf =>
      split at hres
      next =>
        cases hres
        exact z_vret Bd.exec Bd.bytes Bd.returns Bd.notSynchronized (Nat.le_refl _) (Nat.le_refl _) (hM.2 _ (z_find_in hf)).1
      next => cases hres
    next hf =>
      split at hres
      next =>
        cases hres
        exact z_aret Bd.exec Bd.bytes Bd.returns Bd.notSynchronized (Nat.le_refl _) (Nat.le_refl _) (hM.2 _ (z_find_in hf)).1
      next => cases hres
    next => cases hres
  obtain ⟨hn1, hn2⟩ := hB 1 1 60 rfl
  have hBk : ∀ (k : Nat) (hi : Int), 1 ≤ k → (k : Int) ≤ hi → k ≤ 60 → z_B [b0, (1, 60), b2, b3, b4, b5, (1, hi)] (z_ek env k) := by
    intro k hi h1 h2 h3 i lo hi' hg
    match i, hg with
    | 0, hg => exact hB 0 lo hi' hg
    | 1, hg => exact hB 1 lo hi' hg
    | 2, hg => exact hB 2 lo hi' hg
    | 3, hg => exact hB 3 lo hi' hg
    | 4, hg => exact hB 4 lo hi' hg
    | 5, hg => exact hB 5 lo hi' hg
    | 6, hg =>
      cases hg
      show 1 ≤ (Int32.ofNat k).toInt ∧ (Int32.ofNat k).toInt ≤ hi
      rw [show (Int32.ofNat k).toInt = (k : Int) from nI_toInt (by omega)]
      omega
    | i + 7, hg => simp at hg
  have hloop : ∀ (j k : Nat), 1 ≤ k → (k : Int) + j = (env 1).toInt → z_G p l e (headSpec (Cond.code y cc maxL ret :: TB) (z_rm d 0 0)).room s m av.toArray below meth c (MQ below (z_Qc xb env kc D cl ws0 s.heap.size wr rz) av.toArray s 0 0 (va_A ws0 s.heap.size)) xb (z_ek env k) kc D cl (va_A ws0 s.heap.size) s.heap (z_ad xb ws0) maxL q (zlh, .inl (.inr (1, 0)) :: .inl (.inr (6, 0)) :: sth, wh, 0, 0) := by
    intro j
    induction j with
    | zero =>
      intro k h1 h2
      refine z_geenv Bd.exec Bd.bytes hdq htq (fun _ => ?_) (fun hno => ?_)
      · refine z_run_ok hE (hBk k 60 h1 (by omega) (by omega)) hall z_no_ok nx none d0 0 0 _ tgt _ pcr zx rx hM p e _ s m _ below meth c _ _ _ _ (hctx _) (fun _ h => by cases h) (hend k ?_)
        rw [← Int32.toInt_inj, show (Int32.ofNat k).toInt = (k : Int) from nI_toInt (by omega)]
        omega
      · refine absurd ?_ hno
        rw [Int32.le_iff_toInt_le]
        show (env 1).toInt ≤ (Int32.ofNat k).toInt
        rw [show (Int32.ofNat k).toInt = (k : Int) from nI_toInt (by omega)]
        omega
    | succ j ih =>
      intro k h1 h2
      refine z_geenv Bd.exec Bd.bytes hdq htq (fun hyes => ?_) (fun _ => ?_)
      · rw [Int32.le_iff_toInt_le] at hyes
        have hyes : (env 1).toInt ≤ (Int32.ofNat k).toInt := hyes
        rw [show (Int32.ofNat k).toInt = (k : Int) from nI_toInt (by omega)] at hyes
        omega
      · exact z_run_ok hE (hBk k 59 h1 (by omega) (by omega)) hall z_no_ok nb none d0 0 0 _ (q + 3) _ q zb rb hM p e _ s m _ below meth c _ _ _ _ (hctx _) (fun _ h => by cases h) (z_wide (z_fback_ok env k) eb (ih (k + 1) (by omega) (by omega)))
  have h1 := hloop ((env 1).toInt.toNat - 1) 1 (Nat.le_refl _) (by omega)
  have h2 : z_G p l e (headSpec (Cond.code y cc maxL ret :: TB) (z_rm d 0 0)).room s m av.toArray below meth c (MQ below (z_Qc xb env kc D cl ws0 s.heap.size wr rz) av.toArray s 0 0 (va_A ws0 s.heap.size)) xb env kc D cl (va_A ws0 s.heap.size) s.heap (z_ad xb ws0) maxL q z1 := z_wide (z_fin1_ok env) e1 h1
  have h3 := z_run_ok hE (l := l) (kc := kc) (D := D) (xb := xb) hB hall z_no_ok n1 none d0 0 0 _ (q + 3) _ q z1 r1 hM p e _ s m _ below meth c _ _ _ _ (hctx env) (fun _ h => by cases h) h2
  have h4 := z_icmp Bd.exec Bd.bytes hB hdq htq c0 h3
  exact z_run_ok hE hB hall z_no_ok n0 none d0 0 0 _ 0 _ q _ r0 hM p e _ s m _ below meth c _ _ _ _ (hctx env) (fun _ h => by cases h) h4 _ [] ws0 s.heap [] ⟨⟨_, lv_entry av hsum, z_ent_ok 0 hav⟩, trivial, hws, fun _ _ h => h, hP, hD0.self, va_S.rf⟩

/-- what of a state is left when the count is over -/
def z_o6 (t : zI) : zI := match t with
  | .inr (i, c) => if i = 6 then (if c = 0 then .inr (1, 0) else .inl none) else .inr (i, c)
  | t => t
def z_o6V (v : zV) : zV := match v with
  | .inl t => .inl (z_o6 t)
  | v => v
def z_o6C (c : zC) : zC := match c with
  | .inl (ci, fs) => .inl (ci, fs.map z_o6V)
  | .inr (.inl (k, es)) => .inr (.inl (k, es.map z_o6))
  | c => c
/-- the counted loop of a method: what it answers, the cells then -/
def z_cnt (P : List zM) (b0 b2 b3 b4 b5 : Int × Int) (TF : Nat → Nat → FieldType) (DF : Nat → List zV) (n d0 q : Nat) (M : zM) (za : List zV) (w : zW) (zlh : List (Nat × zV)) (sth : List zV) (wh : zW) : Option (Option zV × zW) :=
  match z_find M.2.2.2.2.1 q with
  | some (.if_icmp .ge off, _) => match z_tgt q off with
    | some tgt => match z_run P [b0, (1, 60), b2, b3, b4, b5] TF DF z_no n none d0 0 0 M 0 (z_ent 0 za, [], w, 0, 0) with
      | some (q0, (zl0, .inl y0 :: .inl x0 :: st0, w0, 0, 0)) => if q0 = q ∧ z_cond [b0, (1, 60), b2, b3, b4, b5] .ge x0 y0 = some false ∧ M.2.2.2.2.2.1 = 0 ∧ M.2.2.2.2.2.2.1 = 0 ∧ (za.map z_cat).sum ≤ M.2.2.1 then
          match z_run P [b0, (1, 60), b2, b3, b4, b5] TF DF z_no n none d0 0 0 M (q + 3) (zl0, st0, w0, 0, 0) with
          | some (q1, z1) => if q1 = q ∧ z_leS z_fin1 z1 (zlh, .inl (.inr (1, 0)) :: .inl (.inr (6, 0)) :: sth, wh, 0, 0) = true then
              match z_run P [b0, (1, 60), b2, b3, b4, b5, (1, 59)] TF DF z_no n none d0 0 0 M (q + 3) (zlh, sth, wh, 0, 0) with
              | some (q2, zb) => if q2 = q ∧ z_leS z_fback zb (zlh, .inl (.inr (1, 0)) :: .inl (.inr (6, 0)) :: sth, wh, 0, 0) = true then
                  match z_run P [b0, (1, 60), b2, b3, b4, b5, (1, 60)] TF DF z_no n none d0 0 0 M tgt (zlh, sth, wh, 0, 0) with
                  | some (pcr, zx) => if z_leS z_fout zx (zx.1.map (fun a => (a.1, z_o6V a.2)), zx.2.1.map z_o6V, zx.2.2.1.map z_o6C, 0, 0) = true then match z_res M.2.2.2.2.1 M.2.2.2.1 pcr (zx.2.1.map z_o6V) with
                      | some rz => some (rz, zx.2.2.1.map z_o6C)
                      | none => none
                    else none
                  | none => none
                else none
              | none => none
            else none
          | none => none
        else none
      | _ => none
    | none => none
  | _ => none
theorem z_cnt_ok {EX : (Nat → Prop) → State → Heap → Prop} (hE : z_EX EX) {l : Launch} {TB : List Cond} {NT : List (String × Nat × MethodName × String)} {cl : List vw_C} {kc : Nat → ClassId} {D : va_G} {xb : Nat} {env : Nat → Int32} {b0 b2 b3 b4 b5 : Int × Int} {TF : Nat → Nat → FieldType} {DF : Nat → List zV} {P : List zM} {n d d0 q mc ms na : Nat} {y : MethodName} {cc : ByteArray} {maxL : Nat} {ret : Option FieldType} {tab : List zE} {za : List zV} {w : zW} {zlh : List (Nat × zV)} {sth : List zV} {wh : zW} {rz : Option zV} {wr : zW}
    (hB : z_B [b0, (1, 60), b2, b3, b4, b5] env) (hall : z_all TB NT cl TF DF P) (hM : z_Mok TB NT cl TF DF P (y, cc, maxL, ret, tab, mc, ms, na)) (hd : d0 ≤ d) (h : z_cnt P b0 b2 b3 b4 b5 TF DF n d0 q (y, cc, maxL, ret, tab, mc, ms, na) za w zlh sth wh = some (rz, wr)) : z_Met EX l TB NT kc D cl xb env y cc maxL ret (z_rm d mc ms) za w rz wr mc ms := by
  unfold z_cnt at h
  dsimp only at h
  split at h
  next off inf hq =>
    split at h
    next tgt ht =>
      split at h
      next q0 zl0 y0 x0 st0 w0 r0 =>
        split at h
        next hc =>
          obtain ⟨rfl, c0, rfl, rfl, hL⟩ := hc
          split at h
          next q1 z1 r1 =>
            split at h
            next hc1 =>
              obtain ⟨rfl, e1⟩ := hc1
              split at h
              next q2 zb rb =>
                split at h
                next hc2 =>
                  obtain ⟨rfl, eb⟩ := hc2
                  split at h
                  next pcr zx rx =>
                    split at h
                    next ex =>
                      split at h
                      next rz' hres =>
                        cases h
                        exact z_counted hE hB hall hM hd hq ht r0 c0 r1 e1 rb eb rx ex hres hL
                      next => cases h
                    next => cases h
                  next => cases h
                next => cases h
              next => cases h
            next => cases h
          next => cases h
        next => cases h
      next => cases h
    next => cases h
  next => cases h
/-! ===== like worlds ===== -/
def z_dC : DecidableEq zC := fun a b => match a, b with
  | .inl x, .inl y => if h : x = y then isTrue (by rw [h]) else isFalse (fun q => h (Sum.inl.inj q))
  | .inr x, .inr y => if h : x = y then isTrue (by rw [h]) else isFalse (fun q => h (Sum.inr.inj q))
  | .inl _, .inr _ => isFalse (fun q => by cases q)
  | .inr _, .inl _ => isFalse (fun q => by cases q)
def z_eqW (a b : zW) : Bool := @decide (a = b) (@instDecidableEqList zC z_dC a b)
theorem z_eqW_ok {a b : zW} (h : z_eqW a b = true) : a = b := @of_decide_eq_true (a = b) (@instDecidableEqList zC z_dC a b) h
def z_is (r : Option (Nat × zS)) (pc : Nat) (z : zS) : Bool := match r with
  | some (pc', (zl, st, w, nc, ns)) => decide (pc' = pc) && decide (zl = z.1) && decide (st = z.2.1) && z_eqW w z.2.2.1 && decide (nc = z.2.2.2.1) && decide (ns = z.2.2.2.2)
  | none => false
theorem z_is_ok {r : Option (Nat × zS)} {pc : Nat} {z : zS} (h : z_is r pc z = true) : r = some (pc, z) := by
  unfold z_is at h
  split at h
  next =>
    simp only [Bool.and_eq_true, decide_eq_true_eq] at h
    obtain ⟨⟨⟨⟨⟨rfl, rfl⟩, rfl⟩, hw⟩, rfl⟩, rfl⟩ := h
    rw [z_eqW_ok hw]
  next => cases h
end
