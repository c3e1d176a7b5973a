/-! ===== a run over bounds: numbers by their bounds, a world whose types hold always ===== -/
abbrev yI : Type := Int ⊕ (Nat × Int)
abbrev yV : Type := yI ⊕ (Option Nat ⊕ Unit)
/-- bounds, and: so much more than an elder number -/
abbrev yQ : Type := Int × Int × Option (Nat × Int)
/-- how many numbers are named; their bounds, the youngest first -/
abbrev yB : Type := Nat × List yQ
abbrev yN : Type := List ((Nat × yI) × yI)
/-- whether what binds cells stands; where a group is open; groups that are being copied -/
abbrev yX : Type := Bool × List (Nat × yI) × List (Nat × Nat)
/-- locals, stack, cells that are known, what is open -/
abbrev yS : Type := List (Nat × yV) × List yV × yN × yX
abbrev yT : Type := (Int × Int) ⊕ (List (Option Nat) ⊕ Unit)
abbrev yC : Type := (Nat × List yT) ⊕ ((Nat × List (Nat × Int × Int)) ⊕ ((Nat × List Int) ⊕ (Nat × List (Option Nat))))
abbrev yR : Type := List (Nat × Nat × Nat)
abbrev yGr : Type := Nat × (Int × Int) × List (Nat × Int × Int)
def y_e (env : List Int) (t : yI) : Option Int := match t with
  | .inl c => some c
  | .inr (i, c) => (env[i]?).map (fun v => v + c)
def y_v (env : List Int) (ad : Nat → Option Nat) (t : yV) (v : Value) : Prop := match t with
  | .inl t => ∃ x : Int32, v = .int x ∧ y_e env t = some x.toInt
  | .inr (.inl none) => v = .null
  | .inr (.inl (some i)) => ∃ a : Nat, ad i = some a ∧ v = .ref a
  | .inr (.inr _) => ∃ x : Int64, v = .long x
def y_b (env : List Int) (q : yQ) (v : Int) : Prop := q.1 ≤ v ∧ v ≤ q.2.1 ∧ ∀ j c, q.2.2 = some (j, c) → ∃ u : Int, env[j]? = some u ∧ u + c ≤ v
def y_B (B : yB) (env : List Int) : Prop := B.1 = B.2.length ∧ env.length = B.1 ∧ ∀ (p : Nat) (q : yQ), B.2[p]? = some q → ∃ v, env[B.1 - 1 - p]? = some v ∧ y_b env q v
def y_bg (B : yB) (i : Nat) : Option yQ := if i < B.1 then B.2[B.1 - 1 - i]? else none
theorem y_pre_get {env env' : List Int} (h : env <+: env') {i : Nat} {v : Int} (e : env[i]? = some v) : env'[i]? = some v := by
  obtain ⟨r, rfl⟩ := h
  rw [List.getElem?_append_left (List.getElem?_eq_some_iff.mp e).1]
  exact e
theorem y_e_mono {env env' : List Int} (h : env <+: env') {t : yI} {z : Int} (e : y_e env t = some z) : y_e env' t = some z := by
  match t, e with
  | .inl _, e => exact e
  | .inr (i, c), e =>
    unfold y_e at e ⊢
    dsimp only at e ⊢
    obtain ⟨v, h1, h2⟩ := Option.map_eq_some_iff.mp e
    rw [y_pre_get h h1]
    exact congrArg some h2
theorem y_v_mono {env env' : List Int} (h : env <+: env') {ad : Nat → Option Nat} : ∀ (t : yV) (v : Value), y_v env ad t v → y_v env' ad t v
  | .inl _, _, ⟨x, h1, h2⟩ => ⟨x, h1, y_e_mono h h2⟩
  | .inr (.inl none), _, hv => hv
  | .inr (.inl (some _)), _, hv => hv
  | .inr (.inr _), _, hv => hv
theorem y_b_mono {env env' : List Int} (h : env <+: env') (q : yQ) (v : Int) (hb : y_b env q v) : y_b env' q v := ⟨hb.1, hb.2.1, fun j c e => by
  obtain ⟨u, h1, h2⟩ := hb.2.2 j c e
  exact ⟨u, y_pre_get h h1, h2⟩⟩
theorem y_B_at {B : yB} {env : List Int} (hB : y_B B env) {i : Nat} {q : yQ} (h : y_bg B i = some q) : ∃ v, env[i]? = some v ∧ y_b env q v := by
  unfold y_bg at h
  split at h
  next hi =>
    obtain ⟨v, h1, h2⟩ := hB.2.2 _ q h
    rw [show B.1 - 1 - (B.1 - 1 - i) = i by omega] at h1
    exact ⟨v, h1, h2⟩
  next => cases h
theorem y_B_ev {B : yB} {env : List Int} (hB : y_B B env) {i : Nat} {v : Int} (h : env[i]? = some v) : ∃ q, y_bg B i = some q ∧ y_b env q v := by
  have hi := (List.getElem?_eq_some_iff.mp h).1
  have hl : B.1 - 1 - i < B.2.length := by have := hB.1; have := hB.2.1; omega
  refine ⟨B.2[B.1 - 1 - i], ?_, ?_⟩
  · unfold y_bg
    rw [if_pos (by have := hB.2.1; omega), List.getElem?_eq_getElem hl]
  · obtain ⟨v', h1, h2⟩ := hB.2.2 _ _ (List.getElem?_eq_getElem hl)
    rw [show B.1 - 1 - (B.1 - 1 - i) = i by have := hB.2.1; omega, h] at h1
    cases h1
    exact h2
theorem y_B_push {B : yB} {env : List Int} (hB : y_B B env) {q : yQ} {v : Int} (hq : y_b env q v) : y_B (B.1 + 1, q :: B.2) (env ++ [v]) := by
  obtain ⟨h1, h2, h3⟩ := hB
  refine ⟨by dsimp only; rw [List.length_cons, h1], by dsimp only; rw [List.length_append, h2]; rfl, fun p r hp => ?_⟩
  dsimp only at hp ⊢
  cases p with
  | zero =>
    rw [List.getElem?_cons_zero] at hp
    cases hp
    refine ⟨v, ?_, y_b_mono (List.prefix_append _ _) _ _ hq⟩
    rw [show B.1 + 1 - 1 - 0 = env.length by omega]
    simp
  | succ p =>
    rw [List.getElem?_cons_succ] at hp
    obtain ⟨u, g1, g2⟩ := h3 p r hp
    refine ⟨u, ?_, y_b_mono (List.prefix_append _ _) _ _ g2⟩
    rw [show B.1 + 1 - 1 - (p + 1) = B.1 - 1 - p by omega]
    exact y_pre_get (List.prefix_append _ _) g1
def y_set (B : yB) (i : Nat) (q : yQ) : yB := (B.1, B.2.set (B.1 - 1 - i) q)
theorem y_set_ok {B : yB} {env : List Int} (hB : y_B B env) {i : Nat} {v : Int} (hi : env[i]? = some v) {q : yQ} (hq : y_b env q v) : y_B (y_set B i q) env := by
  obtain ⟨h1, h2, h3⟩ := hB
  have hl := (List.getElem?_eq_some_iff.mp hi).1
  refine ⟨by unfold y_set; dsimp only; rw [List.length_set, h1], h2, fun p r hp => ?_⟩
  unfold y_set at hp ⊢
  dsimp only at hp ⊢
  by_cases hpi : B.1 - 1 - i = p
  · subst hpi
    rw [List.getElem?_set_self (by omega)] at hp
    cases hp
    refine ⟨v, ?_, hq⟩
    rw [show B.1 - 1 - (B.1 - 1 - i) = i by omega]
    exact hi
  · rw [List.getElem?_set_ne hpi] at hp
    exact h3 p r hp
theorem z_L_get2 {α β : Type} {R : α → β → Prop} : ∀ {as : List α} {bs : List β}, z_L R as bs → ∀ {k : Nat} {b : β}, bs[k]? = some b → ∃ a, as[k]? = some a ∧ R a b
  | [], [], _, k, b, h => by simp at h
  | a :: as, b :: bs, h, 0, b', e => by
    simp only [List.getElem?_cons_zero, Option.some.injEq] at e ⊢
    subst e
    exact ⟨a, rfl, h.1⟩
  | a :: as, b :: bs, h, k + 1, b', e => by
    simp only [List.getElem?_cons_succ] at e ⊢
    exact z_L_get2 h.2 e
  | [], _ :: _, h, _, _, _ => h.elim
  | _ :: _, [], h, _, _, _ => h.elim
def y_rng (B : yB) (t : yI) : Int × Int := match t with
  | .inl c => (c, c)
  | .inr (i, c) => match y_bg B i with
    | some (lo, hi, _) => (lo + c, hi + c)
    | none => (0, 0)
theorem y_rng_ok {B : yB} {env : List Int} (hB : y_B B env) {t : yI} {z : Int} (h : y_e env t = some z) : (y_rng B t).1 ≤ z ∧ z ≤ (y_rng B t).2 := by
  match t, h with
  | .inl c, h => cases h; exact ⟨Int.le_refl _, Int.le_refl _⟩
  | .inr (i, c), h =>
    unfold y_e at h
    dsimp only at h
    obtain ⟨v, h1, h2⟩ := Option.map_eq_some_iff.mp h
    obtain ⟨⟨lo, hi, r⟩, h3, h4, h5, _⟩ := y_B_ev hB h1
    unfold y_rng
    dsimp only
    rw [h3]
    dsimp only at h4 h5 ⊢
    omega
/-- a new number, by its bounds -/
def y_mk (B : yB) (lo hi : Int) : yB × yI := if lo = hi then (B, .inl lo) else ((B.1 + 1, (lo, hi, none) :: B.2), .inr (B.1, 0))
theorem y_mk_ok {B : yB} {env : List Int} (hB : y_B B env) {v : Int} {lo hi : Int} (h1 : lo ≤ v) (h2 : v ≤ hi) : ∃ env', env <+: env' ∧ y_B (y_mk B lo hi).1 env' ∧ y_e env' (y_mk B lo hi).2 = some v := by
  unfold y_mk
  by_cases h : lo = hi
  · rw [if_pos h]
    refine ⟨env, List.prefix_refl _, hB, ?_⟩
    show some lo = some v
    rw [show lo = v by omega]
  · rw [if_neg h]
    refine ⟨env ++ [v], List.prefix_append _ _, y_B_push hB ⟨h1, h2, fun _ _ e => by cases e⟩, ?_⟩
    unfold y_e
    dsimp only
    rw [← hB.2.1]
    simp
def y_mk2 (B : yB) (q : Int × Int) : yB × yI := y_mk B q.1 q.2
def y_clip (lo hi : Int) : Int × Int := if -2147483648 ≤ lo ∧ hi ≤ 2147483647 then (lo, hi) else (-2147483648, 2147483647)
def y_eqI (x y : yI) : Bool := match x, y with
  | .inl a, .inl b => decide (a = b)
  | .inr (i, c), .inr (j, d) => decide (i = j) && decide (c = d)
  | _, _ => false
theorem y_eqI_ok {x y : yI} (h : y_eqI x y = true) : x = y := by
  match x, y, h with
  | .inl a, .inl b, h => rw [of_decide_eq_true h]
  | .inr (i, c), .inr (j, d), h =>
    unfold y_eqI at h
    simp only [Bool.and_eq_true, decide_eq_true_eq] at h
    rw [h.1, h.2]
  | .inl _, .inr _, h => cases h
  | .inr _, .inl _, h => cases h
/-- a number that is known is said so -/
def y_nm (B : yB) (t : yI) : yI := match t with
  | .inl c => .inl c
  | .inr u => if (y_rng B (.inr u)).1 = (y_rng B (.inr u)).2 then .inl (y_rng B (.inr u)).1 else .inr u
theorem y_nm_ok {B : yB} {env : List Int} (hB : y_B B env) {t : yI} {z : Int} (h : y_e env t = some z) : y_e env (y_nm B t) = some z := by
  match t, h with
  | .inl _, h => exact h
  | .inr u, h =>
    have r := y_rng_ok hB h
    unfold y_nm
    dsimp only
    split
    next he =>
      show some _ = some z
      rw [show (y_rng B (.inr u)).1 = z by omega]
    next => exact h
/-! bounds that a test tells -/
def y_up (B : yB) (t : yI) (h : Int) : yB := match t with
  | .inl _ => B
  | .inr (i, c) => match y_bg B i with
    | some (lo, hi, r) => if h - c < hi then y_set B i (lo, h - c, r) else B
    | none => B
def y_dn (B : yB) (t : yI) (h : Int) : yB := match t with
  | .inl _ => B
  | .inr (i, c) => match y_bg B i with
    | some (lo, hi, r) => if lo < h - c then y_set B i (h - c, hi, r) else B
    | none => B
theorem y_up_ok {B : yB} {env : List Int} (hB : y_B B env) {t : yI} {x : Int} (ht : y_e env t = some x) {h : Int} (hx : x ≤ h) : y_B (y_up B t h) env := by
  match t, ht with
  | .inl _, _ => exact hB
  | .inr (i, c), ht =>
    unfold y_e at ht
    dsimp only at ht
    obtain ⟨v, h1, h2⟩ := Option.map_eq_some_iff.mp ht
    unfold y_up
    dsimp only
    split
    next lo hi r hi' =>
      split
      next hc =>
        obtain ⟨v', hv', b1, b2, b3⟩ := y_B_at hB hi'
        cases hv'.symm.trans h1
        dsimp only at b1 b2
        exact y_set_ok hB h1 ⟨b1, by dsimp only; omega, b3⟩
      next => exact hB
    next => exact hB
theorem y_dn_ok {B : yB} {env : List Int} (hB : y_B B env) {t : yI} {x : Int} (ht : y_e env t = some x) {h : Int} (hx : h ≤ x) : y_B (y_dn B t h) env := by
  match t, ht with
  | .inl _, _ => exact hB
  | .inr (i, c), ht =>
    unfold y_e at ht
    dsimp only at ht
    obtain ⟨v, h1, h2⟩ := Option.map_eq_some_iff.mp ht
    unfold y_dn
    dsimp only
    split
    next lo hi r hi' =>
      split
      next hc =>
        obtain ⟨v', hv', b1, b2, b3⟩ := y_B_at hB hi'
        cases hv'.symm.trans h1
        dsimp only at b1 b2
        exact y_set_ok hB h1 ⟨by dsimp only; omega, b2, b3⟩
      next => exact hB
    next => exact hB
/-- more than an elder one by so much, over those between -/
def y_gei (B : yB) : Nat → Nat → Int → Nat → Int → Bool
  | 0, _, _, _, _ => false
  | n + 1, i, d, j, c => if i = j then decide (c ≤ d) else match y_bg B i with
    | some (_, _, some (k, a)) => y_gei B n k (d + a) j c
    | _ => false
theorem y_gei_ok {B : yB} {env : List Int} (hB : y_B B env) : ∀ {n i : Nat} {d : Int} {j : Nat} {c v : Int}, y_gei B n i d j c = true → env[i]? = some v → ∃ u, env[j]? = some u ∧ u + c ≤ v + d
  | 0, _, _, _, _, _, h, _ => by cases h
  | n + 1, i, d, j, c, v, h, hv => by
    unfold y_gei at h
    split at h
    next hij =>
      subst hij
      have := of_decide_eq_true h
      exact ⟨v, hv, by omega⟩
    next =>
      split at h
      next lo hi k a hb =>
        obtain ⟨v', e1, _, _, e2⟩ := y_B_at hB hb
        cases e1.symm.trans hv
        obtain ⟨w, w1, w2⟩ := e2 k a rfl
        obtain ⟨u, u1, u2⟩ := y_gei_ok hB h w1
        exact ⟨u, u1, by omega⟩
      next => cases h
def y_ge (B : yB) (t : yI) (j : Nat) (c : Int) : Bool := match t with
  | .inl _ => false
  | .inr (i, d) => y_gei B 40 i d j c
theorem y_ge_ok {B : yB} {env : List Int} (hB : y_B B env) {t : yI} {j : Nat} {c x : Int} (h : y_ge B t j c = true) (hx : y_e env t = some x) : ∃ u, env[j]? = some u ∧ u + c ≤ x := by
  match t, hx with
  | .inl _, _ => cases h
  | .inr (i, d), hx =>
    unfold y_e at hx
    dsimp only at hx
    obtain ⟨v, h1, h2⟩ := Option.map_eq_some_iff.mp hx
    obtain ⟨u, u1, u2⟩ := y_gei_ok hB h h1
    exact ⟨u, u1, by omega⟩
/-- x is more than y by k at least, as is known -/
def y_gx (B : yB) (x y : yI) (k : Int) : Bool := match y with
  | .inl _ => false
  | .inr (j, d) => y_ge B x j (d + k)
theorem y_gx_ok {B : yB} {env : List Int} (hB : y_B B env) {x y : yI} {k a b : Int} (h : y_gx B x y k = true) (ha : y_e env x = some a) (hb : y_e env y = some b) : b + k ≤ a := by
  match y, hb with
  | .inl _, _ => cases h
  | .inr (j, d), hb =>
    obtain ⟨u, u1, u2⟩ := y_ge_ok hB h ha
    unfold y_e at hb
    dsimp only at hb
    rw [u1] at hb
    have hb : u + d = b := Option.some.inj hb
    omega
/-- y is more than x by k at least: that is kept -/
def y_rl (B : yB) (x y : yI) (k : Int) : yB := match x, y with
  | .inr (i, c), .inr (j, d) => if i = j then B else match y_bg B j with
    | some (lo, hi, none) => y_set B j (lo, hi, some (i, c + k - d))
    | some (lo, hi, some (i', c')) => if i' = i ∧ c' < c + k - d then y_set B j (lo, hi, some (i, c + k - d)) else B
    | none => B
  | _, _ => B
theorem y_rl_ok {B : yB} {env : List Int} (hB : y_B B env) {x y : yI} {k a b : Int} (ha : y_e env x = some a) (hb : y_e env y = some b) (h : a + k ≤ b) : y_B (y_rl B x y k) env := by
  match x, y, ha, hb with
  | .inl _, _, _, _ => exact hB
  | .inr _, .inl _, _, _ => exact hB
  | .inr (i, c), .inr (j, d), ha, hb =>
    unfold y_e at ha hb
    dsimp only at ha hb
    obtain ⟨u, u1, u2⟩ := Option.map_eq_some_iff.mp ha
    obtain ⟨v, v1, v2⟩ := Option.map_eq_some_iff.mp hb
    have hr : ∀ lo hi r, y_b env (lo, hi, r) v → y_b env (lo, hi, some (i, c + k - d)) v := fun lo hi r hq => ⟨hq.1, hq.2.1, fun j' c' e => by cases e; exact ⟨u, u1, by omega⟩⟩
    unfold y_rl
    dsimp only
    split
    next => exact hB
    next =>
      split
      next lo hi hg =>
        obtain ⟨v', w1, w2⟩ := y_B_at hB hg
        cases w1.symm.trans v1
        exact y_set_ok hB v1 (hr _ _ _ w2)
      next lo hi i' c' hg =>
        split
        next =>
          obtain ⟨v', w1, w2⟩ := y_B_at hB hg
          cases w1.symm.trans v1
          exact y_set_ok hB v1 (hr _ _ _ w2)
        next => exact hB
      next => exact hB
def y_lt (B : yB) (x y : yI) : Option yB := if y_eqI x y = true ∨ (y_rng B y).2 ≤ (y_rng B x).1 ∨ y_gx B x y 0 = true then none else some (y_rl (y_dn (y_up B x ((y_rng B y).2 - 1)) y ((y_rng B x).1 + 1)) x y 1)
def y_le (B : yB) (x y : yI) : Option yB := if (y_rng B y).2 < (y_rng B x).1 ∨ y_gx B x y 1 = true then none else some (y_rl (y_dn (y_up B x (y_rng B y).2) y (y_rng B x).1) x y 0)
def y_eqb (B : yB) (x y : yI) : Option yB := match y_le B x y with
  | none => none
  | some B1 => y_le B1 y x
def y_neb (B : yB) (x y : yI) : Option yB := if y_eqI x y = true ∨ ((y_rng B x).1 = (y_rng B x).2 ∧ (y_rng B y).1 = (y_rng B y).2 ∧ (y_rng B x).1 = (y_rng B y).1) then none else
  if (y_rng B y).1 = (y_rng B y).2 then
    if (y_rng B x).1 = (y_rng B y).1 then some (y_dn B x ((y_rng B y).1 + 1)) else if (y_rng B x).2 = (y_rng B y).1 then some (y_up B x ((y_rng B y).1 - 1)) else some B
  else some B
section YB
variable {B : yB} {env : List Int} {x y : yI} {a b : Int}
theorem y_lt_ok (hB : y_B B env) (ha : y_e env x = some a) (hb : y_e env y = some b) (h : a < b) : ∃ B', y_lt B x y = some B' ∧ y_B B' env := by
  have r1 := y_rng_ok hB ha
  have r2 := y_rng_ok hB hb
  unfold y_lt
  rw [if_neg (by
    rintro (q | q | q)
    · rw [y_eqI_ok q, hb] at ha; cases ha; omega
    · omega
    · have := y_gx_ok hB q ha hb; omega)]
  exact ⟨_, rfl, y_rl_ok (y_dn_ok (y_up_ok hB ha (by omega)) hb (by omega)) ha hb (by omega)⟩
theorem y_le_ok (hB : y_B B env) (ha : y_e env x = some a) (hb : y_e env y = some b) (h : a ≤ b) : ∃ B', y_le B x y = some B' ∧ y_B B' env := by
  have r1 := y_rng_ok hB ha
  have r2 := y_rng_ok hB hb
  unfold y_le
  rw [if_neg (by
    rintro (q | q)
    · omega
    · have := y_gx_ok hB q ha hb; omega)]
  exact ⟨_, rfl, y_rl_ok (y_dn_ok (y_up_ok hB ha (by omega)) hb (by omega)) ha hb (by omega)⟩
theorem y_eqb_ok (hB : y_B B env) (ha : y_e env x = some a) (hb : y_e env y = some b) (h : a = b) : ∃ B', y_eqb B x y = some B' ∧ y_B B' env := by
  subst h
  obtain ⟨B1, e1, h1⟩ := y_le_ok hB ha hb (Int.le_refl _)
  obtain ⟨B2, e2, h2⟩ := y_le_ok h1 hb ha (Int.le_refl _)
  exact ⟨B2, by unfold y_eqb; rw [e1]; exact e2, h2⟩
theorem y_neb_ok (hB : y_B B env) (ha : y_e env x = some a) (hb : y_e env y = some b) (h : a ≠ b) : ∃ B', y_neb B x y = some B' ∧ y_B B' env := by
  have r1 := y_rng_ok hB ha
  have r2 := y_rng_ok hB hb
  unfold y_neb
  rw [if_neg (by
    rintro (q | q)
    · rw [y_eqI_ok q, hb] at ha; cases ha; exact h rfl
    · omega)]
  split
  next h1 =>
    split
    next h2 => exact ⟨_, rfl, y_dn_ok hB ha (by omega)⟩
    next =>
      split
      next h3 => exact ⟨_, rfl, y_up_ok hB ha (by omega)⟩
      next => exact ⟨_, rfl, hB⟩
  next => exact ⟨_, rfl, hB⟩
end YB
/-- both ways of a test: what is so if it holds, if not -/
def y_br (B : yB) (k : Jvm.ClassFile.Cond) (x y : yI) : Option yB × Option yB := match k with
  | .eq => (y_eqb B x y, y_neb B x y)
  | .ne => (y_neb B x y, y_eqb B x y)
  | .lt => (y_lt B x y, y_le B y x)
  | .ge => (y_le B y x, y_lt B x y)
  | .gt => (y_lt B y x, y_le B x y)
  | .le => (y_le B x y, y_lt B y x)
def y_way (B : Option yB) (pc : Nat) (z : yS) : List (yB × Nat × yS) := match B with
  | none => []
  | some B => [(B, pc, z)]
/-! locals -/
def y_get : List (Nat × yV) → Nat → Option yV
  | [], _ => none
  | (j, v) :: r, i => if j = i then some v else y_get r i
def y_cat (v : yV) : Nat := match v with
  | .inr (.inr _) => 2
  | _ => 1
def y_put (zl : List (Nat × yV)) (i : Nat) (v : yV) : List (Nat × yV) := (i, v) :: zl.filter (fun q => !(q.1 == i) && !(q.1 + 1 == i && y_cat q.2 == 2))
def y_put2 (zl : List (Nat × yV)) (i : Nat) : List (Nat × yV) := (i, .inr (.inr ())) :: zl.filter (fun q => !(q.1 == i) && (!(q.1 == i + 1) && !(q.1 + 1 == i && y_cat q.2 == 2)))
def y_l (env : List Int) (ad : Nat → Option Nat) (nL : Nat) (zl : List (Nat × yV)) (ls : Array Slot) : Prop := ∃ lv : List (Nat × Value), lv_has ls nL lv ∧ z_L (fun (a : Nat × yV) (b : Nat × Value) => a.1 = b.1 ∧ y_v env ad a.2 b.2) zl lv
section YL
variable {env : List Int} {ad : Nat → Option Nat}
theorem y_get_in : ∀ {zl : List (Nat × yV)} {lv : List (Nat × Value)}, z_L (fun (a : Nat × yV) (b : Nat × Value) => a.1 = b.1 ∧ y_v env ad a.2 b.2) zl lv → ∀ {i : Nat} {v : yV}, y_get zl i = some v → ∃ x, (i, x) ∈ lv ∧ y_v env ad v x
  | [], [], _, _, _, e => by simp [y_get] at e
  | (j, v) :: zl, (j2, x) :: lv, h, i, v', e => by
    obtain ⟨⟨h1, h2⟩, h3⟩ := h
    dsimp only at h1
    subst h1
    unfold y_get at e
    by_cases hj : j = i
    · rw [if_pos hj] at e
      cases e
      subst hj
      exact ⟨x, List.mem_cons_self, h2⟩
    · rw [if_neg hj] at e
      obtain ⟨y, h4, h5⟩ := y_get_in h3 e
      exact ⟨y, List.mem_cons_of_mem _ h4, h5⟩
  | [], _ :: _, h, _, _, _ => h.elim
  | _ :: _, [], h, _, _, _ => h.elim
theorem y_l_at {nL : Nat} {zl : List (Nat × yV)} {ls : Array Slot} (h : y_l env ad nL zl ls) {i : Nat} {v : yV} (e : y_get zl i = some v) : ∃ x, ls[i]? = some (.val x) ∧ y_v env ad v x := by
  obtain ⟨lv, h1, h2⟩ := h
  obtain ⟨x, h3, h4⟩ := y_get_in h2 e
  exact ⟨x, h1.2.2 (i, x) h3, h4⟩
theorem y_v_cat : ∀ {t : yV} {v : Value}, y_v env ad t v → y_cat t = v.category
  | .inl _, _, ⟨_, h, _⟩ => by rw [h]; rfl
  | .inr (.inl none), _, h => by rw [show _ = Value.null from h]; rfl
  | .inr (.inl (some _)), _, ⟨_, _, h⟩ => by rw [h]; rfl
  | .inr (.inr _), _, ⟨_, h⟩ => by rw [h]; rfl
theorem y_put_ok {zl : List (Nat × yV)} {lv : List (Nat × Value)} (h : z_L (fun (a : Nat × yV) (b : Nat × Value) => a.1 = b.1 ∧ y_v env ad a.2 b.2) zl lv) {i : Nat} {v : yV} {x : Value} (hv : y_v env ad v x) :
    z_L (fun (a : Nat × yV) (b : Nat × Value) => a.1 = b.1 ∧ y_v env ad a.2 b.2) (y_put zl i v) ((i, x) :: lv.filter (fun q => !(q.1 == i) && !(q.1 + 1 == i && q.2.category == 2))) := by
  refine ⟨⟨rfl, hv⟩, z_L_filter ?_ h⟩
  intro a b hab
  rw [hab.1, y_v_cat hab.2]
theorem y_put2_ok {zl : List (Nat × yV)} {lv : List (Nat × Value)} (h : z_L (fun (a : Nat × yV) (b : Nat × Value) => a.1 = b.1 ∧ y_v env ad a.2 b.2) zl lv) {i : Nat} {x : Int64} :
    z_L (fun (a : Nat × yV) (b : Nat × Value) => a.1 = b.1 ∧ y_v env ad a.2 b.2) (y_put2 zl i) ((i, .long x) :: lv.filter (fun q => !(q.1 == i) && (!(q.1 == i + 1) && !(q.1 + 1 == i && q.2.category == 2)))) := by
  refine ⟨⟨rfl, x, rfl⟩, z_L_filter ?_ h⟩
  intro a b hab
  rw [hab.1, y_v_cat hab.2]
theorem y_l_mono {env' : List Int} (he : env <+: env') {nL : Nat} {zl : List (Nat × yV)} {ls : Array Slot} (h : y_l env ad nL zl ls) : y_l env' ad nL zl ls := by
  obtain ⟨lv, h1, h2⟩ := h
  exact ⟨lv, h1, z_L_mono (fun _ _ q => ⟨q.1, y_v_mono he _ _ q.2⟩) h2⟩
theorem y_cats : ∀ {st : List yV} {sv : List Value}, z_L (y_v env ad) st sv → (st.map y_cat).sum = (sv.map fun v => v.category).sum
  | [], [], _ => rfl
  | _ :: _, _ :: _, h => by
    rw [List.map_cons, List.map_cons, List.sum_cons, List.sum_cons, y_v_cat h.1, y_cats h.2]
  | [], _ :: _, h => h.elim
  | _ :: _, [], h => h.elim
end YL
/-! the world by its types -/
def y_tv (ad : Nat → Option Nat) (t : yT) (v : Value) : Prop := match t with
  | .inl (lo, hi) => ∃ x : Int32, v = .int x ∧ lo ≤ x.toInt ∧ x.toInt ≤ hi
  | .inr (.inl rs) => ∃ o ∈ rs, match o with
    | none => v = .null
    | some i => ∃ a : Nat, ad i = some a ∧ v = .ref a
  | .inr (.inr _) => ∃ x : Int64, v = .long x
def y_len : List (Nat × Int × Int) → Nat
  | [] => 0
  | (n, _, _) :: r => n + y_len r
/-- the bounds of the place k in a row -/
def y_seg : List (Nat × Int × Int) → Nat → Option (Int × Int)
  | [], _ => none
  | (n, lo, hi) :: r, k => if k < n then some (lo, hi) else y_seg r (k - n)
/-- what must lie in a row of longs: the given numbers; or, where a mark stands (less than 0), those that kc tells: all, or the first ones, and those behind may be written -/
def y_ok0 (es : List Int) : Bool := match es with
  | [] => true
  | e :: _ => decide (0 ≤ e)
def y_lc (kc : Nat → ClassId) (n : Nat) (es : List Int) (j : Nat) : Option Int := match es with
  | [] => none
  | e :: r => if 0 ≤ e then (e :: r)[j]? else if j < (match r with
    | [] => n
    | m :: _ => (-m).toNat) then some (((kc (1000 + 64 * (-e).toNat + j) : Nat) : Int) - 9223372036854775808) else none
/-- from where on a row of longs may be written -/
def y_lw (es : List Int) (a0 : Nat) : Bool := match es with
  | [] => true
  | [_] => false
  | e :: m :: _ => decide (e < 0) && Nat.ble (-m).toNat a0
theorem y_lc_0 {kc : Nat → ClassId} {n : Nat} {es : List Int} (h : y_ok0 es = true) (j : Nat) : y_lc kc n es j = es[j]? := by
  cases es with
  | nil => rfl
  | cons e r =>
    unfold y_lc
    exact if_pos (of_decide_eq_true h)
theorem y_lc_lw {kc : Nat → ClassId} {n : Nat} {es : List Int} {a0 : Nat} (h : y_lw es a0 = true) {j : Nat} {x : Int} (hx : y_lc kc n es j = some x) : j < a0 := by
  match es, h, hx with
  | [], _, hx => cases hx
  | [_], h, _ => cases h
  | e :: m :: r, h, hx =>
    unfold y_lw at h
    rw [Bool.and_eq_true] at h
    have h1 := of_decide_eq_true h.1
    have h2 : (-m).toNat ≤ a0 := Nat.le_of_ble_eq_true h.2
    unfold y_lc at hx
    dsimp only at hx
    rw [if_neg (by omega)] at hx
    split at hx
    next h3 => omega
    next => cases hx
def y_c (kc : Nat → ClassId) (ad : Nat → Option Nat) (t : yC) (q : va_E) : Prop := match t with
  | .inl (ci, ts) => ∃ vs : List Value, q = .inr (ci, vs) ∧ z_L (y_tv ad) ts vs
  | .inr (.inl (k, sg)) => ∃ f : Nat → Int32, q = .inl (kc k, y_len sg, .inl f) ∧ ∀ (j : Nat) (lo hi : Int), y_seg sg j = some (lo, hi) → lo ≤ (f j).toInt ∧ (f j).toInt ≤ hi
  | .inr (.inr (.inl (n, es))) => ∃ f : Nat → Int64, q = .inl (kc 1, n, .inr (.inl f)) ∧ ∀ (j : Nat) (x : Int), y_lc kc n es j = some x → (f j).toInt = x
  | .inr (.inr (.inr (k, es))) => ∃ f : Nat → Option Nat, q = .inl (kc k, es.length, .inr (.inr (.inr (.inr f)))) ∧ ∀ (j : Nat) (x : Option Nat), es[j]? = some x → z_o ad x (f j)
/-- the type of a cell: rows of sixteen -/
def y_T (TY : List (List yC)) (r : Nat) : Option yC := match TY[r / 16]? with
  | some row => row[r % 16]?
  | none => none
def y_w (kc : Nat → ClassId) (ad : Nat → Option Nat) (TY : List (List yC)) (ws : va_W) : Prop := ∀ (r : Nat) (c : yC), y_T TY r = some c → ∃ a e, ws[r]? = some (a, e) ∧ y_c kc ad c e
theorem y_seg_some : ∀ {sg : List (Nat × Int × Int)} {k : Nat}, k < y_len sg → ∃ q, y_seg sg k = some q
  | [], k, h => absurd h (Nat.not_lt_zero k)
  | (n, lo, hi) :: r, k, h => by
    unfold y_seg
    by_cases hk : k < n
    · rw [if_pos hk]; exact ⟨_, rfl⟩
    · rw [if_neg hk]
      exact y_seg_some (by unfold y_len at h; omega)
/-- the int that lies in a cell -/
def y_iv (v : Value) : Option Int32 := match v with
  | .int x => some x
  | _ => none
def y_at (ws : va_W) (r k : Nat) : Option Int32 := match ws[r]? with
  | some (_, .inr (_, vs)) => (vs[k]?).bind y_iv
  | some (_, .inl (_, n, .inl f)) => if k < n then some (f k) else none
  | _ => none
def y_k (env : List Int) (ws : va_W) (kn : yN) : Prop := ∀ q ∈ kn, ∃ (j : Nat) (x : Int32), y_e env q.1.2 = some (j : Int) ∧ y_at ws q.1.1 j = some x ∧ y_e env q.2 = some x.toInt
def y_in (eff : yR) (r k : Nat) : Bool := eff.any (fun q => q.1 == r && (Nat.ble q.2.1 k && Nat.ble k q.2.2))
def y_fr (eff : yR) (ws0 ws : va_W) : Prop := ∀ r k, y_in eff r k = false → y_at ws r k = y_at ws0 r k
theorem y_w_set {kc : Nat → ClassId} {ad : Nat → Option Nat} {TY : List (List yC)} {ws : va_W} (h : y_w kc ad TY ws) {i a a0 : Nat} {e e0 : va_E} (hw : ws[i]? = some (a0, e0)) {c : yC} (hc : y_T TY i = some c) (he : y_c kc ad c e) : y_w kc ad TY (ws.set i (a, e)) := by
  intro r c' hr
  by_cases hi : i = r
  · subst hi
    rw [hc] at hr
    cases hr
    exact ⟨a, e, List.getElem?_set_self (List.getElem?_eq_some_iff.mp hw).1, he⟩
  · rw [List.getElem?_set_ne hi]
    exact h r c' hr
theorem y_at_seto {ws : va_W} {r a ci k : Nat} {vs : List Value} {v : Value} (h : ws[r]? = some (a, .inr (ci, vs))) (hk : k < vs.length) (r' k' : Nat) : y_at (ws.set r (a, .inr (ci, vs.set k v))) r' k' = if r' = r ∧ k' = k then y_iv v else y_at ws r' k' := by
  unfold y_at
  by_cases hr : r' = r
  · subst hr
    rw [List.getElem?_set_self (List.getElem?_eq_some_iff.mp h).1, h]
    dsimp only
    by_cases hk' : k' = k
    · subst hk'
      rw [List.getElem?_set_self hk, if_pos ⟨rfl, rfl⟩]
      rfl
    · rw [List.getElem?_set_ne (fun q => hk' q.symm), if_neg (fun q => hk' q.2)]
  · rw [List.getElem?_set_ne (fun q => hr q.symm), if_neg (fun q => hr q.1)]
theorem y_at_seta {ws : va_W} {r a n k : Nat} {cA : ClassId} {f : Nat → Int32} {x : Int32} (h : ws[r]? = some (a, .inl (cA, n, .inl f))) (hk : k < n) (r' k' : Nat) : y_at (ws.set r (a, .inl (cA, n, .inl (upd f k x)))) r' k' = if r' = r ∧ k' = k then some x else y_at ws r' k' := by
  unfold y_at
  by_cases hr : r' = r
  · subst hr
    rw [List.getElem?_set_self (List.getElem?_eq_some_iff.mp h).1, h]
    dsimp only
    by_cases hk' : k' = k
    · subst hk'
      rw [if_pos hk, if_pos ⟨rfl, rfl⟩, pk_us]
    · rw [if_neg (fun (q : r' = r' ∧ k' = k) => hk' q.2), pk_un hk']
  · rw [List.getElem?_set_ne (fun q => hr q.symm), if_neg (fun q => hr q.1)]
/-- a cell that holds no int is set to another: no int is touched -/
theorem y_at_setn {ws : va_W} {r a : Nat} {e e' : va_E} (h : ws[r]? = some (a, e)) (hs : ∀ k, y_at (ws.set r (a, e')) r k = y_at ws r k) (r' k' : Nat) : y_at (ws.set r (a, e')) r' k' = y_at ws r' k' := by
  by_cases hr : r' = r
  · subst hr; exact hs k'
  · unfold y_at
    rw [List.getElem?_set_ne (fun q => hr q.symm)]
/-! groups: where the first cell lies within its bounds, the others lie within theirs -/
def y_Rg (ws : va_W) (g : yGr) (j : Nat) : Prop := ∀ x, y_at ws g.1 j = some x → g.2.1.1 ≤ x.toInt → x.toInt ≤ g.2.1.2 → ∀ q ∈ g.2.2, ∀ y, y_at ws q.1 j = some y → q.2.1 ≤ y.toInt ∧ y.toInt ≤ q.2.2
def y_Gs (GR : List yGr) (env : List Int) (ex : List (Nat × yI)) (cp : List (Nat × Nat)) (ws : va_W) : Prop :=
  (∀ (i : Nat) (g : yGr), GR[i]? = some g → (∀ b, (i, b) ∉ cp) → ∀ j : Nat, (¬ ∃ t, (i, t) ∈ ex ∧ y_e env t = some (j : Int)) → y_Rg ws g j) ∧
  ∀ (a b : Nat) (ga gb : yGr), (a, b) ∈ cp → GR[a]? = some ga → GR[b]? = some gb → ∀ j, y_at ws ga.1 j = y_at ws gb.1 j
theorem y_Gs_mono {GR : List yGr} {env env' : List Int} (he : env <+: env') {ex : List (Nat × yI)} {cp : List (Nat × Nat)} {ws : va_W} (h : y_Gs GR env ex cp ws) : y_Gs GR env' ex cp ws :=
  ⟨fun i g hg hc j hj => h.1 i g hg hc j (fun ⟨t, h1, h2⟩ => hj ⟨t, h1, y_e_mono he h2⟩), h.2⟩
def y_gin (g : yGr) (r : Nat) : Bool := g.1 == r || g.2.2.any (fun q => q.1 == r)
/-- cells of a group are as they were -/
theorem y_Rg_same {u v : va_W} {g : yGr} {j : Nat} (h : ∀ r, y_gin g r = true → y_at v r j = y_at u r j) (hr : y_Rg u g j) : y_Rg v g j := by
  intro x hx h1 h2 q hq y hy
  refine hr x ?_ h1 h2 q hq y ?_
  · rw [← h g.1 (by unfold y_gin; simp)]; exact hx
  · rw [← h q.1 (by unfold y_gin; simp only [Bool.or_eq_true, List.any_eq_true]; exact Or.inr ⟨q, hq, by simp⟩)]; exact hy
