/-! ===== an exact walk: values as they are, ints and longs by their numbers, cells by a store ===== -/
abbrev xV : Type := Int ⊕ (Int ⊕ Option Nat)
abbrev xF : Type := Nat → Nat → Int
def x_v (ad : Nat → Option Nat) (t : xV) (v : Value) : Prop := match t with
  | .inl z => ∃ x : Int32, v = .int x ∧ x.toInt = z
  | .inr (.inl z) => ∃ x : Int64, v = .long x ∧ x.toInt = z
  | .inr (.inr none) => v = .null
  | .inr (.inr (some i)) => ∃ a : Nat, ad i = some a ∧ v = .ref a
def x_cat (v : xV) : Nat := match v with
  | .inr (.inl _) => 2
  | _ => 1
theorem x_v_cat {ad : Nat → Option Nat} : ∀ {t : xV} {v : Value}, x_v ad t v → x_cat t = v.category
  | .inl _, _, ⟨_, h, _⟩ => by rw [h]; rfl
  | .inr (.inl _), _, ⟨_, h, _⟩ => by rw [h]; rfl
  | .inr (.inr none), _, h => by rw [show _ = Value.null from h]; rfl
  | .inr (.inr (some _)), _, ⟨_, _, h⟩ => by rw [h]; rfl
def x_get : List (Nat × xV) → Nat → Option xV
  | [], _ => none
  | (j, v) :: r, i => match Nat.beq j i with
    | true => some v
    | false => x_get r i
def x_put (lv : List (Nat × xV)) (i : Nat) (v : xV) : List (Nat × xV) := (i, v) :: lv.filter (fun q => !(q.1 == i) && !(q.1 + 1 == i && x_cat q.2 == 2))
def x_put2 (lv : List (Nat × xV)) (i : Nat) (z : Int) : List (Nat × xV) := (i, .inr (.inl z)) :: lv.filter (fun q => !(q.1 == i) && (!(q.1 == i + 1) && !(q.1 + 1 == i && x_cat q.2 == 2)))
def x_lr (ad : Nat → Option Nat) (a : Nat × xV) (b : Nat × Value) : Prop := a.1 = b.1 ∧ x_v ad a.2 b.2
def x_l (ad : Nat → Option Nat) (nL : Nat) (lv : List (Nat × xV)) (ls : Array Slot) : Prop := ∃ vs : List (Nat × Value), lv_has ls nL vs ∧ z_L (x_lr ad) lv vs
theorem x_get_in {ad : Nat → Option Nat} : ∀ {lv : List (Nat × xV)} {vs : List (Nat × Value)}, z_L (x_lr ad) lv vs → ∀ {i : Nat} {v : xV}, x_get lv i = some v → ∃ x, (i, x) ∈ vs ∧ x_v ad v x
  | [], [], _, _, _, e => by simp [x_get] at e
  | (j, v) :: lv, (j2, x) :: vs, h, i, v', e => by
    obtain ⟨⟨h1, h2⟩, h3⟩ := h
    dsimp only at h1
    subst h1
    unfold x_get at e
    split at e
    next hj =>
      cases e
      have := Nat.eq_of_beq_eq_true hj
      subst this
      exact ⟨x, List.mem_cons_self, h2⟩
    next =>
      obtain ⟨y, h4, h5⟩ := x_get_in h3 e
      exact ⟨y, List.mem_cons_of_mem _ h4, h5⟩
  | [], _ :: _, h, _, _, _ => h.elim
  | _ :: _, [], h, _, _, _ => h.elim
theorem x_l_at {ad : Nat → Option Nat} {nL : Nat} {lv : List (Nat × xV)} {ls : Array Slot} (h : x_l ad nL lv ls) {i : Nat} {v : xV} (e : x_get lv i = some v) : ∃ x, ls[i]? = some (.val x) ∧ x_v ad v x := by
  obtain ⟨vs, h1, h2⟩ := h
  obtain ⟨x, h3, h4⟩ := x_get_in h2 e
  exact ⟨x, h1.2.2 (i, x) h3, h4⟩
theorem x_put_ok {ad : Nat → Option Nat} {lv : List (Nat × xV)} {vs : List (Nat × Value)} (h : z_L (x_lr ad) lv vs) {i : Nat} {v : xV} {x : Value} (hv : x_v ad v x) :
    z_L (x_lr ad) (x_put lv i v) ((i, x) :: vs.filter (fun q => !(q.1 == i) && !(q.1 + 1 == i && q.2.category == 2))) := by
  refine ⟨⟨rfl, hv⟩, z_L_filter ?_ h⟩
  intro a b hab
  rw [hab.1, x_v_cat hab.2]
theorem x_put2_ok {ad : Nat → Option Nat} {lv : List (Nat × xV)} {vs : List (Nat × Value)} (h : z_L (x_lr ad) lv vs) {i : Nat} {z : Int} {x : Int64} (hx : x.toInt = z) :
    z_L (x_lr ad) (x_put2 lv i z) ((i, .long x) :: vs.filter (fun q => !(q.1 == i) && (!(q.1 == i + 1) && !(q.1 + 1 == i && q.2.category == 2)))) := by
  refine ⟨⟨rfl, x, rfl, hx⟩, z_L_filter ?_ h⟩
  intro a b hab
  rw [hab.1, x_v_cat hab.2]
/-! longs of a world -/
def x_ll (v : Value) : Option Int64 := match v with
  | .long x => some x
  | _ => none
def x_at (ws : va_W) (r k : Nat) : Option Int64 := match ws[r]? with
  | some (_, .inr (_, vs)) => (vs[k]?).bind x_ll
  | some (_, .inl (_, n, .inr (.inl f))) => if k < n then some (f k) else none
  | _ => none
theorem x_at_seto {ws : va_W} {r a ci k : Nat} {vs : List Value} {v : Value} (h : ws[r]? = some (a, .inr (ci, vs))) (hk : k < vs.length) (r' k' : Nat) : x_at (ws.set r (a, .inr (ci, vs.set k v))) r' k' = if r' = r ∧ k' = k then x_ll v else x_at ws r' k' := by
  unfold x_at
  by_cases hr : r' = r
  · subst hr
    rw [List.getElem?_set_self (List.getElem?_eq_some_iff.mp h).1, h]
    dsimp only
    by_cases hk' : k' = k
    · subst hk'
      rw [List.getElem?_set_self hk, if_pos ⟨rfl, rfl⟩]
      rfl
    · rw [List.getElem?_set_ne (fun q => hk' q.symm), if_neg (fun q => hk' q.2)]
  · rw [List.getElem?_set_ne (fun q => hr q.symm), if_neg (fun q => hr q.1)]
theorem x_at_setn {ws : va_W} {r a : Nat} {e e' : va_E} (h : ws[r]? = some (a, e)) (hs : ∀ k, x_at (ws.set r (a, e')) r k = x_at ws r k) (r' k' : Nat) : x_at (ws.set r (a, e')) r' k' = x_at ws r' k' := by
  by_cases hr : r' = r
  · subst hr
    exact hs k'
  · unfold x_at
    rw [List.getElem?_set_ne (fun q => hr q.symm)]
theorem x_at_setl {ws : va_W} {r a n k : Nat} {cA : ClassId} {f : Nat → Int64} {x : Int64} (h : ws[r]? = some (a, .inl (cA, n, .inr (.inl f)))) (hk : k < n) (r' k' : Nat) : x_at (ws.set r (a, .inl (cA, n, .inr (.inl (vp_updL f k x))))) r' k' = if r' = r ∧ k' = k then some x else x_at ws r' k' := by
  unfold x_at
  by_cases hr : r' = r
  · subst hr
    rw [List.getElem?_set_self (List.getElem?_eq_some_iff.mp h).1, h]
    dsimp only
    by_cases hk' : k' = k
    · subst hk'
      rw [if_pos hk, if_pos ⟨rfl, rfl⟩]
      unfold vp_updL
      simp
    · simp [vp_updL, hk']
  · rw [List.getElem?_set_ne (fun q => hr q.symm), if_neg (fun q => hr q.1)]
/-! stores -/
def x_ag (ws : va_W) (I L : xF) : Prop := (∀ r k x, y_at ws r k = some x → x.toInt = I r k) ∧ ∀ r k x, x_at ws r k = some x → x.toInt = L r k
def x_u (I : xF) (r k : Nat) (z : Int) : xF := fun r' k' => match Nat.beq r' r with
  | true => match Nat.beq k' k with
    | true => z
    | false => I r' k'
  | false => I r' k'
theorem x_u_if (I : xF) (r k : Nat) (z : Int) (r' k' : Nat) : x_u I r k z r' k' = if r' = r ∧ k' = k then z else I r' k' := by
  unfold x_u
  split
  next h =>
    have := Nat.eq_of_beq_eq_true h
    split
    next h2 =>
      have := Nat.eq_of_beq_eq_true h2
      rw [if_pos ⟨by assumption, this⟩]
    next h2 =>
      rw [if_neg (fun q => by rw [q.2, Nat.beq_refl] at h2; cases h2)]
  next h => rw [if_neg (fun q => by rw [q.1, Nat.beq_refl] at h; cases h)]
theorem x_u_s (I : xF) (r k : Nat) (z : Int) : x_u I r k z r k = z := by rw [x_u_if, if_pos ⟨rfl, rfl⟩]
theorem x_u_k {I : xF} {r k : Nat} {z : Int} {r' k' : Nat} (h : k' ≠ k) : x_u I r k z r' k' = I r' k' := by rw [x_u_if, if_neg (fun q => h q.2)]
theorem x_u_r {I : xF} {r k : Nat} {z : Int} {r' k' : Nat} (h : r' ≠ r) : x_u I r k z r' k' = I r' k' := by rw [x_u_if, if_neg (fun q => h q.1)]
theorem x_ag_i {ws ws' : va_W} {I L : xF} {r k : Nat} {x : Int32} (h : x_ag ws I L) (h1 : ∀ r' k', y_at ws' r' k' = if r' = r ∧ k' = k then some x else y_at ws r' k') (h2 : ∀ r' k', x_at ws' r' k' = x_at ws r' k') : x_ag ws' (x_u I r k x.toInt) L := by
  refine ⟨fun r' k' y hy => ?_, fun r' k' y hy => h.2 r' k' y (by rw [← h2]; exact hy)⟩
  rw [h1] at hy
  rw [x_u_if]
  split at hy
  next hc => cases hy; rw [if_pos hc]
  next hc => rw [if_neg hc]; exact h.1 r' k' y hy
theorem x_ag_l {ws ws' : va_W} {I L : xF} {r k : Nat} {x : Int64} (h : x_ag ws I L) (h1 : ∀ r' k', x_at ws' r' k' = if r' = r ∧ k' = k then some x else x_at ws r' k') (h2 : ∀ r' k', y_at ws' r' k' = y_at ws r' k') : x_ag ws' I (x_u L r k x.toInt) := by
  refine ⟨fun r' k' y hy => h.1 r' k' y (by rw [← h2]; exact hy), fun r' k' y hy => ?_⟩
  rw [h1] at hy
  rw [x_u_if]
  split at hy
  next hc => cases hy; rw [if_pos hc]
  next hc => rw [if_neg hc]; exact h.2 r' k' y hy
/-- the world beside the machine -/
def x_Y (xb : Nat) (kc : Nat → ClassId) (D : va_G) (cl : List vw_C) (A : Nat → Prop) (H0 : Heap) (TY : List (List yC)) (ws0 : va_W) (I L : xF) (ws : va_W) (H : Heap) (locs : List Loc) : Prop :=
  x_ag ws I L ∧ y_w kc (z_ad xb ws0) TY ws ∧ z_ad xb ws = z_ad xb ws0 ∧ va_P D cl ws H ∧ va_D A ws ∧ va_S A H0 H locs
def x_S (xb : Nat) (kc : Nat → ClassId) (D : va_G) (cl : List vw_C) (A : Nat → Prop) (H0 : Heap) (nL : Nat) (TY : List (List yC)) (ws0 : va_W) (lv : List (Nat × xV)) (sv : List xV) (I L : xF) (ls : Array Slot) (stk : List Value) (ws : va_W) (H : Heap) (locs : List Loc) : Prop :=
  x_l (z_ad xb ws0) nL lv ls ∧ z_L (x_v (z_ad xb ws0)) sv stk ∧ x_Y xb kc D cl A H0 TY ws0 I L ws H locs
def x_G (p : Program) (l : Launch) (e : Env) (R : Room) (s : State) (m : MethodId) (args : Array Value) (below : List Frame) (meth : Method) (c : Code) (Q : State → Prop) (xb : Nat) (kc : Nat → ClassId) (D : va_G) (cl : List vw_C) (A : Nat → Prop) (H0 : Heap) (nL : Nat) (TY : List (List yC)) (ws0 : va_W) (nc ns : Nat) (pc : Nat) (lv : List (Nat × xV)) (sv : List xV) (I L : xF) : Prop :=
  ∀ (ls : Array Slot) (stk : List Value) (ws : va_W) (H : Heap) (locs : List Loc), x_S xb kc D cl A H0 nL TY ws0 lv sv I L ls stk ws H locs → W p l e R s m args below meth c H locs nc ns Q (F0 m pc ls stk)
def x_C (EX : (Nat → Prop) → State → Heap → Prop) (TB : List Cond) (NT : List (String × Nat × MethodName × String)) (cl : List vw_C) (kc : Nat → ClassId) (D : va_G) (xb : Nat) (TF : Nat → Nat → FieldType) (P : Nat → Option yM) (p : Program) (R : Room) (s : State) (m : MethodId) (args : Array Value) (meth : Method) (c : Code) (A : Nat → Prop) (H0 : Heap) (ws0 : va_W) (nc ns : Nat) (M : yM) (d : Nat) : Prop :=
  y_ctx EX TB NT cl kc D p R s m args meth c A H0 xb ws0 (z_ad xb ws0) nc ns false d M ∧ y_Mok TB NT cl TF P M ∧ y_all TB NT cl TF P ∧ z_EX EX
theorem x_st1 {R0 : xV → Value → Prop} {a : xV} {r : List xV} {sv : List Value} (h : z_L R0 (a :: r) sv) : ∃ x sv', sv = x :: sv' ∧ R0 a x ∧ z_L R0 r sv' := by
  cases sv with
  | nil => exact h.elim
  | cons x sv' => exact ⟨x, sv', rfl, h.1, h.2⟩
theorem x_cats {ad : Nat → Option Nat} : ∀ {sv : List xV} {stk : List Value}, z_L (x_v ad) sv stk → (sv.map x_cat).sum = (stk.map fun v => v.category).sum
  | [], [], _ => rfl
  | a :: sv, b :: stk, h => by
    rw [List.map_cons, List.map_cons, List.sum_cons, List.sum_cons, x_v_cat h.1, x_cats h.2]
  | [], _ :: _, h => h.elim
  | _ :: _, [], h => h.elim
/-! a long's and an int's own bounds -/
theorem x_lb (x : Int64) : -9223372036854775808 ≤ x.toInt ∧ x.toInt ≤ 9223372036854775807 := ⟨Int64.le_toInt x, Int64.toInt_le x⟩
