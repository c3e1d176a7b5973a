/-! ===== the world when both objects are made keeps its types ===== -/
def zy_i (t : zI) (lo hi : Int) : Bool := match t with
  | .inl (some c) => decide (lo ≤ c.toInt) && decide (c.toInt ≤ hi)
  | _ => false
def zy_v (t : zV) (u : yT) : Bool := match t, u with
  | .inl x, .inl (lo, hi) => zy_i x lo hi
  | .inr (.inl o), .inr (.inl rs) => rs.any (fun r => decide (r = o))
  | .inr (.inr _), .inr (.inr _) => true
  | _, _ => false
def zy_vs : List zV → List yT → Bool
  | [], [] => true
  | a :: as, b :: bs => zy_v a b && zy_vs as bs
  | _, _ => false
def zy_is : List zI → List (Nat × Int × Int) → Bool
  | es, [] => es.isEmpty
  | es, (n, lo, hi) :: r => Nat.ble n es.length && ((es.take n).all (fun t => zy_i t lo hi) && zy_is (es.drop n) r)
def zy_ls : List (Option Int) → List Int → Bool
  | _, [] => true
  | e :: es, c :: cs => decide (e = some c) && zy_ls es cs
  | [], _ :: _ => false
theorem zy_ls_ok : ∀ {es : List (Option Int)} {cs : List Int}, zy_ls es cs = true → ∀ (j : Nat) (x : Int), cs[j]? = some x → es[j]? = some (some x)
  | _, [], _, j, x, h => by simp at h
  | e :: es, c :: cs, h, 0, x, hx => by
    unfold zy_ls at h
    rw [Bool.and_eq_true] at h
    simp only [List.getElem?_cons_zero, Option.some.injEq] at hx ⊢
    subst hx
    exact of_decide_eq_true h.1
  | e :: es, c :: cs, h, j + 1, x, hx => by
    unfold zy_ls at h
    rw [Bool.and_eq_true] at h
    simp only [List.getElem?_cons_succ] at hx ⊢
    exact zy_ls_ok h.2 j x hx
  | [], _ :: _, h, _, _, _ => by cases h
def zy_c (c : zC) (t : yC) : Bool := match c, t with
  | .inl (ci, fs), .inl (cj, ts) => decide (ci = cj) && zy_vs fs ts
  | .inr (.inl (k, es)), .inr (.inl (k', sg)) => decide (k = k') && zy_is es sg
  | .inr (.inr (.inl es)), .inr (.inr (.inl (n', cs))) => decide (es.length = n') && (y_ok0 cs && zy_ls es cs)
  | .inr (.inr (.inr (k, es))), .inr (.inr (.inr (k', es'))) => decide (k = k') && decide (es = es')
  | _, _ => false
theorem zy_i_ok {env : Nat → Int32} {t : zI} {lo hi : Int} (h : zy_i t lo hi = true) {x : Int32} (hx : z_i env t x) : lo ≤ x.toInt ∧ x.toInt ≤ hi := by
  unfold zy_i at h
  split at h
  next c =>
    rw [Bool.and_eq_true] at h
    have hx : x = c := hx
    subst hx
    exact ⟨of_decide_eq_true h.1, of_decide_eq_true h.2⟩
  next => cases h
theorem zy_v_ok {env : Nat → Int32} {ad : Nat → Option Nat} {t : zV} {u : yT} (h : zy_v t u = true) {v : Value} (hv : z_v env ad t v) : y_tv ad u v := by
  unfold zy_v at h
  split at h
  next x lo hi =>
    obtain ⟨z, rfl, hz⟩ := hv
    exact ⟨z, rfl, zy_i_ok h hz⟩
  next o rs =>
    obtain ⟨r, hr, he⟩ := List.any_eq_true.mp h
    obtain rfl := of_decide_eq_true he
    refine ⟨r, hr, ?_⟩
    match r, hv with
    | none, hv => exact hv
    | some i, hv => exact hv
  next => obtain ⟨x, hx, _⟩ := hv; exact ⟨x, hx⟩
  next => cases h
theorem zy_vs_ok {env : Nat → Int32} {ad : Nat → Option Nat} : ∀ {fs : List zV} {ts : List yT} {vs : List Value}, zy_vs fs ts = true → z_L (z_v env ad) fs vs → z_L (y_tv ad) ts vs
  | [], [], [], _, _ => trivial
  | a :: as, b :: bs, v :: vs, h, hv => by
    unfold zy_vs at h
    rw [Bool.and_eq_true] at h
    exact ⟨zy_v_ok h.1 hv.1, zy_vs_ok h.2 hv.2⟩
  | [], _ :: _, _, h, _ => by cases h
  | _ :: _, [], _, h, _ => by cases h
  | [], [], _ :: _, _, hv => hv.elim
  | _ :: _, _ :: _, [], _, hv => hv.elim
theorem zy_is_ok : ∀ {sg : List (Nat × Int × Int)} {es : List zI}, zy_is es sg = true → es.length = y_len sg ∧ ∀ (j : Nat) (lo hi : Int), y_seg sg j = some (lo, hi) → ∃ t, es[j]? = some t ∧ zy_i t lo hi = true
  | [], es, h => by
    unfold zy_is at h
    rw [List.isEmpty_iff.mp h]
    exact ⟨rfl, fun j lo hi e => by cases e⟩
  | (n, lo, hi) :: r, es, h => by
    unfold zy_is at h
    simp only [Bool.and_eq_true] at h
    obtain ⟨h1, h2, h3⟩ := h
    have h1 := Nat.le_of_ble_eq_true h1
    obtain ⟨g1, g2⟩ := zy_is_ok h3
    rw [List.length_drop] at g1
    refine ⟨by unfold y_len; omega, fun j lo' hi' e => ?_⟩
    unfold y_seg at e
    split at e
    next hj =>
      cases e
      have hlt : j < es.length := by omega
      refine ⟨es[j], List.getElem?_eq_getElem hlt, List.all_eq_true.mp h2 _ ?_⟩
      refine List.mem_of_getElem? (i := j) ?_
      rw [List.getElem?_take_of_lt hj, List.getElem?_eq_getElem hlt]
    next hj =>
      obtain ⟨t, t1, t2⟩ := g2 (j - n) lo' hi' e
      rw [List.getElem?_drop, show n + (j - n) = j by omega] at t1
      exact ⟨t, t1, t2⟩
theorem zy_c_ok {env : Nat → Int32} {kc : Nat → ClassId} {ad : Nat → Option Nat} {c : zC} {t : yC} (h : zy_c c t = true) {q : va_E} (hq : z_c env kc ad c q) : y_c kc ad t q := by
  unfold zy_c at h
  split at h
  next ci fs cj ts =>
    rw [Bool.and_eq_true] at h
    obtain rfl := of_decide_eq_true h.1
    obtain ⟨vs, rfl, hv⟩ := hq
    exact ⟨vs, rfl, zy_vs_ok h.2 hv⟩
  next k es k' sg =>
    rw [Bool.and_eq_true] at h
    obtain rfl := of_decide_eq_true h.1
    obtain ⟨f, rfl, hf⟩ := hq
    obtain ⟨g1, g2⟩ := zy_is_ok h.2
    rw [g1]
    refine ⟨f, rfl, fun j lo hi e => ?_⟩
    obtain ⟨t, t1, t2⟩ := g2 j lo hi e
    exact zy_i_ok t2 (hf j t t1)
  next es n' cs =>
    rw [Bool.and_eq_true, Bool.and_eq_true] at h
    obtain rfl := of_decide_eq_true h.1
    obtain ⟨f, rfl, hf⟩ := hq
    exact ⟨f, rfl, fun j x hj => hf j _ (zy_ls_ok h.2.2 j x ((y_lc_0 h.2.1 j).symm.trans hj)) x rfl⟩
  next k es k' es' =>
    rw [Bool.and_eq_true] at h
    obtain rfl := of_decide_eq_true h.1
    obtain rfl := of_decide_eq_true h.2
    exact hq
  next => cases h
theorem zy_all : ((List.range 226).all fun r => match zw0[r]?, y_T yTY r with
  | some c, some t => zy_c c t
  | _, _ => false) = true := by decide +kernel
theorem zy_no : ((List.range 240).all fun r => Nat.blt r 226 || (y_T yTY r).isNone) = true := by decide +kernel
theorem zy_lt {r : Nat} {c : yC} (h : y_T yTY r = some c) : r < 226 := by
  have h1 : r / 16 < 15 := by
    unfold y_T at h
    split at h
    next row hr => exact (List.getElem?_eq_some_iff.mp hr).1
    next => cases h
  have h2 := List.all_eq_true.mp zy_no r (List.mem_range.mpr (by omega))
  rw [h, Bool.or_eq_true] at h2
  rcases h2 with h2 | h2
  · simpa using h2
  · cases h2
theorem zy_w {xb : Nat} {env : Nat → Int32} {kc : Nat → ClassId} {ws : va_W} (h : z_w xb env kc zw0 ws) : y_w kc (z_ad xb ws) yTY ws := by
  intro r c hc
  have h2 := List.all_eq_true.mp zy_all r (List.mem_range.mpr (zy_lt hc))
  rw [hc] at h2
  split at h2
  next c0 t h3 h4 =>
    cases h4
    obtain ⟨q, q1, q2⟩ := z_L_get h h3
    exact ⟨q.1, q.2, q1, zy_c_ok h2 q2⟩
  next => cases h2
/-- an int array of zeros -/
def zy_z (c : Option zC) (ks : List Nat) : Bool := match c with
  | some (.inr (.inl (_, es))) => ks.all (fun k => match es[k]? with
    | some (.inl (some x)) => decide (x.toInt = 0)
    | _ => false)
  | _ => false
theorem zy_z_ok {xb : Nat} {env : Nat → Int32} {kc : Nat → ClassId} {ws : va_W} (h : z_w xb env kc zw0 ws) {r : Nat} {ks : List Nat} (hz : zy_z zw0[r]? ks = true) {k : Nat} (hk : k ∈ ks) {x : Int32} (hx : y_at ws r k = some x) : x.toInt = 0 := by
  unfold zy_z at hz
  split at hz
  next kk es he =>
    have h2 := List.all_eq_true.mp hz k hk
    obtain ⟨q, q1, f, q2, hf⟩ := z_L_get h he
    obtain ⟨a, e⟩ := q
    dsimp only at q2
    subst q2
    unfold y_at at hx
    rw [q1] at hx
    dsimp only at hx
    split at hx
    next =>
      cases hx
      split at h2
      next x0 hx0 =>
        have h4 : f k = x0 := hf k _ hx0
        rw [h4]
        exact of_decide_eq_true h2
      next => cases h2
    next => cases hx
  next => cases hz
theorem zy_len {xb : Nat} {env : Nat → Int32} {kc : Nat → ClassId} {ws : va_W} (h : z_w xb env kc zw0 ws) {r k0 : Nat} {es : List zI} (he : zw0[r]? = some (.inr (.inl (k0, es)))) {j : Nat} {x : Int32} (hx : y_at ws r j = some x) : j < es.length := by
  obtain ⟨q, q1, f, q2, hf⟩ := z_L_get h he
  obtain ⟨a, e⟩ := q
  dsimp only at q2
  subst q2
  unfold y_at at hx
  rw [q1] at hx
  dsimp only at hx
  split at hx
  next hj => exact hj
  next => cases hx
def zy_g (g : yGr) : Bool := decide (1 ≤ g.2.1.1) && (match zw0[g.1]? with
  | some (.inr (.inl (_, es))) => zy_z zw0[g.1]? (List.range es.length)
  | _ => false)
theorem zy_gs : (yGR.all zy_g) = true := by decide +kernel
theorem zy_Go {xb : Nat} {env : Nat → Int32} {kc : Nat → ClassId} {ws : va_W} (h : z_w xb env kc zw0 ws) : y_Go yGR ws := by
  intro i g hg j x hx h1 h2
  have h3 := List.all_eq_true.mp zy_gs g (List.mem_of_getElem? hg)
  unfold zy_g at h3
  rw [Bool.and_eq_true] at h3
  obtain ⟨g1, g2⟩ := h3
  have g1 := of_decide_eq_true g1
  split at g2
  next k0 es he =>
    have h4 := zy_z_ok h g2 (List.mem_range.mpr (zy_len h he hx)) hx
    omega
  next => cases g2
theorem zy_z1 : zy_z zw0[211]? [118] = true := by decide +kernel
theorem zy_z2 : zy_z zw0[222]? [118, 417] = true := by decide +kernel
theorem zy_R {xb : Nat} {env : Nat → Int32} {kc : Nat → ClassId} {ws : va_W} (h : z_w xb env kc zw0 ws) : w_R ws := by
  have h0 : ∀ r o, (∀ n : Int32, y_at ws r o = some n → n.toInt = 0) → w_WF ws r o := fun r o hz n hn i hi => by
    have := hz n hn
    rw [show i = 0 by omega]
    exact ⟨0, rfl⟩
  have a1 : ∀ n : Int32, y_at ws 211 118 = some n → n.toInt = 0 := fun n hn => zy_z_ok h zy_z1 List.mem_cons_self hn
  have a2 : ∀ n : Int32, y_at ws 222 118 = some n → n.toInt = 0 := fun n hn => zy_z_ok h zy_z2 List.mem_cons_self hn
  have a3 : ∀ n : Int32, y_at ws 222 417 = some n → n.toInt = 0 := fun n hn => zy_z_ok h zy_z2 (List.mem_cons_of_mem _ List.mem_cons_self) hn
  exact ⟨⟨h0 _ _ a1, h0 _ _ a2, h0 _ _ a3⟩, fun n hn => by rw [a1 n hn]; decide, fun n hn => by rw [a2 n hn]; decide, fun n hn => by rw [a3 n hn]; decide⟩
