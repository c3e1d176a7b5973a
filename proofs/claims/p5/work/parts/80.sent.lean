/-! ===== the reference reads a SENTENCE: what holds of codes and stack ===== -/
def hs_cell (ws : va_W) (r k n : Nat) : Prop := ∃ x : Int32, y_at ws r k = some x ∧ x.toInt = (n : Int)
theorem hs_cell_eq {ws : va_W} {r k n : Nat} {x : Int32} (h : hs_cell ws r k n) (hx : y_at ws r k = some x) : x.toInt = (n : Int) := by
  obtain ⟨y, h1, h2⟩ := h
  rw [hx] at h1
  cases h1
  exact h2
theorem hs_cell_fr {ws ws' : va_W} {r k n : Nat} (h : y_at ws' r k = y_at ws r k) (hc : hs_cell ws r k n) : hs_cell ws' r k n := by
  obtain ⟨x, h1, h2⟩ := hc
  exact ⟨x, h.trans h1, h2⟩
def hs_b (o : Option Int32) : Nat := match o with
  | some x => if x.toInt = 21 ∨ x.toInt = 22 then 1 else 0
  | none => 0
/-- how many joins wait on the stack -/
def hs_A (f : Nat → Option Int32) : Nat → Nat
  | 0 => 0
  | t + 1 => hs_A f t + hs_b (f t)
theorem hs_A_same {f g : Nat → Option Int32} : ∀ {t : Nat}, (∀ j, j < t → f j = g j) → hs_A f t = hs_A g t
  | 0, _ => rfl
  | t + 1, h => by
    unfold hs_A
    rw [hs_A_same (fun j hj => h j (by omega)), h t (by omega)]
def hs_rd (ws : va_W) (i : Nat) : Option Int32 := y_at ws 213 (3 * i)
def hs_sk (ws : va_W) (i : Nat) : Option Int32 := y_at ws 220 i
def hs_V (ws : va_W) (c t o w d : Nat) : Prop := hs_cell ws 209 40 c ∧ hs_cell ws 209 42 t ∧ hs_cell ws 209 41 o ∧ hs_cell ws 209 44 w ∧ w_D (hs_rd ws) c = some d ∧ hs_A (hs_sk ws) t + w ≤ d ∧ c + t + w ≤ 2 * o ∧ o ≤ 20
def hs_I (ws : va_W) : Prop := ∃ c t o w d, hs_V ws c t o w d
def hs_RC : yR := [(209, 40, 42), (209, 44, 44), (213, 0, 134), (220, 0, 44)]
theorem hs_RI : y_RI hs_RC hs_I := by
  intro u v h ⟨c, t, o, w, d, h1, h2, h3, h4, h5, h6, h7, h8⟩
  have hin : ∀ r a b, (r, a, b) ∈ hs_RC → ∀ k, a ≤ k → k ≤ b → y_at v r k = y_at u r k := fun r a b hm k g1 g2 => h r k (y_in_row hm g1 g2)
  refine ⟨c, t, o, w, d, hs_cell_fr (hin 209 40 42 (by decide) _ (by decide) (by decide)) h1, hs_cell_fr (hin 209 40 42 (by decide) _ (by decide) (by decide)) h2, hs_cell_fr (hin 209 40 42 (by decide) _ (by decide) (by decide)) h3, hs_cell_fr (hin 209 44 44 (by decide) _ (by decide) (by decide)) h4, ?_, ?_, h7, h8⟩
  · rw [← h5]
    exact w_D_same (fun j hj => hin 213 0 134 (by decide) _ (by omega) (by omega))
  · rw [hs_A_same (f := hs_sk v) (g := hs_sk u) (t := t) (fun j hj => hin 220 0 44 (by decide) _ (by omega) (by omega))]
    exact h6
/-- one code more -/
theorem hs_D20 {f g : Nat → Option Int32} {c d : Nat} {x : Int32} (hs : ∀ j, j < c → g j = f j) (h : w_D f c = some d) (hx : g c = some x) (h20 : x.toInt = 20) (hd : 1 ≤ d) : w_D g (c + 1) = some d := by
  unfold w_D
  rw [w_D_same hs, h, hx]
  dsimp only
  rw [if_pos h20, if_pos hd]
theorem hs_D21 {f g : Nat → Option Int32} {c d : Nat} {x : Int32} (hs : ∀ j, j < c → g j = f j) (h : w_D f c = some d) (hx : g c = some x) (h21 : x.toInt = 21 ∨ x.toInt = 22) (hd : 2 ≤ d) : w_D g (c + 1) = some (d - 1) := by
  unfold w_D
  rw [w_D_same hs, h, hx]
  dsimp only
  rw [if_neg (by omega), if_pos h21, if_pos hd]
theorem hs_D0 {f g : Nat → Option Int32} {c d : Nat} {x : Int32} (hs : ∀ j, j < c → g j = f j) (h : w_D f c = some d) (hx : g c = some x) (h0 : x.toInt ≤ 19) : w_D g (c + 1) = some (d + 1) := by
  unfold w_D
  rw [w_D_same hs, h, hx]
  dsimp only
  rw [if_neg (by omega), if_neg (by omega)]
def hq_run (jm : Nat) (CT : List (List (List yCon))) (n d fu : Nat) (E RC : yR) (cps : List Nat) (h : yCut) : Option (List (yB × Nat × yS)) := match yP0 jm with
  | some M => y_run yP0 yTY zTF E RC yGR (y_ct CT yTY RC E n) fu false d M (fun pc _ _ => cps.contains pc) true (y_cst (0, []) h).1 h.1 (y_cst (0, []) h).2
  | none => none
def hq_runV (jm : Nat) (CT : List (List (List yCon))) (n d fu : Nat) (E RC : yR) (cps : List Nat) (h : yCut) : Option (List (yB × Nat × yS)) := match yP0 jm with
  | some M => y_run yP0 yTYV zTF E RC yGR (y_ct CT yTYV RC E n) fu false d M (fun pc _ _ => cps.contains pc) true (y_cst (0, []) h).1 h.1 (y_cst (0, []) h).2
  | none => none
/-- a cell, as it is known -/
def hq_k (q : yB × Nat × yS) (r k : Nat) : Option yI := y_kget q.2.2.2.2.1 r (.inl (Int.ofNat k))
def hq_k0 (h : yCut) (r k : Nat) : Option yI := y_kget (y_cst (0, []) h).2.2.2.1 r (.inl (Int.ofNat k))
/-- it is the elder one and so much more -/
def hq_ad (a b : Option yI) (c : Int) : Bool := match a, b with
  | some (.inr (i, d)), some (.inr (j, e)) => decide (i = j) && decide (e = d + c)
  | some (.inl d), some (.inl e) => decide (e = d + c)
  | _, _ => false
def hq_in (q : yB × Nat × yS) (a : Option yI) (lo hi : Int) : Bool := match a with
  | some t => decide (lo ≤ (y_rng q.1 t).1) && decide ((y_rng q.1 t).2 ≤ hi)
  | none => false
theorem hq_ad_ok {a b : Option yI} {c : Int} (h : hq_ad a b c = true) : ∃ t t', a = some t ∧ b = some t' ∧ ∀ (env : List Int) (x y : Int), y_e env t = some x → y_e env t' = some y → y = x + c := by
  unfold hq_ad at h
  split at h
  next i d j e =>
    simp only [Bool.and_eq_true, decide_eq_true_eq] at h
    obtain ⟨rfl, rfl⟩ := h
    refine ⟨_, _, rfl, rfl, fun env x y hx hy => ?_⟩
    unfold y_e at hx hy
    dsimp only at hx hy
    obtain ⟨u, u1, u2⟩ := Option.map_eq_some_iff.mp hx
    rw [u1] at hy
    have : u + (d + c) = y := Option.some.inj hy
    omega
  next d e =>
    refine ⟨_, _, rfl, rfl, fun env x y hx hy => ?_⟩
    have h1 := of_decide_eq_true h
    have h2 : d = x := Option.some.inj hx
    have h3 : e = y := Option.some.inj hy
    omega
  next => cases h
theorem hq_in_ok {q : yB × Nat × yS} {a : Option yI} {lo hi : Int} (h : hq_in q a lo hi = true) : ∃ t, a = some t ∧ ∀ (env : List Int) (x : Int), y_B q.1 env → y_e env t = some x → lo ≤ x ∧ x ≤ hi := by
  unfold hq_in at h
  split at h
  next t =>
    rw [Bool.and_eq_true] at h
    refine ⟨t, rfl, fun env x hB hx => ?_⟩
    have r := y_rng_ok hB hx
    have h1 := of_decide_eq_true h.1
    have h2 := of_decide_eq_true h.2
    omega
  next => cases h
/-- a cell at the end of a stretch is the one at its beginning and so much more -/
theorem hq_ad_cell {h : yCut} {q : yB × Nat × yS} {r k : Nat} {c : Int} {e0 env : List Int} {ws ws' : va_W} (hc : hq_ad (hq_k0 h r k) (hq_k q r k) c = true) (hk0 : y_k e0 ws (y_cst (0, []) h).2.2.2.1) (hk : y_k env ws' q.2.2.2.2.1) (he : e0 <+: env) : ∃ x x' : Int32, y_at ws r k = some x ∧ y_at ws' r k = some x' ∧ x'.toInt = x.toInt + c := by
  obtain ⟨t, t', h1, h2, h3⟩ := hq_ad_ok hc
  obtain ⟨x, x1, x2⟩ := y_kcell hk0 h1
  obtain ⟨x', y1, y2⟩ := y_kcell hk h2
  exact ⟨x, x', x1, y1, h3 env _ _ (y_e_mono he x2) y2⟩
theorem hq_in_cell {q : yB × Nat × yS} {r k : Nat} {lo hi : Int} {env : List Int} {ws' : va_W} (hc : hq_in q (hq_k q r k) lo hi = true) (hk : y_k env ws' q.2.2.2.2.1) (hB : y_B q.1 env) : ∃ x' : Int32, y_at ws' r k = some x' ∧ lo ≤ x'.toInt ∧ x'.toInt ≤ hi := by
  obtain ⟨t, h1, h2⟩ := hq_in_ok hc
  obtain ⟨x, x1, x2⟩ := y_kcell hk h1
  exact ⟨x, x1, h2 env _ hB x2⟩
/-- the same, of what the head says -/
theorem hq_k0_cell {h : yCut} {r k : Nat} {c : Int} {e0 : List Int} {ws : va_W} (hc : hq_k0 h r k = some (.inl c)) (hk0 : y_k e0 ws (y_cst (0, []) h).2.2.2.1) : ∃ x : Int32, y_at ws r k = some x ∧ x.toInt = c := by
  obtain ⟨x, x1, x2⟩ := y_kcell hk0 hc
  exact ⟨x, x1, (Option.some.inj x2).symm⟩
