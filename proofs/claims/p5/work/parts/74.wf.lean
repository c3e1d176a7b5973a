/-! ===== the codes of a SENTENCE are in order ===== -/
def w_D (f : Nat → Option Int32) : Nat → Option Nat
  | 0 => some 0
  | i + 1 => match w_D f i, f i with
    | some d, some x => if x.toInt = 20 then (if 1 ≤ d then some d else none) else if x.toInt = 21 ∨ x.toInt = 22 then (if 2 ≤ d then some (d - 1) else none) else some (d + 1)
    | _, _ => none
def w_at (ws : va_W) (r o i : Nat) : Option Int32 := y_at ws r (o + 1 + 3 * i)
def w_WF (ws : va_W) (r o : Nat) : Prop := ∀ n : Int32, y_at ws r o = some n → ∀ i : Nat, (i : Int) ≤ n.toInt → ∃ d, w_D (w_at ws r o) i = some d
def w_RI (ws : va_W) : Prop := w_WF ws 211 118 ∧ w_WF ws 222 118 ∧ w_WF ws 222 417
theorem w_D_le {f : Nat → Option Int32} : ∀ {i d : Nat}, w_D f i = some d → d ≤ i
  | 0, d, h => by cases h; exact Nat.le_refl _
  | i + 1, d, h => by
    unfold w_D at h
    split at h
    next d0 x h1 h2 =>
      have := w_D_le h1
      split at h
      next =>
        split at h
        next => cases h; omega
        next => cases h
      next =>
        split at h
        next =>
          split at h
          next => cases h; omega
          next => cases h
        next => cases h; omega
    next => cases h
theorem w_D_same {f g : Nat → Option Int32} : ∀ {i : Nat}, (∀ j, j < i → f j = g j) → w_D f i = w_D g i
  | 0, _ => rfl
  | i + 1, h => by
    unfold w_D
    rw [w_D_same (fun j hj => h j (by omega)), h i (by omega)]
/-- where the cells of a row stay, the codes stay in order -/
theorem w_WF_same {ws ws' : va_W} {r o : Nat} (h : ∀ k, o ≤ k → k ≤ o + 180 → y_at ws' r k = y_at ws r k) (hn : ∀ n : Int32, y_at ws r o = some n → n.toInt ≤ 59) (hw : w_WF ws r o) : w_WF ws' r o := by
  intro n hn' i hi
  rw [h o (Nat.le_refl _) (by omega)] at hn'
  obtain ⟨d, hd⟩ := hw n hn' i hi
  have := hn n hn'
  exact ⟨d, by rw [← hd]; exact w_D_same (fun j hj => h _ (by omega) (by omega))⟩
/-! ===== isSaid ===== -/
def h_said (a : Nat × Nat) : yCut := match a.2 with
  | 0 => (4, [(0, .inr (some 210)), (1, .inl (0, 7)), (2, .inl (0, 44)), (3, .inl (a.1, a.1))], [], [], false)
  | 1 => (4, [(0, .inr (some 210)), (1, .inl (0, 7)), (2, .inl (1, 44)), (3, .inl (a.1, a.1))], [((211, 118), (a.1 + 1, 44), none), ((211, 119 + 3 * a.1), (20, 20), none)], [], false)
  | 2 => (4, [(0, .inr (some 210)), (1, .inl (0, 7)), (2, .inl (2, 44)), (3, .inl (a.1, a.1))], [((211, 118), (a.1 + 1, 44), none), ((211, 119 + 3 * a.1), (21, 22), none)], [], false)
  | 3 => (4, [(0, .inr (some 210)), (1, .inl (0, 7)), (2, .inl (0, 43)), (3, .inl (a.1, a.1))], [((211, 118), (a.1 + 1, 44), none), ((211, 119 + 3 * a.1), (0, 19), none)], [], false)
  | 4 => (4, [(0, .inr (some 210)), (1, .inl (0, 7)), (2, .inl (0, 44)), (3, .inl (a.1, a.1))], [((211, 118), (0, a.1), none)], [], false)
  | _ => (0, [(0, .inr (some 210)), (1, .inl (0, 7))], [], [], false)
def h_saidE : yR := [(221, 0, 44)]
def h_cut (h : yCut) : Nat → yB → yS → Bool := fun pc B z => y_hit yTYV 0 B pc z h
/-- a run that comes to another head, a local grown by k -/
def h_saidJ (a b : Nat × Nat) (k : Int) : Bool := match yP0 271 with
  | some M => match y_run yP0 yTYV zTF h_saidE [] yGR (y_ct yCTabV yTYV [] h_saidE 20) 400 false 20 M (h_cut (h_said b)) true (y_cst (0, []) (h_said a)).1 (h_said a).1 (y_cst (0, []) (h_said a)).2 with
    | some es => es.all (fun q => y_hit yTYV 0 q.1 q.2.1 q.2.2 (h_said b) && (match y_get q.2.2.1 2 with
      | some (.inl t) => y_eqI t (.inr (1, k))
      | _ => false))
    | none => false
  | none => false
def h_saidS : Bool := match yP0 271 with
  | some M => match y_run yP0 yTYV zTF h_saidE [] yGR (y_ct yCTabV yTYV [] h_saidE 20) 400 false 20 M (h_cut (h_said (0, 0))) true (y_cst (0, []) (h_said (0, 9))).1 (h_said (0, 9)).1 (y_cst (0, []) (h_said (0, 9))).2 with
    | some es => es.all (fun q => y_hit yTYV 0 q.1 q.2.1 q.2.2 (h_said (0, 0)) && (match y_get q.2.2.1 2 with
      | some (.inl t) => y_eqI t (.inl 0)
      | _ => false))
    | none => false
  | none => false
def h_saidR (a : Nat × Nat) : Bool := match yP0 271 with
  | some M => match y_run yP0 yTYV zTF h_saidE [] yGR (y_ct yCTabV yTYV [] h_saidE 20) 400 false 20 M (fun _ _ _ => false) true (y_cst (0, []) (h_said a)).1 (h_said a).1 (y_cst (0, []) (h_said a)).2 with
    | some es => es.all (fun q => q.2.2.2.2.2.2.1.isEmpty && (q.2.2.2.2.2.2.2.isEmpty && (match y_res M.2.2.2.2.1 M.2.2.2.1 q.1 q.2.1 q.2.2.2.1 with
      | some (some (.inl t)) => decide (0 ≤ (y_rng q.1 t).1) && decide ((y_rng q.1 t).2 ≤ 1)
      | _ => false)))
    | none => false
  | none => false
theorem h_said1 : ((List.range 44).all fun c => h_saidJ (c, 1) (c + 1, 0) 0) = true := by decide +kernel
theorem h_said2 : ((List.range 44).all fun c => h_saidJ (c, 2) (c + 1, 0) (-1)) = true := by decide +kernel
theorem h_said3 : ((List.range 44).all fun c => h_saidJ (c, 3) (c + 1, 0) 1) = true := by decide +kernel
theorem h_said4 : ((List.range 45).all fun c => h_saidR (c, 4)) = true := by decide +kernel
theorem h_said5 : h_saidS = true := by decide +kernel
