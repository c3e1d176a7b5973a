/-! ===== TOKENS of a text, as numbers ===== -/
abbrev t_bl (c : Int) : Prop := c = 32 ∨ c = 10
abbrev t_al (c : Int) : Prop := 97 ≤ c ∧ c ≤ 122
abbrev t_dg (c : Int) : Prop := 48 ≤ c ∧ c ≤ 57
abbrev t_sg (c : Int) : Prop := c = 59 ∨ c = 40 ∨ c = 41 ∨ (60 ≤ c ∧ c ≤ 62)
/-- from x on, over what is so -/
def t_go (G : Int → Bool) (b : Nat → Int) (n : Int) : Nat → Int → Int
  | 0, x => x
  | f + 1, x => if x < n ∧ G (b x.toNat) = true then t_go G b n f (x + 1) else x
def t_over (G : Int → Bool) (b : Nat → Int) (n x : Int) : Int := t_go G b n (n - x).toNat x
theorem t_over_go {G : Int → Bool} {b : Nat → Int} {n x : Int} (h1 : x < n) (h2 : G (b x.toNat) = true) : t_over G b n x = t_over G b n (x + 1) := by
  unfold t_over
  rw [show (n - x).toNat = (n - (x + 1)).toNat + 1 by omega]
  conv => lhs; unfold t_go
  rw [if_pos ⟨h1, h2⟩]
theorem t_over_end {G : Int → Bool} {b : Nat → Int} {n x : Int} (h : ¬ (x < n ∧ G (b x.toNat) = true)) : t_over G b n x = x := by
  unfold t_over
  cases (n - x).toNat with
  | zero => rfl
  | succ f => unfold t_go; rw [if_neg h]
theorem t_go_le {G : Int → Bool} {b : Nat → Int} {n : Int} : ∀ (f : Nat) (x : Int), x ≤ t_go G b n f x ∧ (x ≤ n → t_go G b n f x ≤ n)
  | 0, x => ⟨Int.le_refl _, fun h => h⟩
  | f + 1, x => by
    unfold t_go
    split
    next h =>
      have := t_go_le (G := G) (b := b) (n := n) f (x + 1)
      exact ⟨by omega, fun _ => this.2 (by omega)⟩
    next => exact ⟨Int.le_refl _, fun h => h⟩
theorem t_over_le {G : Int → Bool} {b : Nat → Int} {n x : Int} (h : x ≤ n) : x ≤ t_over G b n x ∧ t_over G b n x ≤ n := ⟨(t_go_le _ _).1, (t_go_le _ _).2 h⟩
def t_isbl (c : Int) : Bool := decide (t_bl c)
def t_isan (c : Int) : Bool := decide (t_al c ∨ t_dg c)
def t_skip (b : Nat → Int) (n x : Int) : Int := t_over t_isbl b n x
def t_end (b : Nat → Int) (n x : Int) : Int := t_over t_isan b n x
theorem t_skip_go {b : Nat → Int} {n x : Int} (h1 : x < n) (h2 : t_bl (b x.toNat)) : t_skip b n x = t_skip b n (x + 1) := t_over_go h1 (decide_eq_true h2)
theorem t_skip_end {b : Nat → Int} {n x : Int} (h : n ≤ x ∨ ¬ t_bl (b x.toNat)) : t_skip b n x = x := t_over_end (fun q => by
  rcases h with h | h
  · omega
  · exact h (of_decide_eq_true q.2))
theorem t_skip_le {b : Nat → Int} {n x : Int} (h : x ≤ n) : x ≤ t_skip b n x ∧ t_skip b n x ≤ n := t_over_le h
theorem t_end_go {b : Nat → Int} {n x : Int} (h1 : x < n) (h2 : t_al (b x.toNat) ∨ t_dg (b x.toNat)) : t_end b n x = t_end b n (x + 1) := t_over_go h1 (decide_eq_true h2)
theorem t_end_end {b : Nat → Int} {n x : Int} (h : n ≤ x ∨ ¬ (t_al (b x.toNat) ∨ t_dg (b x.toNat))) : t_end b n x = x := t_over_end (fun q => by
  rcases h with h | h
  · omega
  · exact h (of_decide_eq_true q.2))
theorem t_end_le {b : Nat → Int} {n x : Int} (h : x ≤ n) : x ≤ t_end b n x ∧ t_end b n x ≤ n := t_over_le h
/-- how many letters among the first k from x on -/
def t_nl (b : Nat → Int) (x : Int) : Nat → Int
  | 0 => 0
  | k + 1 => t_nl b x k + (if t_al (b (x.toNat + k)) then 1 else 0)
def t_sp (b : Nat → Int) (x : Int) : Nat → Int
  | 0 => 0
  | k + 1 => t_sp b x k * 32 + (b (x.toNat + k) - 96)
def t_val (b : Nat → Int) (x : Int) : Nat → Int
  | 0 => 0
  | k + 1 => t_val b x k * 10 + (b (x.toNat + k) - 48)
theorem t_nl_b {b : Nat → Int} {x : Int} : ∀ k : Nat, 0 ≤ t_nl b x k ∧ t_nl b x k ≤ k
  | 0 => ⟨Int.le_refl _, Int.le_refl _⟩
  | k + 1 => by
    have := t_nl_b (b := b) (x := x) k
    unfold t_nl
    split <;> omega
/-- letters alone: seven fit -/
theorem t_sp_b {b : Nat → Int} {x : Int} : ∀ k : Nat, t_nl b x k = k → 0 ≤ t_sp b x k ∧ t_sp b x k < (32 : Int) ^ k
  | 0, _ => ⟨Int.le_refl _, (by decide : (0 : Int) < 1)⟩
  | k + 1, h => by
    have h0 := t_nl_b (b := b) (x := x) k
    unfold t_nl at h
    split at h
    next ha =>
      have := t_sp_b (b := b) (x := x) k (by omega)
      unfold t_sp
      rw [Int.pow_succ]
      omega
    next => omega
theorem t_val_b {b : Nat → Int} {x : Int} : ∀ k : Nat, t_nl b x k = 0 → (∀ j, j < k → t_al (b (x.toNat + j)) ∨ t_dg (b (x.toNat + j))) → 0 ≤ t_val b x k ∧ t_val b x k < (10 : Int) ^ k
  | 0, _, _ => ⟨Int.le_refl _, (by decide : (0 : Int) < 1)⟩
  | k + 1, h, ha => by
    have h0 := t_nl_b (b := b) (x := x) k
    unfold t_nl at h
    split at h
    next => omega
    next hn =>
      have := t_val_b (b := b) (x := x) k (by omega) (fun j hj => ha j (by omega))
      have h9 := ha k (by omega)
      unfold t_val
      rw [Int.pow_succ]
      rcases h9 with h9 | h9
      · exact absurd h9 hn
      · have := h9.1
        have := h9.2
        omega
/-- kind (0 end, 1 none, 2 letters, 4 NUMBER, 5 sign), place, where the next begins, value -/
def t_tok (b : Nat → Int) (n most pos : Int) : Int × Int × Int × Int :=
  if n ≤ t_skip b n pos ∨ most ≤ t_skip b n pos then (if most < n then (1, most, most, 0) else (0, n, n, 0))
  else if t_end b n (t_skip b n pos) = t_skip b n pos then (if t_sg (b (t_skip b n pos).toNat) then (5, t_skip b n pos, t_skip b n pos + 1, b (t_skip b n pos).toNat) else (1, t_skip b n pos, t_skip b n pos + 1, 0))
  else if t_nl b (t_skip b n pos) (t_end b n (t_skip b n pos) - t_skip b n pos).toNat = (t_end b n (t_skip b n pos) - t_skip b n pos).toNat ∧ (t_end b n (t_skip b n pos) - t_skip b n pos).toNat ≤ 7 then (2, t_skip b n pos, t_end b n (t_skip b n pos), t_sp b (t_skip b n pos) (t_end b n (t_skip b n pos) - t_skip b n pos).toNat)
  else if t_nl b (t_skip b n pos) (t_end b n (t_skip b n pos) - t_skip b n pos).toNat = 0 ∧ (t_end b n (t_skip b n pos) - t_skip b n pos).toNat ≤ 3 then (4, t_skip b n pos, t_end b n (t_skip b n pos), t_val b (t_skip b n pos) (t_end b n (t_skip b n pos) - t_skip b n pos).toNat)
  else (1, t_skip b n pos, t_end b n (t_skip b n pos), 0)
