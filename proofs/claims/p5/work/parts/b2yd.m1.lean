/-! ===== a SENTENCE, as a machine over TOKENS ===== -/
theorem t_go_al2 {G : Int → Bool} {b : Nat → Int} {n : Int} : ∀ (f : Nat) (x j : Int), x ≤ j → j < t_go G b n f x → G (b j.toNat) = true
  | 0, x, j, h1, h2 => by
    unfold t_go at h2
    omega
  | f + 1, x, j, h1, h2 => by
    unfold t_go at h2
    split at h2
    next h =>
      by_cases hj : j = x
      · subst hj
        exact h.2
      · exact t_go_al2 f (x + 1) j (by omega) h2
    next => omega
theorem x_pow3 : ∀ {k : Nat}, k ≤ 3 → (10 : Int) ^ k ≤ 1000
  | 0, _ => by decide
  | 1, _ => by decide
  | 2, _ => by decide
  | 3, _ => by decide
  | k + 4, h => by omega
/-- a NUMBER has three digits at most -/
theorem t_tok_n9 {b : Nat → Int} {n most pos : Int} (h0 : 0 ≤ pos) (h1 : pos ≤ n) (h : (t_tok b n most pos).1 = 4) : 0 ≤ (t_tok b n most pos).2.2.2 ∧ (t_tok b n most pos).2.2.2 ≤ 999 := by
  have hs := t_skip_le (b := b) h1
  unfold t_tok at h ⊢
  split at h
  next =>
    split at h
    · exact absurd (show (1 : Int) = 4 from h) (by decide)
    · exact absurd (show (0 : Int) = 4 from h) (by decide)
  next hc =>
    rw [if_neg hc]
    split at h
    next =>
      split at h
      · exact absurd (show (5 : Int) = 4 from h) (by decide)
      · exact absurd (show (1 : Int) = 4 from h) (by decide)
    next hc2 =>
      rw [if_neg hc2]
      split at h
      next => exact absurd (show (2 : Int) = 4 from h) (by decide)
      next hc3 =>
        rw [if_neg hc3]
        split at h
        next hc4 =>
          rw [if_pos hc4]
          dsimp only
          have h9 := t_val_b (b := b) (x := t_skip b n pos) (t_end b n (t_skip b n pos) - t_skip b n pos).toNat hc4.1 (fun j hj => by
            have h8 := t_go_al2 (G := t_isan) (b := b) (n := n) _ (t_skip b n pos) (t_skip b n pos + (j : Int)) (by omega) (show t_skip b n pos + (j : Int) < t_end b n (t_skip b n pos) by omega)
            rw [show (t_skip b n pos + (j : Int)).toNat = (t_skip b n pos).toNat + j by omega] at h8
            exact of_decide_eq_true h8)
          have h7 := x_pow3 hc4.2
          omega
        next => exact absurd (show (1 : Int) = 4 from h) (by decide)
/-- whole: a ONE stands behind; TOKEN; ONES; how deep; what is open (20 not, 21 and, 22 or, 23 a bracket) -/
abbrev mS : Type := Bool × pT × Int × Int × List Nat
/-- a FAULT's place and sort, or how many ONES -/
abbrev mR : Type := (Int × Int) ⊕ Int
def m_nx (b : Nat → Int) (n : Int) (T : pT) : pT := t_tok b n 200 T.2.2.1
def m_nots : Int → List Nat → Int × List Nat
  | d, [] => (d, [])
  | d, x :: r => if x = 20 then m_nots (d - 1) r else (d, x :: r)
def m_joins (till : Nat) : List Nat → List Nat
  | [] => []
  | x :: r => if x = 21 ∨ (x = 22 ∧ till = 22) then m_joins till r else x :: r
abbrev m_and (T : pT) : Prop := T.1 = 2 ∧ T.2.2.2 = 1476
abbrev m_or (T : pT) : Prop := T.1 = 2 ∧ T.2.2.2 = 498
def m_leaf (b : Nat → Int) (n : Int) (M C : List Int) (w : Int) (T : pT) : (Int × Int) ⊕ pT :=
  if w = 67141 ∨ w = 267652 then .inr T
  else if w = 486 ∨ w = 22483122 then (if ¬ (T.1 = 2 ∧ T.2.2.2 ∉ x_W32) then .inl (T.2.1, 1) else if T.2.2.2 ∉ (if w = 486 then M else C) then .inl (T.2.1, 3) else .inr (m_nx b n T))
  else if ¬ (T.1 = 5 ∧ 60 ≤ T.2.2.2 ∧ T.2.2.2 ≤ 62) then .inl (T.2.1, 1) else if (m_nx b n T).1 ≠ 4 then .inl ((m_nx b n T).2.1, 1) else .inr (m_nx b n (m_nx b n T))
def m_W : List Int := [14836, 67141, 267652, 486, 22483122, 24627848, 132915, 3554952, 492210354]
abbrev m_one (T : pT) : Prop := (T.1 = 5 ∧ T.2.2.2 = 40) ∨ (T.1 = 2 ∧ T.2.2.2 ∈ m_W)
def m_op (b : Nat → Int) (n : Int) (M C : List Int) (T : pT) (o d : Int) (S : List Nat) : mR ⊕ mS :=
  if ¬ m_one T then .inl (.inl (T.2.1, 1))
  else if 20 ≤ o ∨ 8 < d then .inl (.inl (T.2.1, 4))
  else if T.1 = 5 then .inr (false, m_nx b n T, o + 1, d + 1, 23 :: S)
  else if T.2.2.2 = 14836 then .inr (false, m_nx b n T, o + 1, d + 1, 20 :: S)
  else match m_leaf b n M C T.2.2.2 (m_nx b n T) with
    | .inl e => .inl (.inl e)
    | .inr T' => .inr (true, T', o + 1, d, S)
def m_bh (b : Nat → Int) (n : Int) (T : pT) (o d : Int) (S : List Nat) : mR ⊕ mS :=
  if m_and T then .inr (false, m_nx b n T, o, (m_nots d S).1, 21 :: m_joins 21 (m_nots d S).2)
  else if m_or T then .inr (false, m_nx b n T, o, (m_nots d S).1, 22 :: m_joins 22 (m_nots d S).2)
  else match m_joins 22 (m_nots d S).2 with
    | [] => if T.1 = 0 then .inl (.inr o) else .inl (.inl (T.2.1, 1))
    | _ :: r => if T.1 = 5 ∧ T.2.2.2 = 41 then .inr (true, m_nx b n T, o, (m_nots d S).1 - 1, r) else .inl (.inl (T.2.1, 1))
def m_step (b : Nat → Int) (n : Int) (M C : List Int) (st : mS) : mR ⊕ mS := match st with
  | (true, T, o, d, S) => m_bh b n T o d S
  | (false, T, o, d, S) => m_op b n M C T o d S
def m_run (b : Nat → Int) (n : Int) (M C : List Int) : Nat → mS → Option mR
  | 0, _ => none
  | f + 1, st => match m_step b n M C st with
    | .inl r => some r
    | .inr st' => m_run b n M C f st'
theorem m_run_1 (b : Nat → Int) (n : Int) (M C : List Int) (f : Nat) (st : mS) : m_run b n M C (f + 1) st = match m_step b n M C st with
    | .inl r => some r
    | .inr st' => m_run b n M C f st' := rfl
def m_ans (b : Nat → Int) (n : Int) (M C : List Int) (st : mS) (r : mR) : Prop := ∃ f, m_run b n M C f st = some r
section MA
variable {b : Nat → Int} {n : Int} {M C : List Int}
theorem m_run_add : ∀ {f : Nat} {st : mS} {r : mR}, m_run b n M C f st = some r → ∀ g, m_run b n M C (f + g) st = some r
  | 0, _, _, h, _ => by cases h
  | f + 1, st, r, h, g => by
    rw [show f + 1 + g = (f + g) + 1 by omega, m_run_1]
    rw [m_run_1] at h
    cases hs : m_step b n M C st with
    | inl r' =>
      rw [hs] at h
      exact h
    | inr st' =>
      rw [hs] at h
      exact m_run_add h g
theorem m_ans_det {st : mS} {r r' : mR} (h : m_ans b n M C st r) (h' : m_ans b n M C st r') : r = r' := by
  obtain ⟨f, hf⟩ := h
  obtain ⟨g, hg⟩ := h'
  have h1 := m_run_add hf g
  have h2 := m_run_add hg f
  rw [Nat.add_comm g f, h1] at h2
  exact Option.some.inj h2
theorem m_ans_go {st st' : mS} {r : mR} (h : m_step b n M C st = .inr st') (h' : m_ans b n M C st' r) : m_ans b n M C st r := by
  obtain ⟨f, hf⟩ := h'
  refine ⟨f + 1, ?_⟩
  rw [m_run_1, h]
  exact hf
theorem m_ans_end {st : mS} {r : mR} (h : m_step b n M C st = .inl r) : m_ans b n M C st r := by
  refine ⟨1, ?_⟩
  rw [m_run_1, h]
theorem m_ans_eq {st st' : mS} {r : mR} (h : m_step b n M C st' = m_step b n M C st) (h' : m_ans b n M C st r) : m_ans b n M C st' r := by
  obtain ⟨f, hf⟩ := h'
  cases f with
  | zero => cases hf
  | succ f =>
    refine ⟨f + 1, ?_⟩
    rw [m_run_1, h, ← m_run_1]
    exact hf
/-- stacks that no not, and, or tops -/
def m_q (S : List Nat) : Prop := S = [] ∨ ∃ r, S = 23 :: r
/-- those that no not, and tops -/
def m_q2 (S : List Nat) : Prop := m_q S ∨ ∃ r, S = 22 :: r
theorem m_nots_20 (d : Int) (S : List Nat) : m_nots (d + 1) (20 :: S) = m_nots d S := by
  show (if (20 : Nat) = 20 then m_nots (d + 1 - 1) S else (d + 1, 20 :: S)) = _
  rw [if_pos rfl, show d + 1 - 1 = d by omega]
theorem m_nots_n (d : Int) {x : Nat} (h : x ≠ 20) (S : List Nat) : m_nots d (x :: S) = (d, x :: S) := by
  show (if x = 20 then m_nots (d - 1) S else (d, x :: S)) = _
  rw [if_neg h]
theorem m_nots_q (d : Int) {S : List Nat} (h : m_q2 S) : m_nots d S = (d, S) := by
  rcases h with (rfl | ⟨r, rfl⟩) | ⟨r, rfl⟩
  · rfl
  · exact m_nots_n d (by decide) r
  · exact m_nots_n d (by decide) r
theorem m_joins_q {t : Nat} {S : List Nat} (h : m_q S) : m_joins t S = S := by
  rcases h with rfl | ⟨r, rfl⟩
  · rfl
  · show (if (23 : Nat) = 21 ∨ ((23 : Nat) = 22 ∧ t = 22) then m_joins t r else 23 :: r) = _
    rw [if_neg (by omega)]
theorem m_joins_21 (t : Nat) (S : List Nat) : m_joins t (21 :: S) = m_joins t S := by
  show (if (21 : Nat) = 21 ∨ ((21 : Nat) = 22 ∧ t = 22) then m_joins t S else 21 :: S) = _
  rw [if_pos (Or.inl rfl)]
theorem m_joins_22 (S : List Nat) : m_joins 22 (22 :: S) = m_joins 22 S := by
  show (if (22 : Nat) = 21 ∨ ((22 : Nat) = 22 ∧ (22 : Nat) = 22) then m_joins 22 S else 22 :: S) = _
  rw [if_pos (Or.inr ⟨rfl, rfl⟩)]
theorem m_joins_q2 {S : List Nat} (h : m_q2 S) : m_joins 21 S = S := by
  rcases h with h | ⟨r, rfl⟩
  · exact m_joins_q h
  · show (if (22 : Nat) = 21 ∨ ((22 : Nat) = 22 ∧ (21 : Nat) = 22) then m_joins 21 r else 22 :: r) = _
    rw [if_neg (by omega)]
/-- behind a ONE: a not over it goes with it -/
theorem m_not {T : pT} {o d : Int} {S : List Nat} {r : mR} (h : m_ans b n M C (true, T, o, d, S) r) : m_ans b n M C (true, T, o, d + 1, 20 :: S) r := by
  refine m_ans_eq ?_ h
  show m_bh b n T o (d + 1) (20 :: S) = m_bh b n T o d S
  unfold m_bh
  rw [m_nots_20]
/-- what a row of and, or keeps open goes at the next TOKEN that is none of both -/
def m_J (J : List Nat) : Prop := J = [] ∨ J = [21] ∨ J = [22] ∨ J = [21, 22]
theorem m_J_nots {d : Int} {J S : List Nat} (hJ : m_J J) (hS : m_q S) : m_nots d (J ++ S) = (d, J ++ S) := by
  rcases hJ with rfl | rfl | rfl | rfl
  · exact m_nots_q d (Or.inl hS)
  · exact m_nots_n d (by decide) _
  · exact m_nots_n d (by decide) _
  · exact m_nots_n d (by decide) _
theorem m_J_joins {J S : List Nat} (hJ : m_J J) (hS : m_q S) : m_joins 22 (J ++ S) = S := by
  rcases hJ with rfl | rfl | rfl | rfl
  · exact m_joins_q hS
  · exact (m_joins_21 22 S).trans (m_joins_q hS)
  · exact (m_joins_22 S).trans (m_joins_q hS)
  · exact (m_joins_21 22 (22 :: S)).trans ((m_joins_22 S).trans (m_joins_q hS))
theorem m_Jgo {T : pT} {o d : Int} {J S : List Nat} {r : mR} (hJ : m_J J) (hS : m_q S) (h1 : ¬ m_and T) (h2 : ¬ m_or T) (h : m_ans b n M C (true, T, o, d, S) r) : m_ans b n M C (true, T, o, d, J ++ S) r := by
  refine m_ans_eq ?_ h
  show m_bh b n T o d (J ++ S) = m_bh b n T o d S
  unfold m_bh
  rw [if_neg h1, if_neg h2, if_neg h1, if_neg h2, m_J_nots hJ hS, m_J_joins hJ hS, m_nots_q d (Or.inl hS), m_joins_q hS]
theorem m_or_go {T : pT} {o d : Int} {J S : List Nat} {r : mR} (hJ : m_J J) (hS : m_q S) (hT : m_or T) (h : m_ans b n M C (false, m_nx b n T, o, d, 22 :: S) r) : m_ans b n M C (true, T, o, d, J ++ S) r := by
  refine m_ans_go ?_ h
  show m_bh b n T o d (J ++ S) = _
  unfold m_bh
  rw [if_neg (fun q : m_and T => by unfold m_and at q; unfold m_or at hT; omega), if_pos hT, m_J_nots hJ hS, m_J_joins hJ hS]
theorem m_and_go {T : pT} {o d : Int} {S : List Nat} {r : mR} (hS : m_q2 S) (hT : m_and T) (h : m_ans b n M C (false, m_nx b n T, o, d, 21 :: S) r) : m_ans b n M C (true, T, o, d, S) r ∧ m_ans b n M C (true, T, o, d, 21 :: S) r := by
  constructor
  · refine m_ans_go ?_ h
    show m_bh b n T o d S = _
    unfold m_bh
    rw [if_pos hT, m_nots_q d hS, m_joins_q2 hS]
  · refine m_ans_go ?_ h
    show m_bh b n T o d (21 :: S) = _
    unfold m_bh
    rw [if_pos hT, m_nots_n d (by decide), m_joins_21, m_joins_q2 hS]
theorem m_nand {T : pT} (h : T.1 = 5) : ¬ m_and T ∧ ¬ m_or T := by
  unfold m_and m_or
  constructor <;> (intro q; omega)
/-- behind a bracket -/
theorem m_close {T : pT} {o d : Int} {S : List Nat} {r : mR} (hT : T.1 = 5 ∧ T.2.2.2 = 41) (h : m_ans b n M C (true, m_nx b n T, o, d, S) r) : m_ans b n M C (true, T, o, d + 1, 23 :: S) r := by
  refine m_ans_go ?_ h
  show m_bh b n T o (d + 1) (23 :: S) = _
  unfold m_bh
  rw [if_neg (m_nand hT.1).1, if_neg (m_nand hT.1).2, m_nots_n (d + 1) (by decide), m_joins_q (Or.inr ⟨S, rfl⟩)]
  dsimp only
  rw [if_pos hT, show d + 1 - 1 = d by omega]
theorem m_noclose {T : pT} {o d : Int} {S : List Nat} (h1 : ¬ m_and T) (h2 : ¬ m_or T) (hT : ¬ (T.1 = 5 ∧ T.2.2.2 = 41)) : m_ans b n M C (true, T, o, d, 23 :: S) (.inl (T.2.1, 1)) := by
  refine m_ans_end ?_
  show m_bh b n T o d (23 :: S) = _
  unfold m_bh
  rw [if_neg h1, if_neg h2, m_nots_n d (by decide), m_joins_q (Or.inr ⟨S, rfl⟩)]
  dsimp only
  rw [if_neg hT]
/-- the end -/
theorem m_over {T : pT} {o d : Int} (h1 : ¬ m_and T) (h2 : ¬ m_or T) : m_ans b n M C (true, T, o, d, []) (if T.1 = 0 then .inr o else .inl (T.2.1, 1)) := by
  refine m_ans_end ?_
  show m_bh b n T o d [] = _
  unfold m_bh
  rw [if_neg h1, if_neg h2]
  show (if T.1 = 0 then _ else _) = _
  by_cases h : T.1 = 0
  · rw [if_pos h, if_pos h]
  · rw [if_neg h, if_neg h]
/-- a ONE's beginning -/
theorem m_bad1 {T : pT} {o d : Int} {S : List Nat} (h : ¬ m_one T) : m_ans b n M C (false, T, o, d, S) (.inl (T.2.1, 1)) := by
  refine m_ans_end ?_
  show m_op b n M C T o d S = _
  unfold m_op
  rw [if_pos h]
theorem m_bad4 {T : pT} {o d : Int} {S : List Nat} (h : m_one T) (h2 : 20 ≤ o ∨ 8 < d) : m_ans b n M C (false, T, o, d, S) (.inl (T.2.1, 4)) := by
  refine m_ans_end ?_
  show m_op b n M C T o d S = _
  unfold m_op
  rw [if_neg (fun q => q h), if_pos h2]
theorem m_open {T : pT} {o d : Int} {S : List Nat} {r : mR} (h : m_one T) (h2 : ¬ (20 ≤ o ∨ 8 < d)) (h5 : T.1 = 5) (hr : m_ans b n M C (false, m_nx b n T, o + 1, d + 1, 23 :: S) r) : m_ans b n M C (false, T, o, d, S) r := by
  refine m_ans_go ?_ hr
  show m_op b n M C T o d S = _
  unfold m_op
  rw [if_neg (fun q => q h), if_neg h2, if_pos h5]
theorem m_nt {T : pT} {o d : Int} {S : List Nat} {r : mR} (h2 : ¬ (20 ≤ o ∨ 8 < d)) (h5 : T.1 = 2 ∧ T.2.2.2 = 14836) (hr : m_ans b n M C (false, m_nx b n T, o + 1, d + 1, 20 :: S) r) : m_ans b n M C (false, T, o, d, S) r := by
  refine m_ans_go ?_ hr
  show m_op b n M C T o d S = _
  unfold m_op
  rw [if_neg (fun q => q (show m_one T from Or.inr ⟨h5.1, by rw [h5.2]; decide⟩)), if_neg h2, if_neg (by omega), if_pos h5.2]
theorem m_lf {T : pT} {o d : Int} {S : List Nat} (h1 : T.1 = 2 ∧ T.2.2.2 ∈ m_W ∧ T.2.2.2 ≠ 14836) (h2 : ¬ (20 ≤ o ∨ 8 < d)) : (∀ e, m_leaf b n M C T.2.2.2 (m_nx b n T) = .inl e → m_ans b n M C (false, T, o, d, S) (.inl e)) ∧ ∀ T' r, m_leaf b n M C T.2.2.2 (m_nx b n T) = .inr T' → m_ans b n M C (true, T', o + 1, d, S) r → m_ans b n M C (false, T, o, d, S) r := by
  have key : m_op b n M C T o d S = match m_leaf b n M C T.2.2.2 (m_nx b n T) with
      | .inl e => .inl (.inl e)
      | .inr T' => .inr (true, T', o + 1, d, S) := by
    unfold m_op
    rw [if_neg (fun q => q (show m_one T from Or.inr ⟨h1.1, h1.2.1⟩)), if_neg h2, if_neg (by omega), if_neg h1.2.2]
  constructor
  · intro e he
    refine m_ans_end ?_
    show m_op b n M C T o d S = _
    rw [key, he]
  · intro T' r he hr
    refine m_ans_go ?_ hr
    show m_op b n M C T o d S = _
    rw [key, he]
end MA
