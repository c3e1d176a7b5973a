/-! ===== a CAPITAL's LINES, as a function ===== -/
/-- NAMES of SEATS, MEN, COATS; from when it is cold; what is told once, and its numbers -/
abbrev pS : Type := List Int × List Int × List Int × List Int × (Nat → Bool) × (Nat → Int)
abbrev pT : Type := Int × Int × Int × Int
abbrev pR : Type := (Int × Int) ⊕ (pS × pT)
def p_num (b : Nat → Int) (n lo hi : Int) (T : pT) (k : Int → pT → pR) : pR := if T.1 ≠ 4 then .inl (T.2.1, 1) else if T.2.2.2 < lo ∨ hi < T.2.2.2 then .inl (T.2.1, 2) else k T.2.2.2 (t_tok b n 900 T.2.2.1)
def p_new (b : Nat → Int) (n : Int) (σ : pS) (T : pT) (k : pT → pR) : pR := if ¬ (T.1 = 2 ∧ T.2.2.2 ∉ x_W32) then .inl (T.2.1, 1) else if T.2.2.2 ∈ σ.1 ∨ T.2.2.2 ∈ σ.2.1 ∨ T.2.2.2 ∈ σ.2.2.1 then .inl (T.2.1, 3) else k (t_tok b n 900 T.2.2.1)
def p_ref (b : Nat → Int) (n : Int) (N : List Int) (T : pT) (k : pT → pR) : pR := if ¬ (T.1 = 2 ∧ T.2.2.2 ∉ x_W32) then .inl (T.2.1, 1) else if T.2.2.2 ∉ N then .inl (T.2.1, 3) else k (t_tok b n 900 T.2.2.1)
def p_seat (b : Nat → Int) (n : Int) (σ : pS) (T : pT) : pR := if σ.1.length = 8 then .inl (T.2.1, 4) else p_new b n σ (t_tok b n 900 T.2.2.1) (fun T2 => p_num b n 1 99 T2 (fun _ T3 => .inr ((σ.1 ++ [(t_tok b n 900 T.2.2.1).2.2.2], σ.2), T3)))
def p_man (b : Nat → Int) (n : Int) (σ : pS) (T : pT) : pR := if σ.2.1.length = 6 then .inl (T.2.1, 4) else p_new b n σ (t_tok b n 900 T.2.2.1) (fun T2 => p_num b n 0 20 T2 (fun _ T3 => .inr ((σ.1, σ.2.1 ++ [(t_tok b n 900 T.2.2.1).2.2.2], σ.2.2), T3)))
/-- numbers told: whose the next COAT is stands behind a hundred, by his NAME -/
def p_ow (σ : pS) (s : Int) : Nat → Int := fun i => if i = 100 + σ.2.2.1.length then s else σ.2.2.2.2.2 i
theorem p_ow_4 (σ : pS) (s : Int) {j : Nat} (h : j < 4) : p_ow σ s j = σ.2.2.2.2.2 j := by
  unfold p_ow
  rw [if_neg (by omega)]
theorem p_ow_c (σ : pS) (s : Int) {c : Nat} (h : c < σ.2.2.1.length) : p_ow σ s (100 + c) = σ.2.2.2.2.2 (100 + c) := by
  unfold p_ow
  rw [if_neg (by omega)]
theorem p_ow_n (σ : pS) (s : Int) : p_ow σ s (100 + σ.2.2.1.length) = s := by
  unfold p_ow
  rw [if_pos rfl]
/-- whose each COAT is: a MAN's place among the NAMES -/
def p_own (M : List Int) (n : Nat) (f : Nat → Int) (o : Nat → Int) : Prop := ∀ c : Nat, c < n → 0 ≤ o c ∧ M[(o c).toNat]? = some (f (100 + c))
theorem p_own_app {M : List Int} {n : Nat} {f o : Nat → Int} (h : p_own M n f o) (x : Int) : p_own (M ++ [x]) n f o := fun c hc => ⟨(h c hc).1, (List.getElem?_append_left (List.getElem?_eq_some_iff.mp (h c hc).2).1).trans (h c hc).2⟩
theorem p_own_eq {M : List Int} {n : Nat} {f o o' : Nat → Int} (h : p_own M n f o) (he : ∀ c : Nat, c < n → o' c = o c) : p_own M n f o' := fun c hc => by
  rw [he c hc]
  exact h c hc
theorem p_own_f {M : List Int} {n : Nat} {f f' o : Nat → Int} (h : p_own M n f o) (hf : ∀ c : Nat, c < n → f' (100 + c) = f (100 + c)) : p_own M n f' o := fun c hc => by
  rw [hf c hc]
  exact h c hc
def p_coat (b : Nat → Int) (n : Int) (σ : pS) (T : pT) : pR := if σ.2.2.1.length = 8 then .inl (T.2.1, 4) else p_new b n σ (t_tok b n 900 T.2.2.1) (fun T2 => p_ref b n σ.2.1 T2 (fun T3 => p_num b n 0 20 T3 (fun _ T4 => p_num b n 1 99 T4 (fun _ T5 => .inr ((σ.1, σ.2.1, σ.2.2.1 ++ [(t_tok b n 900 T.2.2.1).2.2.2], σ.2.2.2.1, σ.2.2.2.2.1, p_ow σ (t_tok b n 900 (t_tok b n 900 T.2.2.1).2.2.1).2.2.2), T5)))))
def p_cold (b : Nat → Int) (n : Int) (σ : pS) (T : pT) : pR := if σ.2.2.2.1.length = 8 then .inl (T.2.1, 4) else p_num b n 0 399 (t_tok b n 900 T.2.2.1) (fun x T2 => if x ∈ σ.2.2.2.1 then .inl ((t_tok b n 900 T.2.2.1).2.1, 3) else p_num b n 0 40 T2 (fun _ T3 => .inr ((σ.1, σ.2.1, σ.2.2.1, σ.2.2.2.1 ++ [x], σ.2.2.2.2), T3)))
def p_once (j : Nat) (lo hi : Int) (b : Nat → Int) (n : Int) (σ : pS) (T : pT) : pR := if σ.2.2.2.2.1 j = true then .inl (T.2.1, 3) else p_num b n lo hi (t_tok b n 900 T.2.2.1) (fun x T2 => .inr ((σ.1, σ.2.1, σ.2.2.1, σ.2.2.2.1, (fun i => if i = j then true else σ.2.2.2.2.1 i), (fun i => if i = j then x else σ.2.2.2.2.2 i)), T2))
def p_line (b : Nat → Int) (n : Int) (σ : pS) (T : pT) : pR :=
  if T.1 ≠ 2 then .inl (T.2.1, 1)
  else if T.2.2.2 = 627764 then p_seat b n σ T
  else if T.2.2.2 = 13358 then p_man b n σ T
  else if T.2.2.2 = 113716 then p_coat b n σ T
  else if T.2.2.2 = 114052 then p_cold b n σ T
  else if T.2.2.2 = 659993778 then p_once 0 0 40 b n σ T
  else if T.2.2.2 = 8892563 then p_once 1 1 30 b n σ T
  else if T.2.2.2 = 14143763 then p_once 2 0 9 b n σ T
  else if T.2.2.2 = 12891444 then p_once 3 1 999 b n σ T
  else .inl (T.2.1, 1)
/-! the class's draft -/
def c_ex (I L : xF) (x u : Int) : Prop := ∃ k : Nat, (k : Int) < I 25 3 ∧ L 26 k = x ∧ I 27 k = u
def c_nm (S M C : List Int) (I L : xF) : Prop := I 25 3 = S.length + M.length + C.length ∧ (∀ x, c_ex I L x 0 ↔ x ∈ S) ∧ (∀ x, c_ex I L x 1 ↔ x ∈ M) ∧ (∀ x, c_ex I L x 2 ↔ x ∈ C) ∧ ∀ k : Nat, (k : Int) < I 25 3 → (I 27 k = 0 ∨ I 27 k = 1 ∨ I 27 k = 2) ∧ (I 27 k = 1 → 0 ≤ I 28 k ∧ I 28 k ≤ 5 ∧ M[(I 28 k).toNat]? = some (L 26 k))
def c_hf (S M C : List Int) (σ : pS) (I L : xF) : Prop :=
  (I 17 0 = σ.1.length ∧ I 17 1 = σ.2.1.length ∧ I 17 2 = σ.2.2.1.length ∧ I 17 3 = σ.2.2.2.1.length) ∧ (σ.1.length ≤ 8 ∧ σ.2.1.length ≤ 6 ∧ σ.2.2.1.length ≤ 8 ∧ σ.2.2.2.1.length ≤ 8) ∧ c_nm S M C I L ∧
  (∀ i : Nat, i < σ.2.2.2.1.length → σ.2.2.2.1[i]? = some (I 23 i)) ∧ (0 ≤ I 16 3 ∧ I 16 3 < 256 ∧ ∀ j : Nat, j < 4 → (I 16 3).toNat.testBit (4 + j) = σ.2.2.2.2.1 j) ∧ (∀ j : Nat, j < 4 → I 17 (4 + j) = σ.2.2.2.2.2 j) ∧ p_own σ.2.1 σ.2.2.1.length σ.2.2.2.2.2 (I 20)
def c_ah (S M C : List Int) (b : Nat → Int) (n q : Int) (σ : pS) (T : pT) (I L : xF) : Prop :=
  (I 2 = b ∧ I 1 2 = n ∧ I 1 3 = 900 ∧ (0 ≤ n ∧ n ≤ 940) ∧ I 1 9 = 0 ∧ I 16 2 = q) ∧ c_tok T I L ∧ (2 ≤ T.1 → 0 ≤ T.2.2.1 ∧ T.2.2.1 ≤ n) ∧ c_hf S M C σ I L
abbrev c_all (b : Nat → Int) (n q : Int) (σ : pS) (T : pT) (I L : xF) : Prop := c_ah σ.1 σ.2.1 σ.2.2.1 b n q σ T I L
def c_out (b : Nat → Int) (n q : Int) (r : pR) (rv : Option xV) (I' L' : xF) : Prop := match r with
  | .inl (at0, f) => rv = some (.inl 0) ∧ I' 1 9 = f ∧ I' 1 10 = at0 ∧ 1 ≤ f
  | .inr (σ', T') => rv = some (.inl 1) ∧ c_all b n q σ' T' I' L'
/-- names that are new: the row is longer by one -/
theorem c_ex_add {I L I' L' : xF} {s t : Int} (h0 : 0 ≤ I 25 3) (h1 : I' 25 3 = I 25 3 + 1) (h2 : ∀ k : Nat, I' 27 k = if k = (I 25 3).toNat then t else I 27 k) (h3 : ∀ k : Nat, L' 26 k = if k = (I 25 3).toNat then s else L 26 k) (x u : Int) : c_ex I' L' x u ↔ (c_ex I L x u ∨ (x = s ∧ u = t)) := by
  constructor
  · rintro ⟨k, k1, k2, k3⟩
    rw [h1] at k1
    rw [h3] at k2
    rw [h2] at k3
    by_cases hk : k = (I 25 3).toNat
    · rw [if_pos hk] at k2 k3
      exact Or.inr ⟨k2.symm, k3.symm⟩
    · rw [if_neg hk] at k2 k3
      exact Or.inl ⟨k, by omega, k2, k3⟩
  · rintro (⟨k, k1, k2, k3⟩ | ⟨rfl, rfl⟩)
    · exact ⟨k, by omega, by rw [h3, if_neg (by omega)]; exact k2, by rw [h2, if_neg (by omega)]; exact k3⟩
    · exact ⟨(I 25 3).toNat, by omega, by rw [h3, if_pos rfl], by rw [h2, if_pos rfl]⟩
theorem c_nm_fr {S M C : List Int} {I L I' L' : xF} (h : c_nm S M C I L) (h1 : I' 25 3 = I 25 3) (h2 : ∀ k, I' 27 k = I 27 k) (h3 : ∀ k, I' 28 k = I 28 k) (h4 : ∀ k, L' 26 k = L 26 k) : c_nm S M C I' L' := by
  have he : ∀ x u, c_ex I' L' x u ↔ c_ex I L x u := fun x u => by
    unfold c_ex
    simp only [h1, h2, h4]
  obtain ⟨g1, g2, g3, g4, g5⟩ := h
  refine ⟨by rw [h1]; exact g1, fun x => (he x 0).trans (g2 x), fun x => (he x 1).trans (g3 x), fun x => (he x 2).trans (g4 x), fun k hk => ?_⟩
  rw [h1] at hk
  rw [h2, h3, h4]
  exact g5 k hk
/-- what c_nm needs of a name that is added -/
theorem c_nm_add {S M C : List Int} {I L I' L' : xF} {s t q : Int} (h : c_nm S M C I L) (h0 : 0 ≤ I 25 3) (h1 : I' 25 3 = I 25 3 + 1) (h2 : ∀ k : Nat, I' 27 k = if k = (I 25 3).toNat then t else I 27 k) (h5 : ∀ k : Nat, I' 28 k = if k = (I 25 3).toNat then q else I 28 k) (h3 : ∀ k : Nat, L' 26 k = if k = (I 25 3).toNat then s else L 26 k) : (t = 0 → c_nm (S ++ [s]) M C I' L') ∧ (t = 1 → q = (M.length : Int) → q ≤ 5 → c_nm S (M ++ [s]) C I' L') ∧ (t = 2 → c_nm S M (C ++ [s]) I' L') := by
  obtain ⟨g1, g2, g3, g4, g5⟩ := h
  have he := c_ex_add (L := L) (L' := L') (s := s) h0 h1 h2 h3
  have hrow : ∀ M' : List Int, (t = 0 ∨ t = 1 ∨ t = 2) → (t = 1 → 0 ≤ q ∧ q ≤ 5 ∧ M'[q.toNat]? = some s) → (∀ (j : Nat) (x : Int), M[j]? = some x → M'[j]? = some x) → ∀ k : Nat, (k : Int) < I' 25 3 → (I' 27 k = 0 ∨ I' 27 k = 1 ∨ I' 27 k = 2) ∧ (I' 27 k = 1 → 0 ≤ I' 28 k ∧ I' 28 k ≤ 5 ∧ M'[(I' 28 k).toNat]? = some (L' 26 k)) := fun M' ht hq hM k hk => by
    rw [h1] at hk
    rw [h2, h5, h3]
    by_cases hkk : k = (I 25 3).toNat
    · rw [if_pos hkk, if_pos hkk, if_pos hkk]
      exact ⟨ht, hq⟩
    · rw [if_neg hkk, if_neg hkk, if_neg hkk]
      obtain ⟨e1, e2⟩ := g5 k (by omega)
      exact ⟨e1, fun h9 => ⟨(e2 h9).1, (e2 h9).2.1, hM _ _ (e2 h9).2.2⟩⟩
  refine ⟨fun ht => ⟨by rw [h1, g1, List.length_append]; simp; omega, fun x => ?_, fun x => ?_, fun x => ?_, hrow M (Or.inl ht) (fun q => by omega) (fun _ _ h => h)⟩, fun ht hl hq => ⟨by rw [h1, g1, List.length_append]; simp; omega, fun x => ?_, fun x => ?_, fun x => ?_, hrow (M ++ [s]) (Or.inr (Or.inl ht)) (fun _ => ⟨by omega, hq, ?_⟩) (fun j x h => (List.getElem?_append_left (List.getElem?_eq_some_iff.mp h).1).trans h)⟩, fun ht => ⟨by rw [h1, g1, List.length_append]; simp; omega, fun x => ?_, fun x => ?_, fun x => ?_, hrow M (Or.inr (Or.inr ht)) (fun q => by omega) (fun _ _ h => h)⟩⟩
  · rw [he, g2, List.mem_append, List.mem_singleton]; simp [ht]
  · rw [he, g3]; simp [ht]
  · rw [he, g4]; simp [ht]
  · rw [he, g2]; simp [ht]
  · rw [he, g3, List.mem_append, List.mem_singleton]; simp [ht]
  · rw [he, g4]; simp [ht]
  · rw [hl, Int.toNat_natCast, List.getElem?_append_right (Nat.le_refl _)]; simp
  · rw [he, g2]; simp [ht]
  · rw [he, g3]; simp [ht]
  · rw [he, g4, List.mem_append, List.mem_singleton]; simp [ht]
/-- the tape's own cells and what it reads of letters: the draft doesn't see them -/
def x_sT (r k : Nat) : Bool := Nat.beq r 1
theorem c_hf_fr {S M C : List Int} {σ : pS} {I L I' L' : xF} (h : c_hf S M C σ I L) (h1 : x_fi x_sT I I') (h2 : x_fi x_s8c L L') : c_hf S M C σ I' L' := by
  obtain ⟨g1, g2, g3, g4, g5, g6⟩ := h
  have e : ∀ r k, Nat.beq r 1 = false → I' r k = I r k := fun r k hr => h1 r k hr
  refine ⟨?_, g2, c_nm_fr g3 (e _ _ rfl) (fun k => e _ _ rfl) (fun k => e _ _ rfl) (fun k => h2 26 k rfl), fun i hi => ?_, ?_, fun j hj => ?_, p_own_eq g6.2 (fun c _ => e 20 c rfl)⟩
  · rw [e 17 0 rfl, e 17 1 rfl, e 17 2 rfl, e 17 3 rfl]
    exact g1
  · rw [e 23 i rfl]
    exact g4 i hi
  · rw [e 16 3 rfl]
    exact g5
  · rw [e 17 _ rfl]
    exact g6.1 j hj
theorem x_s4567_T : ∀ r k, x_s4567 r k = true → x_sT r k = true := by
  intro r k h
  unfold x_s4567 at h
  rw [Bool.and_eq_true] at h
  exact h.1
theorem x_nin {s : Int} : (∀ w : Nat, x_W32[w]? ≠ some s) ↔ s ∉ x_W32 := by
  constructor
  · intro h q
    obtain ⟨w, hw⟩ := List.getElem?_of_mem q
    exact h w hw
  · intro h w hw
    exact h (List.mem_of_getElem? hw)
/-- a NAME, as the tape tells it -/
theorem c_tok_name {T : pT} {I L : xF} (h : c_tok T I L) : (I 1 6 = 3 ↔ (T.1 = 2 ∧ T.2.2.2 ∉ x_W32)) ∧ (I 1 6 = 3 → L 1 8 = T.2.2.2) := by
  obtain ⟨_, _, h⟩ := h
  rcases h with ⟨h1, h2⟩ | ⟨h1, h2⟩ | ⟨h1, h2, h3⟩ | ⟨h1, h2, h3⟩ | ⟨h1, h2, h3⟩
  · exact ⟨⟨fun q => by omega, fun q => by omega⟩, fun q => by omega⟩
  · exact ⟨⟨fun q => by omega, fun q => by omega⟩, fun q => by omega⟩
  · refine ⟨⟨fun q => ?_, fun q => ?_⟩, fun _ => h2⟩
    · rcases h3 with ⟨w, _, h4, _⟩ | ⟨h4, _⟩
      · omega
      · exact ⟨h1, x_nin.mp h4⟩
    · rcases h3 with ⟨w, h4, _, _⟩ | ⟨_, h5⟩
      · exact absurd (List.mem_of_getElem? h4) q.2
      · exact h5
  · exact ⟨⟨fun q => by omega, fun q => by omega⟩, fun q => by omega⟩
  · exact ⟨⟨fun q => by omega, fun q => by omega⟩, fun q => by omega⟩
theorem c_tok_num {T : pT} {I L : xF} (h : c_tok T I L) : (I 1 6 = 4 ↔ T.1 = 4) ∧ (I 1 6 = 4 → I 1 7 = T.2.2.2) := by
  obtain ⟨_, _, h⟩ := h
  rcases h with ⟨h1, h2⟩ | ⟨h1, h2⟩ | ⟨h1, h2, h3⟩ | ⟨h1, h2, h3⟩ | ⟨h1, h2, h3⟩
  · exact ⟨by omega, fun q => by omega⟩
  · exact ⟨by omega, fun q => by omega⟩
  · rcases h3 with ⟨w, _, h4, _⟩ | ⟨_, h4⟩
    · exact ⟨by omega, fun q => by omega⟩
    · exact ⟨by omega, fun q => by omega⟩
  · exact ⟨by omega, fun _ => h3⟩
  · exact ⟨by omega, fun q => by omega⟩
theorem c_tok_sign {T : pT} {I L : xF} (h : c_tok T I L) : (I 1 6 = 5 ↔ T.1 = 5) ∧ (I 1 6 = 5 → I 1 7 = T.2.2.2) := by
  obtain ⟨_, _, h⟩ := h
  rcases h with ⟨h1, h2⟩ | ⟨h1, h2⟩ | ⟨h1, h2, h3⟩ | ⟨h1, h2, h3⟩ | ⟨h1, h2, h3⟩
  · exact ⟨by omega, fun q => by omega⟩
  · exact ⟨by omega, fun q => by omega⟩
  · rcases h3 with ⟨w, _, h4, _⟩ | ⟨_, h4⟩
    · exact ⟨by omega, fun q => by omega⟩
    · exact ⟨by omega, fun q => by omega⟩
  · exact ⟨by omega, fun q => by omega⟩
  · exact ⟨by omega, fun _ => h3⟩
/-- where the tape stands: behind a TOKEN it may go on -/
theorem c_tok_bh {b : Nat → Int} {n pos : Int} {I L : xF} (h : c_tok (t_tok b n 900 pos) I L) (h0 : 0 ≤ pos) (h1 : pos ≤ n) (h2 : I 1 2 = n) (h3 : n ≤ 940) (hk : 2 ≤ (t_tok b n 900 pos).1) : x_bh I := by
  have h4 := t_tok_pos (b := b) (most := 900) h0 h1 hk
  have h5 := h.2.1 hk
  unfold x_bh
  omega
/-- another TOKEN: all else stays -/
theorem c_ah_adv {S M C : List Int} {b : Nat → Int} {n q : Int} {σ : pS} {T : pT} {I L I' L' : xF} (hk : 2 ≤ T.1) (h : c_ah S M C b n q σ T I L) (ha : xo_adv [xR 2] I L none I' L') : c_ah S M C b n q σ (t_tok b n 900 T.2.2.1) I' L' := by
  obtain ⟨⟨e1, e2, e3, e4, e5, e6⟩, h2, h3, h4⟩ := h
  obtain ⟨_, f1, f2, f3⟩ := ha
  have h5 := h2.2.1 hk
  have hp := h3 hk
  rw [e1, e2, e3, h5] at f3
  refine ⟨⟨?_, (f1 1 2 rfl).trans e2, (f1 1 3 rfl).trans e3, e4, (f1 1 9 rfl).trans e5, (f1 16 2 rfl).trans e6⟩, f3, fun hq => ?_, c_hf_fr h4 (x_fi_w f1 x_s4567_T) f2⟩
  · rw [← e1]
    exact funext (fun j => f1 2 j rfl)
  · have := t_tok_pos (b := b) (most := 900) hp.1 hp.2 hq
    omega
theorem c_ah_bh {S M C : List Int} {b : Nat → Int} {n q : Int} {σ : pS} {T : pT} {I L : xF} (h : c_ah S M C b n q σ T I L) (hk : 2 ≤ T.1) : x_bh I := by
  obtain ⟨⟨e1, e2, e3, e4, e5, e6⟩, h2, h3, h4⟩ := h
  have h5 := h2.2.1 hk
  have := h3 hk
  unfold x_bh
  omega

/-- a NAME is added; the TOKEN stands -/
theorem c_ah_add {S M C : List Int} {b : Nat → Int} {n q : Int} {σ : pS} {T : pT} {I L : xF} {t u : Int} (h : c_ah S M C b n q σ T I L) (h0 : 0 ≤ I 25 3) (hn : I 1 6 = 3) : (t = 0 → c_ah (S ++ [T.2.2.2]) M C b n q σ T (x_addI I t u) (x_addL I L)) ∧ (t = 1 → u = (M.length : Int) → u ≤ 5 → c_ah S (M ++ [T.2.2.2]) C b n q σ T (x_addI I t u) (x_addL I L)) ∧ (t = 2 → c_ah S M (C ++ [T.2.2.2]) b n q σ T (x_addI I t u) (x_addL I L)) := by
  obtain ⟨e, h2, h3, g1, g2, g3, g4, g5, g6⟩ := h
  have hs := (c_tok_name h2).2 hn
  have hadd := c_nm_add (s := T.2.2.2) (t := t) (q := u) (I' := x_addI I t u) (L' := x_addL I L) g3 h0 rfl (fun k => by
    show x_u (x_u (x_u I 27 (I 25 3).toNat t) 28 (I 25 3).toNat u) 25 3 (I 25 3 + 1) 27 k = _
    rw [x_u_r (by decide), x_u_r (by decide), x_u_if]
    simp) (fun k => by
    show x_u (x_u (x_u I 27 (I 25 3).toNat t) 28 (I 25 3).toNat u) 25 3 (I 25 3 + 1) 28 k = _
    rw [x_u_r (by decide), x_u_if, x_u_r (by decide)]
    simp) (fun k => by
    show x_u L 26 (I 25 3).toNat (L 1 8) 26 k = _
    rw [x_u_if, hs]
    simp)
  have hbase : ∀ S' M' C', c_nm S' M' C' (x_addI I t u) (x_addL I L) → c_ah S' M' C' b n q σ T (x_addI I t u) (x_addL I L) := fun S' M' C' hc => ⟨e, h2, h3, g1, g2, hc, g4, g5, g6⟩
  exact ⟨fun ht => hbase _ _ _ (hadd.1 ht), fun ht hl hu => hbase _ _ _ (hadd.2.1 ht hl hu), fun ht => hbase _ _ _ (hadd.2.2 ht)⟩
theorem p_new_1 {b : Nat → Int} {n : Int} {σ : pS} {T : pT} {k : pT → pR} (h : ¬ (T.1 = 2 ∧ T.2.2.2 ∉ x_W32)) : p_new b n σ T k = .inl (T.2.1, 1) := by unfold p_new; rw [if_pos h]
theorem p_new_3 {b : Nat → Int} {n : Int} {σ : pS} {T : pT} {k : pT → pR} (h : T.1 = 2 ∧ T.2.2.2 ∉ x_W32) (h2 : T.2.2.2 ∈ σ.1 ∨ T.2.2.2 ∈ σ.2.1 ∨ T.2.2.2 ∈ σ.2.2.1) : p_new b n σ T k = .inl (T.2.1, 3) := by unfold p_new; rw [if_neg (fun q => q h), if_pos h2]
theorem p_new_k {b : Nat → Int} {n : Int} {σ : pS} {T : pT} {k : pT → pR} (h : T.1 = 2 ∧ T.2.2.2 ∉ x_W32) (h2 : ¬ (T.2.2.2 ∈ σ.1 ∨ T.2.2.2 ∈ σ.2.1 ∨ T.2.2.2 ∈ σ.2.2.1)) : p_new b n σ T k = k (t_tok b n 900 T.2.2.1) := by unfold p_new; rw [if_neg (fun q => q h), if_neg h2]
theorem p_num_1 {b : Nat → Int} {n lo hi : Int} {T : pT} {k : Int → pT → pR} (h : T.1 ≠ 4) : p_num b n lo hi T k = .inl (T.2.1, 1) := by unfold p_num; rw [if_pos h]
theorem p_num_2 {b : Nat → Int} {n lo hi : Int} {T : pT} {k : Int → pT → pR} (h : T.1 = 4) (h2 : T.2.2.2 < lo ∨ hi < T.2.2.2) : p_num b n lo hi T k = .inl (T.2.1, 2) := by unfold p_num; rw [if_neg (fun q => q h), if_pos h2]
theorem p_num_k {b : Nat → Int} {n lo hi : Int} {T : pT} {k : Int → pT → pR} (h : T.1 = 4) (h2 : ¬ (T.2.2.2 < lo ∨ hi < T.2.2.2)) : p_num b n lo hi T k = k T.2.2.2 (t_tok b n 900 T.2.2.1) := by unfold p_num; rw [if_neg (fun q => q h), if_neg h2]
theorem p_ref_1 {b : Nat → Int} {n : Int} {N : List Int} {T : pT} {k : pT → pR} (h : ¬ (T.1 = 2 ∧ T.2.2.2 ∉ x_W32)) : p_ref b n N T k = .inl (T.2.1, 1) := by unfold p_ref; rw [if_pos h]
theorem p_ref_3 {b : Nat → Int} {n : Int} {N : List Int} {T : pT} {k : pT → pR} (h : T.1 = 2 ∧ T.2.2.2 ∉ x_W32) (h2 : T.2.2.2 ∉ N) : p_ref b n N T k = .inl (T.2.1, 3) := by unfold p_ref; rw [if_neg (fun q => q h), if_pos h2]
theorem p_ref_k {b : Nat → Int} {n : Int} {N : List Int} {T : pT} {k : pT → pR} (h : T.1 = 2 ∧ T.2.2.2 ∉ x_W32) (h2 : T.2.2.2 ∈ N) : p_ref b n N T k = k (t_tok b n 900 T.2.2.1) := by unfold p_ref; rw [if_neg (fun q => q h), if_neg (fun q => q h2)]
/-- is the NAME there, of any sort -/
theorem c_nm_any {S M C : List Int} {I L : xF} (h : c_nm S M C I L) (x : Int) : (∃ k : Nat, (k : Int) < I 25 3 ∧ L 26 k = x) ↔ (x ∈ S ∨ x ∈ M ∨ x ∈ C) := by
  obtain ⟨_, g2, g3, g4, g5⟩ := h
  constructor
  · rintro ⟨k, k1, k2⟩
    rcases (g5 k k1).1 with q | q | q
    · exact Or.inl ((g2 x).mp ⟨k, k1, k2, q⟩)
    · exact Or.inr (Or.inl ((g3 x).mp ⟨k, k1, k2, q⟩))
    · exact Or.inr (Or.inr ((g4 x).mp ⟨k, k1, k2, q⟩))
  · rintro (q | q | q)
    · obtain ⟨k, k1, k2, _⟩ := (g2 x).mpr q
      exact ⟨k, k1, k2⟩
    · obtain ⟨k, k1, k2, _⟩ := (g3 x).mpr q
      exact ⟨k, k1, k2⟩
    · obtain ⟨k, k1, k2, _⟩ := (g4 x).mpr q
      exact ⟨k, k1, k2⟩
/-- a method of the reader: before, behind -/
def c_pre : xPre := fun za I L => za = [xR 17] ∧ ∃ b n q σ T, c_all b n q σ T I L ∧ 2 ≤ T.1
def c_post (f : (Nat → Int) → Int → pS → pT → pR) : xPost := fun _ I L rv I' L' => ∀ b n q σ T, c_all b n q σ T I L → 2 ≤ T.1 → c_out b n q (f b n σ T) rv I' L'
