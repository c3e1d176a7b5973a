/-! ===== the NAMES of both ===== -/
def n3_in (r : Nat) (I L : xF) (u x : Int) : Prop := ∃ k : Nat, (k : Int) < I r 3 ∧ L (r + 1) k = x ∧ I (r + 2) k = u
/-- the class's: SEATS, MEN, COATS -/
def n3_c (r : Nat) (S M C : List Int) (I L : xF) : Prop := (∀ x, n3_in r I L 0 x ↔ x ∈ S) ∧ (∀ x, n3_in r I L 1 x ↔ x ∈ M) ∧ ∀ x, n3_in r I L 2 x ↔ x ∈ C
theorem n3_c_eq {r r' : Nat} {S M C : List Int} {I L I' L' : xF} (h : n3_c r S M C I L) (e1 : I' r' 3 = I r 3) (e2 : ∀ k : Nat, (k : Int) < I r 3 → L' (r' + 1) k = L (r + 1) k) (e3 : ∀ k : Nat, (k : Int) < I r 3 → I' (r' + 2) k = I (r + 2) k) : n3_c r' S M C I' L' := by
  have key : ∀ u x, n3_in r' I' L' u x ↔ n3_in r I L u x := fun u x => by
    unfold n3_in
    constructor
    · rintro ⟨k, k1, k2, k3⟩
      rw [e1] at k1
      exact ⟨k, k1, (e2 k k1).symm.trans k2, (e3 k k1).symm.trans k3⟩
    · rintro ⟨k, k1, k2, k3⟩
      exact ⟨k, by rw [e1]; exact k1, (e2 k k1).trans k2, (e3 k k1).trans k3⟩
  exact ⟨fun x => (key 0 x).trans (h.1 x), fun x => (key 1 x).trans (h.2.1 x), fun x => (key 2 x).trans (h.2.2 x)⟩
theorem n3_sc {S M C : List Int} {I L : xF} (h : n3_c 12 S M C I L) : sc_nm M C I L := ⟨h.2.1, h.2.2⟩
def n3_s (f g : Nat → Int) (i fr : Nat) (N : List Int) : Prop := ∀ x, x_gw x → ((∃ k : Nat, (k : Int) < f i ∧ g (fr + k) = t_cv x) ↔ x ∈ N)
/-- the reference's -/
def n3_r (f g : Nat → Int) (S M C : List Int) : Prop := n3_s f g 0 0 S ∧ n3_s f g 1 8 M ∧ n3_s f g 2 14 C
theorem n3_s_eq {f g f' g' : Nat → Int} {i fr : Nat} {N : List Int} (h : n3_s f g i fr N) (e1 : f' i = f i) (e2 : ∀ k : Nat, (k : Int) < f i → g' (fr + k) = g (fr + k)) : n3_s f' g' i fr N := fun x hx => by
  refine Iff.trans ⟨fun ⟨k, k1, k2⟩ => ?_, fun ⟨k, k1, k2⟩ => ⟨k, by rw [e1]; exact k1, (e2 k k1).trans k2⟩⟩ (h x hx)
  rw [e1] at k1
  exact ⟨k, k1, (e2 k k1).symm.trans k2⟩
theorem n3_r_eq {f g f' g' : Nat → Int} {S M C : List Int} (h : n3_r f g S M C) (e1 : ∀ i, i < 3 → f' i = f i) (hb : f 0 ≤ 8 ∧ f 1 ≤ 6 ∧ f 2 ≤ 8) (e2 : ∀ k, k < 22 → g' k = g k) : n3_r f' g' S M C := ⟨n3_s_eq h.1 (e1 0 (by decide)) (fun k hk => e2 _ (by omega)), n3_s_eq h.2.1 (e1 1 (by decide)) (fun k hk => e2 _ (by omega)), n3_s_eq h.2.2 (e1 2 (by decide)) (fun k hk => e2 _ (by omega))⟩
theorem n3_rm {S M C : List Int} {I L : xF} (h : n3_r (I 211) (L 214) S M C) : rm_nm M C I L := ⟨h.2.1, h.2.2⟩
theorem n3_of {f g : Nat → Int} {i fr : Nat} {N : List Int} (hN : f i = N.length) (h : ∀ k : Nat, k < N.length → ∃ s, N[k]? = some s ∧ g (fr + k) = t_cv s ∧ x_gw s) : n3_s f g i fr N := fun x hx => by
  constructor
  · rintro ⟨k, k1, k2⟩
    obtain ⟨y, y1, y2, y3⟩ := h k (by omega)
    have e : y = x := x_gw_inj y3 hx (y2.symm.trans k2)
    rw [← e]
    exact List.mem_of_getElem? y1
  · intro hm
    obtain ⟨k, hk⟩ := List.getElem?_of_mem hm
    have hl := (List.getElem?_eq_some_iff.mp hk).1
    obtain ⟨y, y1, y2, y3⟩ := h k hl
    rw [hk] at y1
    have e : x = y := Option.some.inj y1
    exact ⟨k, by omega, by rw [e]; exact y2⟩
theorem kv_n209 {r k : Nat} (h : kv_t r k = true) : r ≠ 209 := fun e => by
  subst e
  exact absurd (kv_tl h) (by decide)
theorem kv_sW {r k : Nat} (h : kv_t r k = true) : x_sW r k = false := by
  have h9 := kv_n209 h
  unfold x_sW
  cases hb : Nat.beq r 209 with
  | true => exact absurd (Nat.eq_of_beq_eq_true hb) h9
  | false => rfl
def c_cap3 (r : (Int × Int) ⊕ (Int × pS)) (I L I' L' : xF) : Prop := match r with
  | .inl _ => I' 12 3 = I 12 3 ∧ (∀ k, k < 22 → I' 14 k = I 14 k) ∧ ∀ k, k < 22 → L' 13 k = L 13 k
  | .inr (_, σ) => n3_c 12 σ.1 σ.2.1 σ.2.2.1 I' L'
def r_cap3 (r : (Int × Int) ⊕ (Int × pS)) (_I L I' L' : xF) : Prop := match r with
  | .inl _ => ∀ k, k < 22 → L' 214 k = L 214 k
  | .inr (_, σ) => n3_r (I' 211) (L' 214) σ.1 σ.2.1 σ.2.2.1
def rs_ln (σ : pS) (L : xF) : Prop := (r_nm σ.1 22 L ∧ r_nm σ.2.1 30 L ∧ r_nm σ.2.2.1 36 L) ∧ σ.1.length ≤ 8 ∧ σ.2.1.length ≤ 6 ∧ σ.2.2.1.length ≤ 8
