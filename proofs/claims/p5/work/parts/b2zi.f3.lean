/-! ===== the reference reads a LINE of a BOOK ===== -/
def q_sgB : List (Nat × Int × Int) := [(1, (.ofNat 0), (.ofNat 22)), (1, (.ofNat 0), (.ofNat 62)), (1, (.negSucc 2147483647), (.ofNat 2147483647)), (1, (.ofNat 0), (.ofNat 22)), (1, (.ofNat 0), (.ofNat 62)), (1, (.negSucc 2147483647), (.ofNat 2147483647)), (1, (.ofNat 0), (.ofNat 22)), (1, (.ofNat 0), (.ofNat 62)), (1, (.negSucc 2147483647), (.ofNat 2147483647)), (1, (.ofNat 0), (.ofNat 22)), (1, (.ofNat 0), (.ofNat 62)), (1, (.negSucc 2147483647), (.ofNat 2147483647)), (1, (.ofNat 0), (.ofNat 22)), (1, (.ofNat 0), (.ofNat 62)), (1, (.negSucc 2147483647), (.ofNat 2147483647)), (1, (.ofNat 0), (.ofNat 22)), (1, (.ofNat 0), (.ofNat 62)), (1, (.negSucc 2147483647), (.ofNat 2147483647)), (1, (.ofNat 0), (.ofNat 22)), (1, (.ofNat 0), (.ofNat 62)), (1, (.negSucc 2147483647), (.ofNat 2147483647)), (1, (.ofNat 0), (.ofNat 22)), (1, (.ofNat 0), (.ofNat 62)), (1, (.negSucc 2147483647), (.ofNat 2147483647)), (1, (.ofNat 0), (.ofNat 22)), (1, (.ofNat 0), (.ofNat 62)), (1, (.negSucc 2147483647), (.ofNat 2147483647)), (1, (.ofNat 0), (.ofNat 22)), (1, (.ofNat 0), (.ofNat 62)), (1, (.negSucc 2147483647), (.ofNat 2147483647)), (1, (.ofNat 0), (.ofNat 22)), (1, (.ofNat 0), (.ofNat 62)), (1, (.negSucc 2147483647), (.ofNat 2147483647)), (1, (.ofNat 0), (.ofNat 22)), (1, (.ofNat 0), (.ofNat 62)), (1, (.negSucc 2147483647), (.ofNat 2147483647)), (1, (.ofNat 0), (.ofNat 22)), (1, (.ofNat 0), (.ofNat 62)), (1, (.negSucc 2147483647), (.ofNat 2147483647)), (1, (.ofNat 0), (.ofNat 22)), (1, (.ofNat 0), (.ofNat 62)), (1, (.negSucc 2147483647), (.ofNat 2147483647)), (1, (.ofNat 0), (.ofNat 22)), (1, (.ofNat 0), (.ofNat 62)), (1, (.negSucc 2147483647), (.ofNat 2147483647)), (1, (.ofNat 0), (.ofNat 22)), (1, (.ofNat 0), (.ofNat 62)), (1, (.negSucc 2147483647), (.ofNat 2147483647)), (1, (.ofNat 0), (.ofNat 22)), (1, (.ofNat 0), (.ofNat 62)), (1, (.negSucc 2147483647), (.ofNat 2147483647)), (1, (.ofNat 0), (.ofNat 22)), (1, (.ofNat 0), (.ofNat 62)), (1, (.negSucc 2147483647), (.ofNat 2147483647)), (1, (.ofNat 0), (.ofNat 22)), (1, (.ofNat 0), (.ofNat 62)), (1, (.negSucc 2147483647), (.ofNat 2147483647)), (1, (.ofNat 0), (.ofNat 22)), (1, (.ofNat 0), (.ofNat 62)), (1, (.negSucc 2147483647), (.ofNat 2147483647)), (1, (.ofNat 0), (.ofNat 22)), (1, (.ofNat 0), (.ofNat 62)), (1, (.negSucc 2147483647), (.ofNat 2147483647)), (1, (.ofNat 0), (.ofNat 22)), (1, (.ofNat 0), (.ofNat 62)), (1, (.negSucc 2147483647), (.ofNat 2147483647)), (1, (.ofNat 0), (.ofNat 22)), (1, (.ofNat 0), (.ofNat 62)), (1, (.negSucc 2147483647), (.ofNat 2147483647)), (1, (.ofNat 0), (.ofNat 22)), (1, (.ofNat 0), (.ofNat 62)), (1, (.negSucc 2147483647), (.ofNat 2147483647)), (1, (.ofNat 0), (.ofNat 22)), (1, (.ofNat 0), (.ofNat 62)), (1, (.negSucc 2147483647), (.ofNat 2147483647)), (1, (.ofNat 0), (.ofNat 22)), (1, (.ofNat 0), (.ofNat 62)), (1, (.negSucc 2147483647), (.ofNat 2147483647)), (1, (.ofNat 0), (.ofNat 22)), (1, (.ofNat 0), (.ofNat 62)), (1, (.negSucc 2147483647), (.ofNat 2147483647)), (1, (.ofNat 0), (.ofNat 22)), (1, (.ofNat 0), (.ofNat 62)), (1, (.negSucc 2147483647), (.ofNat 2147483647)), (1, (.ofNat 0), (.ofNat 22)), (1, (.ofNat 0), (.ofNat 62)), (1, (.negSucc 2147483647), (.ofNat 2147483647)), (1, (.ofNat 0), (.ofNat 22)), (1, (.ofNat 0), (.ofNat 62)), (1, (.negSucc 2147483647), (.ofNat 2147483647)), (1, (.ofNat 0), (.ofNat 22)), (1, (.ofNat 0), (.ofNat 62)), (1, (.negSucc 2147483647), (.ofNat 2147483647)), (1, (.ofNat 0), (.ofNat 22)), (1, (.ofNat 0), (.ofNat 62)), (1, (.negSucc 2147483647), (.ofNat 2147483647)), (1, (.ofNat 0), (.ofNat 22)), (1, (.ofNat 0), (.ofNat 62)), (1, (.negSucc 2147483647), (.ofNat 2147483647)), (1, (.ofNat 0), (.ofNat 22)), (1, (.ofNat 0), (.ofNat 62)), (1, (.negSucc 2147483647), (.ofNat 2147483647)), (1, (.ofNat 0), (.ofNat 22)), (1, (.ofNat 0), (.ofNat 62)), (1, (.negSucc 2147483647), (.ofNat 2147483647)), (1, (.ofNat 0), (.ofNat 22)), (1, (.ofNat 0), (.ofNat 62)), (1, (.negSucc 2147483647), (.ofNat 2147483647)), (1, (.ofNat 0), (.ofNat 22)), (1, (.ofNat 0), (.ofNat 62)), (1, (.negSucc 2147483647), (.ofNat 2147483647)), (1, (.ofNat 0), (.ofNat 22)), (1, (.ofNat 0), (.ofNat 62)), (1, (.negSucc 2147483647), (.ofNat 2147483647)), (1, (.ofNat 0), (.ofNat 22)), (1, (.ofNat 0), (.ofNat 62)), (1, (.negSucc 2147483647), (.ofNat 2147483647)), (1, (.ofNat 0), (.ofNat 22)), (1, (.ofNat 0), (.ofNat 62)), (1, (.negSucc 2147483647), (.ofNat 2147483647)), (1, (.ofNat 0), (.ofNat 22)), (1, (.ofNat 0), (.ofNat 62)), (1, (.negSucc 2147483647), (.ofNat 2147483647)), (1, (.ofNat 0), (.ofNat 22)), (1, (.ofNat 0), (.ofNat 62)), (1, (.negSucc 2147483647), (.ofNat 2147483647)), (1, (.ofNat 0), (.ofNat 22)), (1, (.ofNat 0), (.ofNat 62)), (1, (.negSucc 2147483647), (.ofNat 2147483647)), (1, (.ofNat 0), (.ofNat 22)), (1, (.ofNat 0), (.ofNat 62)), (1, (.negSucc 2147483647), (.ofNat 2147483647)), (1, (.ofNat 0), (.ofNat 22)), (1, (.ofNat 0), (.ofNat 62)), (1, (.negSucc 2147483647), (.ofNat 2147483647))]
theorem q_sgB3 : ∀ k : Fin 40, y_seg q_sgB (3 * k.val) = some (0, 22) ∧ y_seg q_sgB (3 * k.val + 1) = some (0, 62) ∧ y_seg q_sgB (3 * k.val + 2) = some (-2147483648, 2147483647) := by decide +kernel
theorem q_s0 {j : Nat} (h : j < 40) {v : Int} (hv : 0 ≤ v ∧ v ≤ 22) : ∀ w, y_seg q_sgB (3 * (j : Int)).toNat = some w → w.1 ≤ v ∧ v ≤ w.2 := fun w hw => by
  rw [show (3 * (j : Int)).toNat = 3 * j by omega, (q_sgB3 ⟨j, h⟩).1] at hw
  cases hw
  exact hv
theorem q_s1 {j : Nat} (h : j < 40) {v : Int} (hv : 0 ≤ v ∧ v ≤ 62) : ∀ w, y_seg q_sgB (3 * (j : Int) + 1).toNat = some w → w.1 ≤ v ∧ v ≤ w.2 := fun w hw => by
  rw [show (3 * (j : Int) + 1).toNat = 3 * j + 1 by omega, (q_sgB3 ⟨j, h⟩).2.1] at hw
  cases hw
  exact hv
theorem q_s2 {j : Nat} (h : j < 40) {v : Int} (hv : -1 ≤ v ∧ v ≤ 999) : ∀ w, y_seg q_sgB (3 * (j : Int) + 2).toNat = some w → w.1 ≤ v ∧ v ≤ w.2 := fun w hw => by
  rw [show (3 * (j : Int) + 2).toNat = 3 * j + 2 by omega, (q_sgB3 ⟨j, h⟩).2.2] at hw
  cases hw
  exact (show (-2147483648 : Int) ≤ v ∧ v ≤ 2147483647 by omega)
theorem x_sN_f {r c : Nat} (h : r ≠ 209) : x_sN r c = false := by
  unfold x_sN
  cases hb : Nat.beq r 209 with
  | true => exact absurd (Nat.eq_of_beq_eq_true hb) h
  | false => rfl
/-- what the members that take TOKENS leave -/
def rb_g (I I' : xF) : Prop := (∀ r c, r ≠ 209 → I' r c = I r c) ∧ I' 209 36 = I 209 36
theorem rb_g_t {I I' I2 : xF} (h : rb_g I I') (h2 : rb_g I' I2) : rb_g I I2 := ⟨fun r c hr => (h2.1 r c hr).trans (h.1 r c hr), h2.2.trans h.2⟩
theorem rb_g_nx {I L I' L' : xF} {za : List xV} {rv : Option xV} (h : xo_next za I L rv I' L') : rb_g I I' := ⟨fun r c hr => h.2.1 r c (x_sN_f hr), h.2.1 209 36 rfl⟩
theorem rb_g_bad {I : xF} {f : Int} : rb_g I (r_bad I f) := ⟨fun r c hr => (x_u_r hr).trans (x_u_r hr), rfl⟩
theorem rb_g_u {I : xF} {z : Int} : rb_g I (x_u I 209 18 z) := ⟨fun r c hr => x_u_r hr, rfl⟩
def rb_st (b : Nat → Int) (n : Int) (S M C : List Int) (T : pT) (I L : xF) : Prop :=
  (r_b I = b ∧ I 209 3 = n ∧ I 209 5 = 400 ∧ (0 ≤ n ∧ n ≤ 940) ∧ I 209 15 = 0) ∧ r_tok T I L ∧ (∃ p, 0 ≤ p ∧ p ≤ n ∧ T = t_tok b n 400 p) ∧ n3_r (I 211) (L 214) S M C ∧ (I 211 0 ≤ 8 ∧ I 211 1 ≤ 6 ∧ I 211 2 ≤ 8)
theorem rb_pos {b : Nat → Int} {n : Int} {S M C : List Int} {T : pT} {I L : xF} (h : rb_st b n S M C T I L) (hk : 2 ≤ T.1) : 0 ≤ T.2.2.1 ∧ T.2.2.1 ≤ n := by
  obtain ⟨_, _, ⟨p, p0, p1, rfl⟩, _⟩ := h
  have := t_tok_pos (b := b) (most := 400) p0 p1 hk
  omega
theorem rb_bh {b : Nat → Int} {n : Int} {S M C : List Int} {T : pT} {I L : xF} (h : rb_st b n S M C T I L) (hk : 2 ≤ T.1) : r_bh I := by
  have hp := rb_pos h hk
  obtain ⟨⟨e1, e2, e3, e4, e5⟩, h2, _⟩ := h
  have h5 := h2.2.1 hk
  unfold r_bh
  omega
theorem rb_bhn {b : Nat → Int} {n : Int} {S M C : List Int} {T : pT} {I L : xF} (h : rb_st b n S M C T I L) (hk : r_isn I L) : r_bh I := rb_bh h (by
  have := ((r_tok_isn h.2.1).mp hk).1
  omega)
theorem rb_bh2 {b : Nat → Int} {n : Int} {S M C : List Int} {T : pT} {I L : xF} (h : rb_st b n S M C T I L) (hk : I 209 11 = 2) : r_bh I := rb_bh h (by
  have := (r_tok_num h.2.1).1.mp hk
  omega)
theorem rb_bh3 {b : Nat → Int} {n : Int} {S M C : List Int} {T : pT} {I L : xF} (h : rb_st b n S M C T I L) (hk : I 209 11 = 3) : r_bh I := rb_bh h (by
  have := (r_tok_sign h.2.1).1.mp hk
  omega)
theorem rb_next {b : Nat → Int} {n : Int} {S M C : List Int} {T : pT} {I L : xF} {I' L' : xF} (hk : 2 ≤ T.1) (h : rb_st b n S M C T I L) (ha : xo_next [xR 210] I L none I' L') : rb_st b n S M C (q_nx b n T) I' L' := by
  have hp := rb_pos h hk
  obtain ⟨⟨e1, e2, e3, e4, e5⟩, h2, h3, h4, h5⟩ := h
  obtain ⟨_, f1, f2, f3⟩ := ha
  have hb := h2.2.1 hk
  rw [e1, e2, e3, hb] at f3
  exact ⟨⟨(r_b_fi f1).trans e1, (f1 209 3 rfl).trans e2, (f1 209 5 rfl).trans e3, e4, (f1 209 15 rfl).trans e5⟩, f3, ⟨T.2.2.1, hp.1, hp.2, rfl⟩, n3_r_eq h4 (fun i _ => f1 211 i rfl) h5 (fun k _ => f2 214 k rfl), by rw [f1 211 0 rfl, f1 211 1 rfl, f1 211 2 rfl]; exact h5⟩
theorem rb_mv {b : Nat → Int} {n : Int} {S M C : List Int} {T : pT} {I L : xF} {I' : xF} (h : rb_st b n S M C T I L) (hf : ∀ r c, ¬ (r = 209 ∧ 17 < c) → r ≠ 213 → I' r c = I r c) : rb_st b n S M C T I' L := by
  obtain ⟨⟨e1, e2, e3, e4, e5⟩, h2, h3, h4, h5⟩ := h
  have e : ∀ c, c ≤ 17 → I' 209 c = I 209 c := fun c hc => hf 209 c (by omega) (by decide)
  have er : ∀ r c, r ≠ 209 → r ≠ 213 → I' r c = I r c := fun r c hr => hf r c (fun q => hr q.1)
  refine ⟨⟨?_, (e 3 (by decide)).trans e2, (e 5 (by decide)).trans e3, e4, (e 15 (by decide)).trans e5⟩, r_tok_eq h2 (fun k hk => e k (by omega)) rfl, h3, n3_r_eq h4 (fun i _ => er 211 i (by decide) (by decide)) h5 (fun _ _ => rfl), by rw [er 211 0 (by decide) (by decide), er 211 1 (by decide) (by decide), er 211 2 (by decide) (by decide)]; exact h5⟩
  rw [← e1]
  exact funext (fun j => by
    unfold r_b
    rw [er 210 j (by decide) (by decide)])
theorem rb_u3 {b : Nat → Int} {n : Int} {S M C : List Int} {T : pT} {I L : xF} {k : Nat} {z : Int} (h : rb_st b n S M C T I L) : rb_st b n S M C T (x_u I 213 k z) L := rb_mv h (fun r c _ hr => x_u_r hr)
theorem rb_u8 {b : Nat → Int} {n : Int} {S M C : List Int} {T : pT} {I L : xF} {z : Int} (h : rb_st b n S M C T I L) : rb_st b n S M C T (x_u I 209 18 z) L := rb_mv h (fun r c hr _ => (x_u_if _ _ _ _ _ _).trans (if_neg (fun q => hr ⟨q.1, by omega⟩)))
def rb_out (b : Nat → Int) (n : Int) (S M C : List Int) (r : (Int × Int) ⊕ pT) (rv : Option xV) (I' L' : xF) : Prop := match r with
  | .inl (_, f) => rv = some (.inl 0) ∧ I' 209 15 = f
  | .inr T' => rv = some (.inl 1) ∧ rb_st b n S M C T' I' L'
theorem rb_out_rv {b : Nat → Int} {n : Int} {S M C : List Int} {r : (Int × Int) ⊕ pT} {rv : Option xV} {I L : xF} (h : rb_out b n S M C r rv I L) : rv = some (.inl 0) ∨ rv = some (.inl 1) := by
  rcases r with ⟨at0, f⟩ | T
  · exact Or.inl h.1
  · exact Or.inr h.1
theorem rb_out_0 {b : Nat → Int} {n : Int} {S M C : List Int} {r : (Int × Int) ⊕ pT} {I L : xF} (h : rb_out b n S M C r (some (.inl 0)) I L) : ∃ at0 f, r = .inl (at0, f) ∧ I 209 15 = f := by
  rcases r with ⟨at0, f⟩ | T
  · exact ⟨at0, f, rfl, h.2⟩
  · exact (rm_ne10 h.1.symm).elim
theorem rb_out_1 {b : Nat → Int} {n : Int} {S M C : List Int} {r : (Int × Int) ⊕ pT} {I L : xF} (h : rb_out b n S M C r (some (.inl 1)) I L) : ∃ T, r = .inr T ∧ rb_st b n S M C T I L := by
  rcases r with ⟨at0, f⟩ | T
  · exact (rm_ne10 h.1).elim
  · exact ⟨T, rfl, h.2⟩
theorem rb_out_u {b : Nat → Int} {n : Int} {S M C : List Int} {r : (Int × Int) ⊕ pT} {I L : xF} {k : Nat} {z : Int} (h : rb_out b n S M C r (some (.inl 1)) I L) : rb_out b n S M C r (some (.inl 1)) (x_u I 213 k z) L := by
  obtain ⟨T, rfl, h1⟩ := rb_out_1 h
  exact ⟨rfl, rb_u3 h1⟩
/-- a NAME of a sort, as both tell it -/
theorem rb_in {b : Nat → Int} {n : Int} {S M C : List Int} {T : pT} {I L : xF} {i fr : Nat} {mn : Int} {N : List Int} (h : rb_st b n S M C T I L) (hn : q_nm T) (hs : n3_s (I 211) (L 214) i fr N) (hm : mn = I 211 i) : (∃ k : Nat, (k : Int) < mn ∧ L 214 (fr + k) = L 209 17) ↔ T.2.2.2 ∈ N := by
  obtain ⟨h1, h2⟩ := r_tok_cv h.2.1 hn.1
  rw [h2, hm]
  exact hs _ h1
theorem rb_name {b : Nat → Int} {n : Int} {S M C : List Int} {T : pT} {I L : xF} {I' L' : xF} {rv : Option xV} {i fr : Nat} {z mn : Int} {N : List Int} (hs : n3_s (I 211) (L 214) i fr N) (hz : z.toNat = fr) (hm : mn = I 211 i) (h : rb_st b n S M C T I L) (hp : xo_tN [xR 210, .inl z, .inl mn] I L rv I' L') : rb_out b n S M C (q_name b n N T) rv I' L' ∧ rb_g I I' ∧ (rv = some (.inl 1) → 0 ≤ I' 209 18 ∧ I' 209 18 < mn) := by
  obtain ⟨z', mn', hza, hp⟩ := hp
  cases hza
  subst hz
  have hi := r_tok_isn h.2.1
  rcases hp with ⟨k1, rfl, rfl, rfl⟩ | ⟨k1, k2, rfl, rfl, rfl⟩ | ⟨k1, k2, k, k3, k4, rfl, k5⟩
  · refine ⟨?_, rb_g_bad, fun q => (rm_ne10 q.symm).elim⟩
    unfold q_name
    rw [if_pos (fun q => k1 (hi.mpr q))]
    exact ⟨rfl, rfl⟩
  · have hn := hi.mp k1
    refine ⟨?_, rb_g_t rb_g_u rb_g_bad, fun q => (rm_ne10 q.symm).elim⟩
    unfold q_name
    rw [if_neg (fun q => q hn), if_pos (fun q => k2 ((rb_in h hn hs hm).mpr q))]
    exact ⟨rfl, rfl⟩
  · have hn := hi.mp k1
    have e18 : I' 209 18 = (k : Int) := k5.2.1 209 18 rfl
    refine ⟨?_, rb_g_t rb_g_u (rb_g_nx k5), fun _ => by omega⟩
    unfold q_name
    rw [if_neg (fun q => q hn), if_neg (fun q => q ((rb_in h hn hs hm).mp k2))]
    exact ⟨rfl, rb_next (by omega) (rb_u8 h) k5⟩
theorem rb_num {b : Nat → Int} {n : Int} {S M C : List Int} {T : pT} {I L : xF} {I' L' : xF} {rv : Option xV} (h : rb_st b n S M C T I L) (hp : xo_tk [xR 210, .inl 1, .inl 60] I L rv I' L') : rb_out b n S M C (q_num b n T) rv I' L' ∧ rb_g I I' ∧ (rv = some (.inl 1) → 1 ≤ I' 209 18 ∧ I' 209 18 ≤ 60) := by
  obtain ⟨lo, hi, hza, hp⟩ := hp
  cases hza
  have hn := r_tok_num h.2.1
  rcases hp with ⟨k1, rfl, rfl, rfl⟩ | ⟨k1, k2, rfl, rfl, rfl⟩ | ⟨k1, k2, k3, rfl, k5⟩
  · refine ⟨?_, rb_g_bad, fun q => (rm_ne10 q.symm).elim⟩
    unfold q_num
    rw [if_pos (fun q => k1 (hn.1.mpr q))]
    exact ⟨rfl, rfl⟩
  · have h9 := hn.1.mp k1
    have h8 := hn.2 k1
    refine ⟨?_, rb_g_bad, fun q => (rm_ne10 q.symm).elim⟩
    unfold q_num
    rw [if_neg (fun q => q h9), if_pos (by omega)]
    exact ⟨rfl, rfl⟩
  · have h9 := hn.1.mp k1
    have h8 := hn.2 k1
    have e18 : I' 209 18 = I 209 14 := k5.2.1 209 18 rfl
    refine ⟨?_, rb_g_t rb_g_u (rb_g_nx k5), fun _ => by omega⟩
    unfold q_num
    rw [if_neg (fun q => q h9), if_neg (by omega)]
    exact ⟨rfl, rb_next (by omega) (rb_u8 h) k5⟩
theorem rb_fd {I L I' L' : xF} {fr : Nat} {z mn : Int} {rv : Option xV} (hz : z.toNat = fr) (h : xo_fd [xR 210, .inl z, .inl mn] I L rv I' L') : I' = I ∧ L' = L ∧ ∃ v, rv = some (.inl v) ∧ -1 ≤ v ∧ (0 ≤ v → v < mn) ∧ (0 ≤ v ↔ ∃ k : Nat, (k : Int) < mn ∧ L 214 (fr + k) = L 209 17) := by
  obtain ⟨e1, e2, z', mn', hza, hp⟩ := h
  cases hza
  subst hz
  rcases hp with ⟨k, k1, k2, k3⟩ | ⟨k1, k2⟩
  · exact ⟨e1, e2, (k : Int), k3, by omega, fun _ => k1, fun _ => ⟨k, k1, k2⟩, fun _ => by omega⟩
  · exact ⟨e1, e2, -1, k2, by decide, fun q => absurd q (by decide), fun q => absurd q (by decide), fun ⟨k, g1, g2⟩ => absurd g2 (k1 k g1)⟩
theorem q_r {T : pT} {I L : xF} (h : r_tok T I L) {s w : Int} (hs : s ∈ x_W32) (hw : t_cv s = w) : (I 209 11 = 1 ∧ L 209 17 = w) ↔ q_w T s := r_tok_w h (x_W32_gw s hs) hw
/-- a LINE's form -/
def q_fm (I : xF) (j : Nat) : Prop := (I 213 (3 * j) = 0 ∧ (0 ≤ I 213 (3 * j + 1) ∧ I 213 (3 * j + 1) ≤ 7) ∧ (0 ≤ I 213 (3 * j + 2) ∧ I 213 (3 * j + 2) ≤ 7)) ∨ (I 213 (3 * j) = 1 ∧ (0 ≤ I 213 (3 * j + 1) ∧ I 213 (3 * j + 1) ≤ 5) ∧ (0 ≤ I 213 (3 * j + 2) ∧ I 213 (3 * j + 2) ≤ 7)) ∨ (I 213 (3 * j) = 2 ∧ (0 ≤ I 213 (3 * j + 1) ∧ I 213 (3 * j + 1) ≤ 7) ∧ (0 ≤ I 213 (3 * j + 2) ∧ I 213 (3 * j + 2) ≤ 5)) ∨ (I 213 (3 * j) = 3 ∧ (0 ≤ I 213 (3 * j + 1) ∧ I 213 (3 * j + 1) ≤ 7)) ∨ (I 213 (3 * j) = 4 ∧ (1 ≤ I 213 (3 * j + 1) ∧ I 213 (3 * j + 1) ≤ 60))
/-- what a LINE leaves -/
def rb_f (j : Nat) (I I' : xF) : Prop := (∀ r c, r ≠ 209 → r ≠ 213 → I' r c = I r c) ∧ I' 209 36 = I 209 36 ∧ ∀ c : Nat, c < 3 * j → I' 213 c = I 213 c
theorem rb_f_g {j : Nat} {I I' I2 : xF} (h : rb_f j I I') (h2 : rb_g I' I2) : rb_f j I I2 := ⟨fun r c h3 h4 => (h2.1 r c h3).trans (h.1 r c h3 h4), h2.2.trans h.2.1, fun c hc => (h2.1 213 c (by decide)).trans (h.2.2 c hc)⟩
theorem rb_f_u {j : Nat} {I I' : xF} {k : Nat} {z : Int} (h : rb_f j I I') (hk : 3 * j ≤ k) : rb_f j I (x_u I' 213 k z) := ⟨fun r c h3 h4 => (x_u_r h4).trans (h.1 r c h3 h4), h.2.1, fun c hc => (x_u_k (by omega)).trans (h.2.2 c hc)⟩
theorem rb_f_0 {j : Nat} {I : xF} : rb_f j I I := ⟨fun _ _ _ _ => rfl, rfl, fun _ _ => rfl⟩
/-- what stands in the row -/
theorem q_at {I I' : xF} {k k' : Nat} {z : Int} (hg : rb_g (x_u I 213 k z) I') : (k' = k → I' 213 k' = z) ∧ (k' ≠ k → I' 213 k' = I 213 k') := ⟨fun e => by
  rw [hg.1 213 k' (by decide), e]
  exact x_u_s _ _ _ _, fun e => by
  rw [hg.1 213 k' (by decide)]
  exact x_u_k e⟩
section XF3
variable {EX : (Nat → Prop) → State → Heap → Prop} {l : Launch} {kc : Nat → ClassId} {D : va_G} {xb : Nat} {ad : Nat → Option Nat}
def xr_bl : xPre := fun za I L => za = [xR 210] ∧ ∃ b n S M C T, rb_st b n S M C T I L
def xo_bl : xPost := fun _ I L rv I' L' => (rv = some (.inl 0) ∨ (rv = some (.inl 1) ∧ I 209 36 < 40 ∧ q_fm I' (I 209 36).toNat)) ∧ rb_f (I 209 36).toNat I I' ∧ ∀ b n S M C T, rb_st b n S M C T I L → rb_out b n S M C (q_line b n S M C (I 209 36) T) rv I' L'
def cf_bl : List (Nat × Nat × xPre × xPost) := [(177, 0, xr_mw, xo_mw), (176, 0, xr_bad, xo_bad), (175, 1, xr_next, xo_next), (181, 2, xr_tk, xo_tk), (180, 0, xr_m, xo_mn), (183, 0, xr_fd, xo_fd), (186, 3, xr_tN, xo_tN)]
theorem cf_bl_ok (hE : z_EX EX) : x_ctok EX l zTB zNT kc D vwCl xb yTY ad yP0 (x_ctl cf_bl) := x_ctl_cons (xk_mw hE) (x_ctl_cons (xk_bad hE) (x_ctl_cons (xk_next hE) (x_ctl_cons (xk_tk hE) (x_ctl_cons (xk_mn hE) (x_ctl_cons (xk_fd hE) (x_ctl_cons (xk_tN hE) x_ctl_nil))))))
set_option maxRecDepth 20000 in
set_option maxHeartbeats 8000000 in
theorem xf_bl (hE : z_EX EX) : x_Ok EX l zTB zNT kc D vwCl xb yTY ad yP0 259 4 xr_bl xo_bl := by
  refine x_meth (M := ym_X12_bookLine) hE y_prog 200 rfl (by decide) (cf_bl_ok hE) (fun za I L ⟨h, _⟩ => by subst h; exact (by decide : 1 ≤ 5)) (fun za I L ⟨h, b0, n0, S0, M0, C0, T0, hst0⟩ => ?_)
  subst h
  intro k (hk : k = I 209 36) (bk : 0 ≤ k ∧ k ≤ 40)
  obtain ⟨j, rfl⟩ : ∃ j : Nat, k = (j : Int) := ⟨k.toNat, by omega⟩
  have t0 : (3 * (j : Int)).toNat = 3 * j := by omega
  have t1 : (3 * (j : Int) + 1).toNat = 3 * j + 1 := by omega
  have t2 : (3 * (j : Int) + 2).toNat = 3 * j + 2 := by omega
  refine Or.inl ⟨by omega, ?_⟩
  refine ⟨_, 6578553, zw_1379, by decide +kernel, ?_⟩
  refine And.intro ⟨_, rfl⟩ ?_
  rintro rv I1 L1 ⟨e1, e2, x, hx, ⟨g1, g2, rfl⟩ | ⟨g1, rfl⟩⟩
  · cases hx
    subst e1
    subst e2
    have hj : (I1 209 36).toNat = j := by omega
    have hw : ∀ {b n S M C T}, rb_st b n S M C T I1 L1 → q_w T 4153 := fun h => (q_r h.2.1 (by decide) (by decide +kernel)).mp ⟨g1, g2⟩
    have hw0 := hw hst0
    refine And.intro (fun q => absurd q (by decide)) (fun _ => ?_)
    intro z (hz : z = I1 209 36) (bz : 0 ≤ z ∧ z ≤ 40)
    refine And.intro ?_ ?_
    · intro c1
      have hj40 : j < 40 := by omega
      refine And.intro ⟨rfl, rb_bh hst0 (by omega)⟩ ?_
      intro rv I2 L2 hnx
      have h9 := hnx.1
      subst h9
      refine And.intro (show 0 ≤ 3 * (j : Int) ∧ 3 * (j : Int) < 135 by omega) ?_
      refine And.intro (q_s0 hj40 (by decide)) ?_
      have hA : ∀ {b n S M C T}, rb_st b n S M C T I1 L1 → rb_st b n S M C (q_nx b n T) (x_u I2 213 (3 * (j : Int)).toNat 4) L2 := fun h => rb_u3 (rb_next (by have := hw h; omega) h hnx)
      refine And.intro ⟨1, 60, rfl, by decide, by decide, fun k2 => rb_bh2 (hA hst0) k2⟩ ?_
      intro rv I3 L3 hp
      have hN : ∀ {b n S M C T}, rb_st b n S M C T I1 L1 → rb_out b n S M C (q_num b n (q_nx b n T)) rv I3 L3 := fun h => (rb_num (hA h) hp).1
      obtain ⟨_, hG, hV⟩ := rb_num (hA hst0) hp
      have hF : rb_f j I1 I3 := rb_f_g (rb_f_u (rb_f_g rb_f_0 (rb_g_nx hnx)) (by omega)) hG
      have hL : ∀ {b n S M C T}, rb_st b n S M C T I1 L1 → q_line b n S M C (I1 209 36) T = q_num b n (q_nx b n T) := fun h => by
        unfold q_line
        rw [if_pos (hw h), if_neg (by omega)]
      rcases rb_out_rv (hN hst0) with rfl | rfl
      · refine And.intro (fun q => absurd rfl q) (fun _ => ?_)
        exact ⟨by decide, Or.inl rfl, by rw [hj]; exact hF, fun b n S M C T h => by rw [hL h]; exact hN h⟩
      · have hv9 := hV rfl
        refine And.intro (fun _ => ?_) (fun q => absurd q (by decide))
        refine Or.inl ⟨by omega, ?_⟩
        intro v (hv : v = I3 209 18) _
        refine And.intro (show 0 ≤ 3 * (j : Int) + 1 ∧ 3 * (j : Int) + 1 < 135 by omega) ?_
        refine And.intro (q_s1 (v := v) hj40 (by omega)) ?_
        have f0 : x_u I3 213 (3 * (j : Int) + 1).toNat v 213 (3 * j) = 4 := by
          rw [t1, x_u_k (by omega)]
          exact (q_at hG).1 t0.symm
        have f1 : x_u I3 213 (3 * (j : Int) + 1).toNat v 213 (3 * j + 1) = v := by rw [t1, x_u_s]
        exact ⟨by decide, Or.inr ⟨rfl, by omega, by rw [hj]; exact Or.inr (Or.inr (Or.inr (Or.inr ⟨f0, by rw [f1]; omega⟩)))⟩, by rw [hj]; exact rb_f_u hF (by omega), fun b n S M C T h => by rw [hL h]; exact rb_out_u (hN h)⟩
    · intro c1
      refine And.intro ⟨4, rfl, by decide, by decide⟩ ?_
      rintro rv I2 L2 ⟨f, hf, rfl, rfl, rfl⟩
      cases hf
      refine ⟨by decide, Or.inl rfl, rb_f_g rb_f_0 rb_g_bad, fun b n S M C T h => ?_⟩
      unfold q_line
      rw [if_pos (hw h), if_pos (by omega)]
      exact ⟨rfl, rfl⟩
  · cases hx
    subst e1
    subst e2
    have hj : (I1 209 36).toNat = j := by omega
    have hnw : ∀ {b n S M C T}, rb_st b n S M C T I1 L1 → ¬ q_w T 4153 := fun h q => g1 ((q_r h.2.1 (by decide) (by decide +kernel)).mpr q)
    refine And.intro (fun _ => ?_) (fun q => absurd rfl q)
    refine And.intro rfl ?_
    rintro rv I2 L2 ⟨e1, e2, ⟨hn1, rfl⟩ | ⟨hn1, rfl⟩⟩
    · subst e1
      subst e2
      have hnm : ∀ {b n S M C T}, rb_st b n S M C T I2 L2 → q_nm T := fun h => (r_tok_isn h.2.1).mp hn1
      have hnm0 := hnm hst0
      refine And.intro (fun _ => ?_) (fun q => absurd q (by decide))
      refine And.intro (by decide) ?_
      intro c (hc : c = I2 211 2) hcs
      have bc : 0 ≤ c ∧ c ≤ 8 := hcs (0, 8) rfl
      refine And.intro ⟨14, c, rfl, by decide, by omega, by omega⟩ ?_
      intro rv I3 L3 hp
      obtain ⟨e1, e2, i, rfl, bi, bi2, hiC⟩ := rb_fd (fr := 14) rfl hp
      subst e1
      subst e2
      refine And.intro (by decide) ?_
      intro m (hm : m = I3 211 1) hms
      have bm : 0 ≤ m ∧ m ≤ 6 := hms (0, 6) rfl
      refine And.intro ⟨8, m, rfl, by decide, by omega, by omega⟩ ?_
      intro rv I4 L4 hp
      obtain ⟨e1, e2, i3, rfl, bi3, bi4, hiM⟩ := rb_fd (fr := 8) rfl hp
      subst e1
      subst e2
      have hC : ∀ {b n S M C T}, rb_st b n S M C T I4 L4 → (0 ≤ i ↔ T.2.2.2 ∈ C) := fun h => hiC.trans (rb_in h (hnm h) h.2.2.2.1.2.2 hc)
      have hM : ∀ {b n S M C T}, rb_st b n S M C T I4 L4 → (0 ≤ i3 ↔ T.2.2.2 ∈ M) := fun h => hiM.trans (rb_in h (hnm h) h.2.2.2.1.2.1 hm)
      clear hiC hiM
      refine And.intro ?_ ?_
      · intro c1
        have hin : ∀ {b n S M C T}, rb_st b n S M C T I4 L4 → T.2.2.2 ∈ C := fun h => (hC h).mp c1
        intro z (hz : z = I4 209 36) (bz : 0 ≤ z ∧ z ≤ 40)
        refine And.intro ?_ ?_
        · intro c3
          have hj40 : j < 40 := by omega
          refine And.intro ⟨rfl, rb_bh hst0 (by omega)⟩ ?_
          intro rv J K hnx
          have h9 := hnx.1
          subst h9
          refine Or.inl ⟨by omega, ?_⟩
          refine And.intro (fun _ => ?_) (fun q => absurd c1 (by omega))
          refine And.intro (show 0 ≤ 3 * (j : Int) + 1 ∧ 3 * (j : Int) + 1 < 135 by omega) ?_
          refine And.intro (q_s1 (v := i) hj40 (by omega)) ?_
          have hA : ∀ {b n S M C T}, rb_st b n S M C T I4 L4 → rb_st b n S M C (q_nx b n T) (x_u J 213 (3 * (j : Int) + 1).toNat i) K := fun h => rb_u3 (rb_next (by have := hnm h; omega) h hnx)
          have hF : rb_f j I4 (x_u J 213 (3 * (j : Int) + 1).toNat i) := rb_f_u (rb_f_g rb_f_0 (rb_g_nx hnx)) (by omega)
          have hL : ∀ {b n S M C T}, rb_st b n S M C T I4 L4 → q_line b n S M C (I4 209 36) T = q_coat b n S M (q_nx b n T) := fun h => by
            unfold q_line
            rw [if_neg (hnw h), if_neg (fun q => q (hnm h))]
            rw [if_neg (fun q => q.1 (hin h))]
            rw [if_neg (by omega)]
            rw [if_neg (fun q => q (hin h))]
          have e0 : (x_u J 213 (3 * (j : Int) + 1).toNat i) 213 (3 * j + 1) = i := by rw [t1, x_u_s]
          refine And.intro (fun _ => ?_) (fun q => absurd c1 (by omega))
          refine ⟨_, 1818846579, zw_1375, by decide +kernel, ?_⟩
          refine And.intro ⟨_, rfl⟩ ?_
          rintro rv J20 K20 ⟨e1, e2, x, hx, ⟨g3, g4, rfl⟩ | ⟨g3, rfl⟩⟩
          · cases hx
            subst e1
            subst e2
            have hw : ∀ {b n S M C T}, rb_st b n S M C T I4 L4 → q_w (q_nx b n T) 402611 := fun h => (q_r (hA h).2.1 (by decide) (by decide +kernel)).mp ⟨g3, g4⟩
            have hw0 := hw hst0
            refine And.intro (fun q => absurd q (by decide)) (fun _ => ?_)
            refine And.intro (fun _ => ?_) (fun q => absurd q (by decide))
            refine And.intro (show 0 ≤ 3 * (j : Int) ∧ 3 * (j : Int) < 135 by omega) ?_
            refine And.intro (q_s0 hj40 (by decide)) ?_
            refine And.intro ⟨rfl, rb_bh (rb_u3 (hA hst0)) (by omega)⟩ ?_
            intro rv J3 K3 hnx3
            have h9 := hnx3.1
            subst h9
            have hA3 : ∀ {b n S M C T}, rb_st b n S M C T I4 L4 → rb_st b n S M C (q_nx b n (q_nx b n T)) J3 K3 := fun h => rb_next (by have := hw h; omega) (rb_u3 (hA h)) hnx3
            have hG3 := rb_g_nx hnx3
            have hF3 : rb_f j I4 J3 := rb_f_g (rb_f_u hF (by omega)) hG3
            have a0 : J3 213 (3 * j) = 0 := (q_at hG3).1 t0.symm
            have a1 : J3 213 (3 * j + 1) = i := ((q_at hG3).2 (by omega)).trans e0
            refine And.intro (fun _ => ?_) (fun q => absurd q (by decide))
            refine And.intro (fun q => absurd rfl q) (fun _ => ?_)
            refine And.intro (fun q => absurd rfl q) (fun _ => ?_)
            refine And.intro (by decide) ?_
            intro cc (hcc : cc = J3 211 0) hccs
            have bcc : 0 ≤ cc ∧ cc ≤ 8 := hccs (0, 8) rfl
            refine And.intro ⟨0, cc, rfl, by omega, fun k2 => rb_bhn (hA3 hst0) k2⟩ ?_
            intro rv J4 K4 hp
            have hN : ∀ {b n S M C T}, rb_st b n S M C T I4 L4 → rb_out b n S M C (q_name b n S (q_nx b n (q_nx b n T))) rv J4 K4 := fun h => (rb_name (hA3 h).2.2.2.1.1 (fr := 0) rfl hcc (hA3 h) hp).1
            obtain ⟨_, hG, hV⟩ := rb_name (hA3 hst0).2.2.2.1.1 (fr := 0) rfl hcc (hA3 hst0) hp
            have hF4 : rb_f j I4 J4 := rb_f_g hF3 hG
            have hL4 : ∀ {b n S M C T}, rb_st b n S M C T I4 L4 → q_line b n S M C (I4 209 36) T = q_name b n S (q_nx b n (q_nx b n T)) := @fun b n S M C T h => by
              rw [hL h]
              unfold q_coat
              rw [if_pos (hw h)]
            rcases rb_out_rv (hN hst0) with rfl | rfl
            · refine And.intro (fun q => absurd rfl q) (fun _ => ?_)
              exact ⟨by decide, Or.inl rfl, by rw [hj]; exact hF4, fun b n S M C T h => by rw [hL4 h]; exact hN h⟩
            · have hv9 := hV rfl
              refine And.intro (fun _ => ?_) (fun q => absurd q (by decide))
              refine Or.inl ⟨by omega, ?_⟩
              intro v (hv : v = J4 209 18) _
              refine And.intro (show 0 ≤ 3 * (j : Int) + 2 ∧ 3 * (j : Int) + 2 < 135 by omega) ?_
              refine And.intro (q_s2 (v := v) hj40 (by omega)) ?_
              have f0 : x_u J4 213 (3 * (j : Int) + 2).toNat v 213 (3 * j) = 0 := by
                rw [t2, x_u_k (by omega), hG.1 213 _ (by decide)]
                exact a0
              have f1 : x_u J4 213 (3 * (j : Int) + 2).toNat v 213 (3 * j + 1) = i := by
                rw [t2, x_u_k (by omega), hG.1 213 _ (by decide)]
                exact a1
              have f2 : x_u J4 213 (3 * (j : Int) + 2).toNat v 213 (3 * j + 2) = v := by rw [t2, x_u_s]
              exact ⟨by decide, Or.inr ⟨rfl, by omega, by rw [hj]; exact Or.inl ⟨f0, by rw [f1]; omega, by rw [f2]; omega⟩⟩, by rw [hj]; exact rb_f_u hF4 (by omega), fun b n S M C T h => by rw [hL4 h]; exact rb_out_u (hN h)⟩
          · cases hx
            subst e1
            subst e2
            refine And.intro (fun _ => ?_) (fun q => absurd rfl q)
            have f8 := g3
            clear g3
            refine ⟨_, 1818586740, zw_1376, by decide +kernel, ?_⟩
            refine And.intro ⟨_, rfl⟩ ?_
            rintro rv J30 K30 ⟨e1, e2, x, hx, ⟨g3, g4, rfl⟩ | ⟨g3, rfl⟩⟩
            · cases hx
              subst e1
              subst e2
              have hw : ∀ {b n S M C T}, rb_st b n S M C T I4 L4 → q_w (q_nx b n T) 398804 := fun h => (q_r (hA h).2.1 (by decide) (by decide +kernel)).mp ⟨g3, g4⟩
              have hw0 := hw hst0
              refine And.intro (fun q => absurd q (by decide)) (fun _ => ?_)
              refine And.intro (fun _ => ?_) (fun q => absurd q (by decide))
              refine And.intro (show 0 ≤ 3 * (j : Int) ∧ 3 * (j : Int) < 135 by omega) ?_
              refine And.intro (q_s0 hj40 (by decide)) ?_
              refine And.intro ⟨rfl, rb_bh (rb_u3 (hA hst0)) (by omega)⟩ ?_
              intro rv J3 K3 hnx3
              have h9 := hnx3.1
              subst h9
              have hA3 : ∀ {b n S M C T}, rb_st b n S M C T I4 L4 → rb_st b n S M C (q_nx b n (q_nx b n T)) J3 K3 := fun h => rb_next (by have := hw h; omega) (rb_u3 (hA h)) hnx3
              have hG3 := rb_g_nx hnx3
              have hF3 : rb_f j I4 J3 := rb_f_g (rb_f_u hF (by omega)) hG3
              have a0 : J3 213 (3 * j) = 2 := (q_at hG3).1 t0.symm
              have a1 : J3 213 (3 * j + 1) = i := ((q_at hG3).2 (by omega)).trans e0
              refine And.intro (fun _ => ?_) (fun q => absurd q (by decide))
              refine And.intro (fun _ => ?_) (fun q => absurd q (by decide))
              refine And.intro (fun _ => ?_) (fun q => absurd q (by decide))
              refine And.intro (by decide) ?_
              intro cc (hcc : cc = J3 211 1) hccs
              have bcc : 0 ≤ cc ∧ cc ≤ 6 := hccs (0, 6) rfl
              refine And.intro ⟨8, cc, rfl, by omega, fun k2 => rb_bhn (hA3 hst0) k2⟩ ?_
              intro rv J4 K4 hp
              have hN : ∀ {b n S M C T}, rb_st b n S M C T I4 L4 → rb_out b n S M C (q_name b n M (q_nx b n (q_nx b n T))) rv J4 K4 := fun h => (rb_name (hA3 h).2.2.2.1.2.1 (fr := 8) rfl hcc (hA3 h) hp).1
              obtain ⟨_, hG, hV⟩ := rb_name (hA3 hst0).2.2.2.1.2.1 (fr := 8) rfl hcc (hA3 hst0) hp
              have hF4 : rb_f j I4 J4 := rb_f_g hF3 hG
              have hL4 : ∀ {b n S M C T}, rb_st b n S M C T I4 L4 → q_line b n S M C (I4 209 36) T = q_name b n M (q_nx b n (q_nx b n T)) := @fun b n S M C T h => by
                rw [hL h]
                unfold q_coat
                rw [if_neg (fun q : q_w (q_nx b n T) 402611 => absurd (q.2.symm.trans (hw h).2) (by decide))]
                rw [if_pos (hw h)]
              rcases rb_out_rv (hN hst0) with rfl | rfl
              · refine And.intro (fun q => absurd rfl q) (fun _ => ?_)
                exact ⟨by decide, Or.inl rfl, by rw [hj]; exact hF4, fun b n S M C T h => by rw [hL4 h]; exact hN h⟩
              · have hv9 := hV rfl
                refine And.intro (fun _ => ?_) (fun q => absurd q (by decide))
                refine Or.inl ⟨by omega, ?_⟩
                intro v (hv : v = J4 209 18) _
                refine And.intro (show 0 ≤ 3 * (j : Int) + 2 ∧ 3 * (j : Int) + 2 < 135 by omega) ?_
                refine And.intro (q_s2 (v := v) hj40 (by omega)) ?_
                have f0 : x_u J4 213 (3 * (j : Int) + 2).toNat v 213 (3 * j) = 2 := by
                  rw [t2, x_u_k (by omega), hG.1 213 _ (by decide)]
                  exact a0
                have f1 : x_u J4 213 (3 * (j : Int) + 2).toNat v 213 (3 * j + 1) = i := by
                  rw [t2, x_u_k (by omega), hG.1 213 _ (by decide)]
                  exact a1
                have f2 : x_u J4 213 (3 * (j : Int) + 2).toNat v 213 (3 * j + 2) = v := by rw [t2, x_u_s]
                exact ⟨by decide, Or.inr ⟨rfl, by omega, by rw [hj]; exact Or.inr (Or.inr (Or.inl ⟨f0, by rw [f1]; omega, by rw [f2]; omega⟩))⟩, by rw [hj]; exact rb_f_u hF4 (by omega), fun b n S M C T h => by rw [hL4 h]; exact rb_out_u (hN h)⟩
            · cases hx
              subst e1
              subst e2
              refine And.intro (fun _ => ?_) (fun q => absurd rfl q)
              have f9 := g3
              clear g3
              refine ⟨_, 1801810036, zw_1377, by decide +kernel, ?_⟩
              refine And.intro ⟨_, rfl⟩ ?_
              rintro rv J40 K40 ⟨e1, e2, x, hx, ⟨g3, g4, rfl⟩ | ⟨g3, rfl⟩⟩
              · cases hx
                subst e1
                subst e2
                have hw : ∀ {b n S M C T}, rb_st b n S M C T I4 L4 → q_w (q_nx b n T) 366100 := fun h => (q_r (hA h).2.1 (by decide) (by decide +kernel)).mp ⟨g3, g4⟩
                have hw0 := hw hst0
                refine And.intro (fun q => absurd q (by decide)) (fun _ => ?_)
                refine And.intro (fun _ => ?_) (fun q => absurd q (by decide))
                refine And.intro (show 0 ≤ 3 * (j : Int) ∧ 3 * (j : Int) < 135 by omega) ?_
                refine And.intro (q_s0 hj40 (by decide)) ?_
                refine And.intro ⟨rfl, rb_bh (rb_u3 (hA hst0)) (by omega)⟩ ?_
                intro rv J3 K3 hnx3
                have h9 := hnx3.1
                subst h9
                have hA3 : ∀ {b n S M C T}, rb_st b n S M C T I4 L4 → rb_st b n S M C (q_nx b n (q_nx b n T)) J3 K3 := fun h => rb_next (by have := hw h; omega) (rb_u3 (hA h)) hnx3
                have hG3 := rb_g_nx hnx3
                have hF3 : rb_f j I4 J3 := rb_f_g (rb_f_u hF (by omega)) hG3
                have a0 : J3 213 (3 * j) = 3 := (q_at hG3).1 t0.symm
                have a1 : J3 213 (3 * j + 1) = i := ((q_at hG3).2 (by omega)).trans e0
                refine And.intro (fun q => absurd rfl q) (fun _ => ?_)
                refine ⟨by decide, Or.inr ⟨rfl, by omega, by rw [hj]; exact Or.inr (Or.inr (Or.inr (Or.inl ⟨a0, by rw [a1]; omega⟩)))⟩, by rw [hj]; exact hF3, fun b n S M C T h => ?_⟩
                rw [hL h]
                unfold q_coat
                rw [if_neg (fun q : q_w (q_nx b n T) 402611 => absurd (q.2.symm.trans (hw h).2) (by decide))]
                rw [if_neg (fun q : q_w (q_nx b n T) 398804 => absurd (q.2.symm.trans (hw h).2) (by decide))]
                rw [if_pos (hw h)]
                exact ⟨rfl, hA3 h⟩
              · cases hx
                subst e1
                subst e2
                refine And.intro (fun _ => ?_) (fun q => absurd rfl q)
                have f10 := g3
                clear g3
                refine And.intro (fun q => absurd q (by decide)) (fun _ => ?_)
                refine And.intro ⟨1, rfl, by decide, by decide⟩ ?_
                rintro rv J3 K3 ⟨f, hf, rfl, rfl, rfl⟩
                cases hf
                refine ⟨by decide, Or.inl rfl, by rw [hj]; exact rb_f_g hF rb_g_bad, fun b n S M C T h => ?_⟩
                rw [hL h]
                unfold q_coat
                rw [if_neg (fun q => f8 ((q_r (hA h).2.1 (by decide) (by decide +kernel)).mpr q)), if_neg (fun q => f9 ((q_r (hA h).2.1 (by decide) (by decide +kernel)).mpr q)), if_neg (fun q => f10 ((q_r (hA h).2.1 (by decide) (by decide +kernel)).mpr q))]
                exact ⟨rfl, rfl⟩
        · intro c3
          refine And.intro ⟨4, rfl, by decide, by decide⟩ ?_
          rintro rv I5 L5 ⟨f, hf, rfl, rfl, rfl⟩
          cases hf
          refine ⟨by decide, Or.inl rfl, rb_f_g rb_f_0 rb_g_bad, fun b n S M C T h => ?_⟩
          unfold q_line
          rw [if_neg (hnw h), if_neg (fun q => q (hnm h))]
          rw [if_neg (fun q => q.1 (hin h))]
          rw [if_pos (by omega)]
          exact ⟨rfl, rfl⟩
      · intro c1
        have hin : ∀ {b n S M C T}, rb_st b n S M C T I4 L4 → T.2.2.2 ∉ C := fun h q => absurd ((hC h).mpr q) (by omega)
        refine And.intro ?_ ?_
        · intro c2
          have hinM : ∀ {b n S M C T}, rb_st b n S M C T I4 L4 → T.2.2.2 ∈ M := fun h => (hM h).mp c2
          intro z (hz : z = I4 209 36) (bz : 0 ≤ z ∧ z ≤ 40)
          refine And.intro ?_ ?_
          · intro c3
            have hj40 : j < 40 := by omega
            refine And.intro ⟨rfl, rb_bh hst0 (by omega)⟩ ?_
            intro rv J K hnx
            have h9 := hnx.1
            subst h9
            refine Or.inl ⟨by omega, ?_⟩
            refine And.intro (fun q => absurd q (by omega)) (fun _ => ?_)
            refine And.intro (show 0 ≤ 3 * (j : Int) + 1 ∧ 3 * (j : Int) + 1 < 135 by omega) ?_
            refine And.intro (q_s1 (v := i3) hj40 (by omega)) ?_
            have hA : ∀ {b n S M C T}, rb_st b n S M C T I4 L4 → rb_st b n S M C (q_nx b n T) (x_u J 213 (3 * (j : Int) + 1).toNat i3) K := fun h => rb_u3 (rb_next (by have := hnm h; omega) h hnx)
            have hF : rb_f j I4 (x_u J 213 (3 * (j : Int) + 1).toNat i3) := rb_f_u (rb_f_g rb_f_0 (rb_g_nx hnx)) (by omega)
            have hL : ∀ {b n S M C T}, rb_st b n S M C T I4 L4 → q_line b n S M C (I4 209 36) T = q_wears b n C (q_nx b n T) := fun h => by
              unfold q_line
              rw [if_neg (hnw h), if_neg (fun q => q (hnm h))]
              rw [if_neg (fun q => q.2 (hinM h))]
              rw [if_neg (by omega)]
              rw [if_pos (hin h)]
            have e0 : (x_u J 213 (3 * (j : Int) + 1).toNat i3) 213 (3 * j + 1) = i3 := by rw [t1, x_u_s]
            refine And.intro (fun q => absurd q (by omega)) (fun _ => ?_)
            refine ⟨_, 512801993331, zw_1378, by decide +kernel, ?_⟩
            refine And.intro ⟨_, rfl⟩ ?_
            rintro rv J2 K2 ⟨e1, e2, x, hx, ⟨g3, g4, rfl⟩ | ⟨g3, rfl⟩⟩
            · cases hx
              subst e1
              subst e2
              have hw : ∀ {b n S M C T}, rb_st b n S M C T I4 L4 → q_w (q_nx b n T) 24282707 := fun h => (q_r (hA h).2.1 (by decide) (by decide +kernel)).mp ⟨g3, g4⟩
              have hw0 := hw hst0
              refine And.intro (fun _ => ?_) (fun q => absurd q (by decide))
              refine And.intro ⟨rfl, rb_bh (hA hst0) (by omega)⟩ ?_
              intro rv J3 K3 hnx3
              have h9 := hnx3.1
              subst h9
              refine And.intro (show 0 ≤ 3 * (j : Int) ∧ 3 * (j : Int) < 135 by omega) ?_
              refine And.intro (q_s0 hj40 (by decide)) ?_
              refine And.intro (by decide) ?_
              intro cc (hcc : cc = J3 211 2) hccs
              have bcc : 0 ≤ cc ∧ cc ≤ 8 := hccs (0, 8) rfl
              have hA3 : ∀ {b n S M C T}, rb_st b n S M C T I4 L4 → rb_st b n S M C (q_nx b n (q_nx b n T)) (x_u J3 213 (3 * (j : Int)).toNat 1) K3 := fun h => rb_u3 (rb_next (by have := hw h; omega) (hA h) hnx3)
              refine And.intro ⟨14, cc, rfl, by omega, fun k2 => rb_bhn (hA3 hst0) k2⟩ ?_
              intro rv J4 K4 hp
              have hN : ∀ {b n S M C T}, rb_st b n S M C T I4 L4 → rb_out b n S M C (q_name b n C (q_nx b n (q_nx b n T))) rv J4 K4 := fun h => (rb_name (hA3 h).2.2.2.1.2.2 (fr := 14) rfl hcc (hA3 h) hp).1
              obtain ⟨_, hG, hV⟩ := rb_name (hA3 hst0).2.2.2.1.2.2 (fr := 14) rfl hcc (hA3 hst0) hp
              have hF4 : rb_f j I4 J4 := rb_f_g (rb_f_u (rb_f_g hF (rb_g_nx hnx3)) (by omega)) hG
              have hL4 : ∀ {b n S M C T}, rb_st b n S M C T I4 L4 → q_line b n S M C (I4 209 36) T = q_name b n C (q_nx b n (q_nx b n T)) := fun h => by
                rw [hL h]
                unfold q_wears
                rw [if_pos (hw h)]
              rcases rb_out_rv (hN hst0) with rfl | rfl
              · refine And.intro (fun q => absurd rfl q) (fun _ => ?_)
                exact ⟨by decide, Or.inl rfl, by rw [hj]; exact hF4, fun b n S M C T h => by rw [hL4 h]; exact hN h⟩
              · have hv9 := hV rfl
                refine And.intro (fun _ => ?_) (fun q => absurd q (by decide))
                refine Or.inl ⟨by omega, ?_⟩
                intro v (hv : v = J4 209 18) _
                refine And.intro (show 0 ≤ 3 * (j : Int) + 2 ∧ 3 * (j : Int) + 2 < 135 by omega) ?_
                refine And.intro (q_s2 (v := v) hj40 (by omega)) ?_
                have f0 : x_u J4 213 (3 * (j : Int) + 2).toNat v 213 (3 * j) = 1 := by
                  rw [t2, x_u_k (by omega)]
                  exact (q_at hG).1 t0.symm
                have f1 : x_u J4 213 (3 * (j : Int) + 2).toNat v 213 (3 * j + 1) = i3 := by
                  rw [t2, x_u_k (by omega), (q_at hG).2 (by omega), (rb_g_nx hnx3).1 213 _ (by decide)]
                  exact e0
                have f2 : x_u J4 213 (3 * (j : Int) + 2).toNat v 213 (3 * j + 2) = v := by rw [t2, x_u_s]
                exact ⟨by decide, Or.inr ⟨rfl, by omega, by rw [hj]; exact Or.inr (Or.inl ⟨f0, by rw [f1]; omega, by rw [f2]; omega⟩)⟩, by rw [hj]; exact rb_f_u hF4 (by omega), fun b n S M C T h => by rw [hL4 h]; exact rb_out_u (hN h)⟩
            · cases hx
              subst e1
              subst e2
              refine And.intro (fun q => absurd rfl q) (fun _ => ?_)
              refine And.intro ⟨1, rfl, by decide, by decide⟩ ?_
              rintro rv J3 K3 ⟨f, hf, rfl, rfl, rfl⟩
              cases hf
              refine ⟨by decide, Or.inl rfl, by rw [hj]; exact rb_f_g hF rb_g_bad, fun b n S M C T h => ?_⟩
              rw [hL h]
              unfold q_wears
              rw [if_neg (fun q => g3 ((q_r (hA h).2.1 (by decide) (by decide +kernel)).mpr q))]
              exact ⟨rfl, rfl⟩
          · intro c3
            refine And.intro ⟨4, rfl, by decide, by decide⟩ ?_
            rintro rv I5 L5 ⟨f, hf, rfl, rfl, rfl⟩
            cases hf
            refine ⟨by decide, Or.inl rfl, rb_f_g rb_f_0 rb_g_bad, fun b n S M C T h => ?_⟩
            unfold q_line
            rw [if_neg (hnw h), if_neg (fun q => q (hnm h))]
            rw [if_neg (fun q => q.2 (hinM h))]
            rw [if_pos (by omega)]
            exact ⟨rfl, rfl⟩
        · intro c2
          refine And.intro ⟨3, rfl, by decide, by decide⟩ ?_
          rintro rv I5 L5 ⟨f, hf, rfl, rfl, rfl⟩
          cases hf
          refine ⟨by decide, Or.inl rfl, rb_f_g rb_f_0 rb_g_bad, fun b n S M C T h => ?_⟩
          unfold q_line
          rw [if_neg (hnw h), if_neg (fun q => q (hnm h)), if_pos ⟨hin h, fun q => absurd ((hM h).mpr q) (by omega)⟩]
          exact ⟨rfl, rfl⟩
    · subst e1
      subst e2
      refine And.intro (fun q => absurd rfl q) (fun _ => ?_)
      refine And.intro ⟨1, rfl, by decide, by decide⟩ ?_
      rintro rv I3 L3 ⟨f, hf, rfl, rfl, rfl⟩
      cases hf
      refine ⟨by decide, Or.inl rfl, rb_f_g rb_f_0 rb_g_bad, fun b n S M C T h => ?_⟩
      unfold q_line
      rw [if_neg (hnw h), if_pos (fun q => hn1 ((r_tok_isn h.2.1).mpr q))]
      exact ⟨rfl, rfl⟩
end XF3
