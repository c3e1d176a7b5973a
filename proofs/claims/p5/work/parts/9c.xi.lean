/-! ===== the class's reader: what is told once; a LINE ===== -/
theorem x_and2_bit {m : Int} {k : Nat} : x_and2 m ((2 ^ k : Nat) : Int) = 0 ↔ m.toNat.testBit k = false := by
  unfold x_and2
  rw [Int.toNat_natCast]
  constructor
  · intro h
    have h1 : m.toNat &&& 2 ^ k = 0 := by omega
    have h2 : (m.toNat &&& 2 ^ k).testBit k = false := by rw [h1]; exact Nat.zero_testBit k
    rw [Nat.testBit_and, Nat.testBit_two_pow_self, Bool.and_true] at h2
    exact h2
  · intro h
    have h1 : m.toNat &&& 2 ^ k = 0 := by
      refine Nat.eq_of_testBit_eq (fun i => ?_)
      rw [Nat.testBit_and, Nat.testBit_two_pow, Nat.zero_testBit]
      by_cases hi : k = i
      · subst hi
        rw [h]
        rfl
      · simp [hi]
    rw [h1]
    rfl
theorem x_or2_bit {m : Int} {k i : Nat} : (x_or2 m ((2 ^ k : Nat) : Int)).toNat.testBit i = (m.toNat.testBit i || decide (k = i)) := by
  unfold x_or2
  rw [Int.toNat_natCast, Int.toNat_natCast, Nat.testBit_or, Nat.testBit_two_pow]
theorem x_or2_lt {m : Int} {k : Nat} (h0 : 0 ≤ m) (h1 : m < 256) (hk : k < 8) : 0 ≤ x_or2 m ((2 ^ k : Nat) : Int) ∧ x_or2 m ((2 ^ k : Nat) : Int) < 256 := by
  unfold x_or2
  rw [Int.toNat_natCast]
  have h2 : m.toNat ||| 2 ^ k < 2 ^ 8 := Nat.or_lt_two_pow (by omega) (Nat.pow_lt_pow_right (by decide) hk)
  have h3 : (2 : Nat) ^ 8 = 256 := rfl
  omega
def p_ot (σ : pS) (j : Nat) : pS := (σ.1, σ.2.1, σ.2.2.1, σ.2.2.2.1, (fun i => if i = j then true else σ.2.2.2.2.1 i), σ.2.2.2.2.2)
/-- the bit is set: told -/
theorem c_ah_bit {b : Nat → Int} {n q : Int} {σ : pS} {T : pT} {I L : xF} {j : Nat} (h : c_all b n q σ T I L) (hj : j < 4) : c_all b n q (p_ot σ j) T (x_u I 16 3 (x_or2 (I 16 3) ((2 ^ (4 + j) : Nat) : Int))) L := by
  obtain ⟨a1, a2, a3, a4, a5, a6, a7, a8, a9⟩ := h
  have hlt := x_or2_lt a8.1 a8.2.1 (show 4 + j < 8 by omega)
  refine ⟨a1, a2, a3, a4, a5, a6, a7, ⟨hlt.1, hlt.2, fun i hi => ?_⟩, a9⟩
  show (x_or2 (I 16 3) ((2 ^ (4 + j) : Nat) : Int)).toNat.testBit (4 + i) = if i = j then true else σ.2.2.2.2.1 i
  rw [x_or2_bit, a8.2.2 i hi]
  by_cases hij : i = j
  · subst hij
    simp
  · rw [if_neg hij]
    have : ¬ (4 + j = 4 + i) := by omega
    rw [decide_eq_false this, Bool.or_false]
section XL3
variable {EX : (Nat → Prop) → State → Heap → Prop} {l : Launch} {kc : Nat → ClassId} {D : va_G} {xb : Nat} {ad : Nat → Option Nat}
def xr_once : xPre := fun za I L => ∃ (lo hi bf : Int) (j : Nat), za = [xR 17, .inl lo, .inl hi, .inl bf] ∧ j < 4 ∧ 0 ≤ lo ∧ I 1 7 = ((4 + j : Nat) : Int) ∧ ∃ b n q σ T, c_all b n q σ T I L ∧ 2 ≤ T.1
def c_oo (b : Nat → Int) (n q : Int) (lo hi bf : Int) (j : Nat) (r : pR) (rv : Option xV) (I' L' : xF) : Prop := match r with
  | .inl (at0, f) => rv = some (.inl bf) ∧ I' 1 9 = f ∧ I' 1 10 = at0 ∧ 1 ≤ f
  | .inr (σ', T') => ∃ x : Int, rv = some (.inl x) ∧ lo ≤ x ∧ x ≤ hi ∧ c_all b n q σ' T' (x_u I' 17 (4 + j) x) L'
def xo_once : xPost := fun za I L rv I' L' => ∀ (lo hi bf : Int) (j : Nat), za = [xR 17, .inl lo, .inl hi, .inl bf] → I 1 7 = ((4 + j : Nat) : Int) → j < 4 → ∀ b n q σ T, c_all b n q σ T I L → 2 ≤ T.1 → c_oo b n q lo hi bf j (p_once j lo hi b n σ T) rv I' L'
set_option maxHeartbeats 4000000 in
theorem xk_once (hE : z_EX EX) : x_Ok EX l zTB zNT kc D vwCl xb yTY ad yP0 45 3 xr_once xo_once := by
  refine x_meth (M := ym_X4_readOnce) hE y_prog 80 rfl (by decide) (ct_rd_ok hE) (fun za I L ⟨lo, hi, bf, j, h, _⟩ => by subst h; exact (by decide : 4 ≤ 6)) (fun za I L ⟨lo, hi, bf, j, h, hj, hlo, hw7, b0, n0, q0, σ0, T0, h0, hT0⟩ => ?_)
  subst h
  have hj9 : ∀ (lo' hi' bf' : Int) (j' : Nat), [xR 17, .inl lo, .inl hi, .inl bf] = [xR 17, Sum.inl lo', .inl hi', .inl bf'] → I 1 7 = ((4 + j' : Nat) : Int) → lo' = lo ∧ hi' = hi ∧ bf' = bf ∧ j' = j := fun lo' hi' bf' j' e1 e2 => by
    cases e1
    exact ⟨rfl, rfl, rfl, by omega⟩
  intro w (hw : w = I 1 7) _
  have hwj : w.toNat = 4 + j := by omega
  refine And.intro ⟨rfl, by omega, by omega⟩ ?_
  rw [hwj]
  intro m (hm : m = I 16 3) _
  have hm8 := h0.2.2.2.2.2.2.2.1
  have hp2 : (0 : Int) ≤ ((2 ^ (4 + j) : Nat) : Int) := Int.natCast_nonneg _
  refine Or.inr ⟨by omega, hp2, ?_⟩
  refine And.intro ?_ ?_
  · intro t1
    rw [x_and2_bit] at t1
    intro m2 (hm2 : m2 = I 16 3) _
    refine And.intro ⟨by omega, hp2⟩ ?_
    subst hm2
    have hor := x_or2_lt hm8.1 hm8.2.1 (show 4 + j < 8 by omega)
    refine And.intro (show -2147483648 ≤ x_or2 (I 16 3) ((2 ^ (4 + j) : Nat) : Int) ∧ x_or2 (I 16 3) ((2 ^ (4 + j) : Nat) : Int) ≤ 2147483647 by omega) ?_
    have H0 : ∀ b n q σ T, c_all b n q σ T I L → c_all b n q (p_ot σ j) T (x_u I 16 3 (x_or2 (I 16 3) ((2 ^ (4 + j) : Nat) : Int))) L := fun b n q σ T h => c_ah_bit h hj
    refine And.intro ⟨rfl, c_ah_bh (H0 _ _ _ _ _ h0) hT0⟩ ?_
    intro rv I1 L1 hadv
    have h9 := hadv.1
    subst h9
    have H1 : ∀ b n q σ T, c_all b n q σ T I L → 2 ≤ T.1 → c_all b n q (p_ot σ j) (t_tok b n 900 T.2.2.1) I1 L1 := fun b n q σ T h hT => c_ah_adv hT (H0 _ _ _ _ _ h) hadv
    have G1 := H1 _ _ _ _ _ h0 hT0
    have hok : ∀ b n q σ T, c_all b n q σ T I L → p_once j lo hi b n σ T = p_num b n lo hi (t_tok b n 900 T.2.2.1) (fun x T2 => .inr ((σ.1, σ.2.1, σ.2.2.1, σ.2.2.2.1, (fun i => if i = j then true else σ.2.2.2.2.1 i), (fun i => if i = j then x else σ.2.2.2.2.2 i)), T2)) := fun b n q σ T h => by
      unfold p_once
      rw [if_neg]
      have := h.2.2.2.2.2.2.2.1.2.2 j hj
      rw [← this, ← hm, t1]
      decide
    refine And.intro ⟨lo, hi, rfl, fun hk => c_ah_bh G1 (by have := (c_tok_num G1.2.1).1.mp hk; omega)⟩ ?_
    rintro rv I3 L3 ⟨lo', hi', hlh, ⟨m1, m2, m3, rfl, hadv3⟩ | ⟨m1, rfl, g1, g2⟩ | ⟨m1, m2, rfl, g1, g2⟩⟩
    · cases hlh
      refine And.intro (fun _ => ?_) (fun q => absurd q (by omega))
      intro lo' hi' bf' j' e1 e2 _ b n q σ T h hT
      obtain ⟨rfl, rfl, rfl, rfl⟩ := hj9 _ _ _ _ e1 e2
      have h1 := H1 _ _ _ _ _ h hT
      have e7 := (c_tok_num h1.2.1).2 m1
      have h3 := c_ah_adv (by have := (c_tok_num h1.2.1).1.mp m1; omega) h1 hadv3
      rw [hok b n q σ T h, p_num_k ((c_tok_num h1.2.1).1.mp m1) (by omega)]
      refine ⟨I1 1 7, rfl, m2, m3, ?_⟩
      obtain ⟨a1, a2, a3, a4, a5, a6, a7, a8, a9⟩ := h3
      refine ⟨a1, a2, a3, ?_, a5, a6, a7, a8, fun i hi => ?_, p_own_f a9.2 (fun c _ => if_neg (by omega))⟩
      · show x_u I3 17 (4 + j') (I1 1 7) 17 0 = _ ∧ x_u I3 17 (4 + j') (I1 1 7) 17 1 = _ ∧ x_u I3 17 (4 + j') (I1 1 7) 17 2 = _ ∧ x_u I3 17 (4 + j') (I1 1 7) 17 3 = _
        rw [x_u_k (by omega), x_u_k (by omega), x_u_k (by omega), x_u_k (by omega)]
        exact a4
      · show x_u I3 17 (4 + j') (I1 1 7) 17 (4 + i) = if i = j' then (t_tok b n 900 T.2.2.1).2.2.2 else σ.2.2.2.2.2 i
        rw [x_u_if]
        by_cases hij : i = j'
        · rw [if_pos ⟨rfl, by omega⟩, if_pos hij]
          exact e7
        · rw [if_neg (by omega), if_neg hij]
          exact a9.1 i hi
    · cases hlh
      subst g1
      subst g2
      refine And.intro (fun q => absurd rfl q) (fun _ => ?_)
      intro lo' hi' bf' j' e1 e2 _ b n q σ T h hT
      obtain ⟨rfl, rfl, rfl, rfl⟩ := hj9 _ _ _ _ e1 e2
      have h1 := H1 _ _ _ _ _ h hT
      rw [hok b n q σ T h, p_num_1 (fun q => m1 ((c_tok_num h1.2.1).1.mpr q))]
      exact ⟨rfl, rfl, h1.2.1.1, by decide⟩
    · cases hlh
      subst g1
      subst g2
      refine And.intro (fun q => absurd rfl q) (fun _ => ?_)
      intro lo' hi' bf' j' e1 e2 _ b n q σ T h hT
      obtain ⟨rfl, rfl, rfl, rfl⟩ := hj9 _ _ _ _ e1 e2
      have h1 := H1 _ _ _ _ _ h hT
      rw [hok b n q σ T h, p_num_2 ((c_tok_num h1.2.1).1.mp m1) (by rw [← (c_tok_num h1.2.1).2 m1]; exact m2)]
      exact ⟨rfl, rfl, h1.2.1.1, by decide⟩
  · intro t1
    refine And.intro ⟨3, rfl, by decide, by decide⟩ ?_
    rintro rv I3 L3 ⟨f, hf, rfl, rfl, rfl⟩
    cases hf
    intro lo' hi' bf' j' e1 e2 _ b n q σ T h hT
    obtain ⟨rfl, rfl, rfl, rfl⟩ := hj9 _ _ _ _ e1 e2
    have h2 := h.2.2.2.2.2.2.2.1.2.2 j' hj
    have h3 : (I 16 3).toNat.testBit (4 + j') = true := by
      cases hq : (I 16 3).toNat.testBit (4 + j') with
      | true => rfl
      | false =>
        rw [← hm] at hq
        exact absurd (x_and2_bit.mpr hq) t1
    unfold p_once
    rw [if_pos (h2.symm.trans h3)]
    exact ⟨rfl, rfl, h.2.1.1, by decide⟩
theorem c_out_rv {b : Nat → Int} {n q : Int} {r : pR} {rv : Option xV} {I' L' : xF} (h : c_out b n q r rv I' L') : rv = some (.inl 0) ∨ rv = some (.inl 1) := by
  match r, h with
  | .inl (_, _), h => exact Or.inl h.1
  | .inr (_, _), h => exact Or.inr h.1
theorem c_word {T : pT} {I L : xF} (h : c_tok T I L) (hk : I 1 6 = 2) : T.1 = 2 ∧ ∃ w : Nat, x_W32[w]? = some T.2.2.2 ∧ I 1 7 = w := by
  obtain ⟨_, _, h⟩ := h
  rcases h with ⟨h1, h2⟩ | ⟨h1, h2⟩ | ⟨h1, h2, h3⟩ | ⟨h1, h2, h3⟩ | ⟨h1, h2, h3⟩
  · omega
  · omega
  · rcases h3 with ⟨w, h4, h5, h6⟩ | ⟨_, h5⟩
    · exact ⟨h1, w, h4, h6⟩
    · omega
  · omega
  · omega
theorem c_wordi {T : pT} {I L : xF} (h : c_tok T I L) (hk : I 1 6 = 2) {i : Nat} (hi : I 1 7 = i) : T.1 = 2 ∧ x_W32[i]? = some T.2.2.2 := by
  obtain ⟨h1, w, h2, h3⟩ := c_word h hk
  obtain rfl : w = i := by omega
  exact ⟨h1, h2⟩
/-- the eight WORDS that begin a LINE -/
def x_W8 : List Int := [627764, 13358, 113716, 114052, 659993778, 8892563, 14143763, 12891444]
theorem p_line_no {b : Nat → Int} {n : Int} {σ : pS} {T : pT} (h : T.1 = 2 → T.2.2.2 ∉ x_W8) : p_line b n σ T = .inl (T.2.1, 1) := by
  unfold p_line
  by_cases h1 : T.1 ≠ 2
  · rw [if_pos h1]
  · have h2 := h (by omega)
    unfold x_W8 at h2
    simp only [List.mem_cons, List.not_mem_nil, or_false, not_or] at h2
    rw [if_neg h1, if_neg h2.1, if_neg h2.2.1, if_neg h2.2.2.1, if_neg h2.2.2.2.1, if_neg h2.2.2.2.2.1, if_neg h2.2.2.2.2.2.1, if_neg h2.2.2.2.2.2.2.1, if_neg h2.2.2.2.2.2.2.2]
theorem x_W8_in : ∀ x ∈ x_W8, x ∈ x_W32 := by decide
theorem x_W8_far : ∀ w : Fin 24, 8 ≤ w.val → ∀ x, x_W32[w.val]? = some x → x ∉ x_W8 := by
  intro w hw x hx
  have : ∀ w : Fin 24, 8 ≤ w.val → (match x_W32[w.val]? with
    | some x => decide (x ∉ x_W8)
    | none => true) = true := by decide
  have h := this w hw
  rw [hx] at h
  exact of_decide_eq_true h
def c_pre0 : xPre := fun za I L => za = [xR 17] ∧ ∃ b n q σ T, c_all b n q σ T I L
def c_post0 (f : (Nat → Int) → Int → pS → pT → pR) : xPost := fun _ I L rv I' L' => ∀ b n q σ T, c_all b n q σ T I L → c_out b n q (f b n σ T) rv I' L'
def ct_rl : List (Nat × Nat × xPre × xPost) := [(41, 3, c_pre, c_post p_seat), (42, 3, c_pre, c_post p_man), (43, 3, c_pre, c_post p_coat), (44, 3, c_pre, c_post p_cold), (45, 3, xr_once, xo_once), (106, 0, xr_ref, xo_ref)]
theorem ct_rl_ok (hE : z_EX EX) : x_ctok EX l zTB zNT kc D vwCl xb yTY ad yP0 (x_ctl ct_rl) := x_ctl_cons (xk_seat hE) (x_ctl_cons (xk_man hE) (x_ctl_cons (xk_coat hE) (x_ctl_cons (xk_cold hE) (x_ctl_cons (xk_once hE) (x_ctl_cons (xk_ref hE) x_ctl_nil)))))
set_option maxHeartbeats 4000000 in
theorem xk_line (hE : z_EX EX) : x_Ok EX l zTB zNT kc D vwCl xb yTY ad yP0 40 4 c_pre0 (c_post0 p_line) := by
  refine x_meth (M := ym_X4_readLine) hE y_prog 80 rfl (by decide) (ct_rl_ok hE) (fun za I L ⟨h, _⟩ => by subst h; exact (by decide : 1 ≤ 1)) (fun za I L ⟨h, b0, n0, q0, σ0, T0, h0⟩ => ?_)
  subst h
  intro k (hk : k = I 1 6) _
  refine And.intro ?_ ?_
  · intro t1
    have hk2 : I 1 6 = 2 := by omega
    have hT0 : 2 ≤ T0.1 := by have := (c_word h0.2.1 hk2).1; omega
    intro w (hw : w = I 1 7) _
    refine And.intro ?_ ?_
    · refine And.intro ?_ ?_
      · intro tw
        have hwi : I 1 7 = ((0 : Nat) : Int) := by omega
        have hval : ∀ b n q σ T, c_all b n q σ T I L → T.1 = 2 ∧ T.2.2.2 = 627764 := fun b n q σ T h => by
          obtain ⟨e1, e2⟩ := c_wordi h.2.1 hk2 hwi
          exact ⟨e1, (Option.some.inj e2).symm⟩
        have hline : ∀ b n q σ T, c_all b n q σ T I L → p_line b n σ T = p_seat b n σ T := fun b n q σ T h => by
          obtain ⟨e1, e2⟩ := hval _ _ _ _ _ h
          unfold p_line
          rw [if_neg (by omega), if_pos (by omega)]
        refine And.intro ⟨rfl, b0, n0, q0, σ0, T0, h0, hT0⟩ ?_
        intro rv I1 L1 hp
        have hl : ∀ b n q σ T, c_all b n q σ T I L → c_out b n q (p_line b n σ T) rv I1 L1 := fun b n q σ T h => by
          rw [hline _ _ _ _ _ h]
          exact hp _ _ _ _ _ h (by have := (hval _ _ _ _ _ h).1; omega)
        rcases c_out_rv (hl _ _ _ _ _ h0) with rfl | rfl
        · exact ⟨by decide, hl⟩
        · exact ⟨by decide, hl⟩
      refine And.intro ?_ ?_
      · intro tw
        have hwi : I 1 7 = ((1 : Nat) : Int) := by omega
        have hval : ∀ b n q σ T, c_all b n q σ T I L → T.1 = 2 ∧ T.2.2.2 = 13358 := fun b n q σ T h => by
          obtain ⟨e1, e2⟩ := c_wordi h.2.1 hk2 hwi
          exact ⟨e1, (Option.some.inj e2).symm⟩
        have hline : ∀ b n q σ T, c_all b n q σ T I L → p_line b n σ T = p_man b n σ T := fun b n q σ T h => by
          obtain ⟨e1, e2⟩ := hval _ _ _ _ _ h
          unfold p_line
          rw [if_neg (by omega), if_neg (by omega), if_pos (by omega)]
        refine And.intro ⟨rfl, b0, n0, q0, σ0, T0, h0, hT0⟩ ?_
        intro rv I1 L1 hp
        have hl : ∀ b n q σ T, c_all b n q σ T I L → c_out b n q (p_line b n σ T) rv I1 L1 := fun b n q σ T h => by
          rw [hline _ _ _ _ _ h]
          exact hp _ _ _ _ _ h (by have := (hval _ _ _ _ _ h).1; omega)
        rcases c_out_rv (hl _ _ _ _ _ h0) with rfl | rfl
        · exact ⟨by decide, hl⟩
        · exact ⟨by decide, hl⟩
      refine And.intro ?_ ?_
      · intro tw
        have hwi : I 1 7 = ((2 : Nat) : Int) := by omega
        have hval : ∀ b n q σ T, c_all b n q σ T I L → T.1 = 2 ∧ T.2.2.2 = 113716 := fun b n q σ T h => by
          obtain ⟨e1, e2⟩ := c_wordi h.2.1 hk2 hwi
          exact ⟨e1, (Option.some.inj e2).symm⟩
        have hline : ∀ b n q σ T, c_all b n q σ T I L → p_line b n σ T = p_coat b n σ T := fun b n q σ T h => by
          obtain ⟨e1, e2⟩ := hval _ _ _ _ _ h
          unfold p_line
          rw [if_neg (by omega), if_neg (by omega), if_neg (by omega), if_pos (by omega)]
        refine And.intro ⟨rfl, b0, n0, q0, σ0, T0, h0, hT0⟩ ?_
        intro rv I1 L1 hp
        have hl : ∀ b n q σ T, c_all b n q σ T I L → c_out b n q (p_line b n σ T) rv I1 L1 := fun b n q σ T h => by
          rw [hline _ _ _ _ _ h]
          exact hp _ _ _ _ _ h (by have := (hval _ _ _ _ _ h).1; omega)
        rcases c_out_rv (hl _ _ _ _ _ h0) with rfl | rfl
        · exact ⟨by decide, hl⟩
        · exact ⟨by decide, hl⟩
      refine And.intro ?_ ?_
      · intro tw
        have hwi : I 1 7 = ((3 : Nat) : Int) := by omega
        have hval : ∀ b n q σ T, c_all b n q σ T I L → T.1 = 2 ∧ T.2.2.2 = 114052 := fun b n q σ T h => by
          obtain ⟨e1, e2⟩ := c_wordi h.2.1 hk2 hwi
          exact ⟨e1, (Option.some.inj e2).symm⟩
        have hline : ∀ b n q σ T, c_all b n q σ T I L → p_line b n σ T = p_cold b n σ T := fun b n q σ T h => by
          obtain ⟨e1, e2⟩ := hval _ _ _ _ _ h
          unfold p_line
          rw [if_neg (by omega), if_neg (by omega), if_neg (by omega), if_neg (by omega), if_pos (by omega)]
        refine And.intro ⟨rfl, b0, n0, q0, σ0, T0, h0, hT0⟩ ?_
        intro rv I1 L1 hp
        have hl : ∀ b n q σ T, c_all b n q σ T I L → c_out b n q (p_line b n σ T) rv I1 L1 := fun b n q σ T h => by
          rw [hline _ _ _ _ _ h]
          exact hp _ _ _ _ _ h (by have := (hval _ _ _ _ _ h).1; omega)
        rcases c_out_rv (hl _ _ _ _ _ h0) with rfl | rfl
        · exact ⟨by decide, hl⟩
        · exact ⟨by decide, hl⟩
      refine And.intro ?_ ?_
      · intro tw
        have hwi : I 1 7 = ((4 : Nat) : Int) := by omega
        have hval : ∀ b n q σ T, c_all b n q σ T I L → T.1 = 2 ∧ T.2.2.2 = 659993778 := fun b n q σ T h => by
          obtain ⟨e1, e2⟩ := c_wordi h.2.1 hk2 hwi
          exact ⟨e1, (Option.some.inj e2).symm⟩
        have hline : ∀ b n q σ T, c_all b n q σ T I L → p_line b n σ T = p_once 0 0 40 b n σ T := fun b n q σ T h => by
          obtain ⟨e1, e2⟩ := hval _ _ _ _ _ h
          unfold p_line
          rw [if_neg (by omega), if_neg (by omega), if_neg (by omega), if_neg (by omega), if_neg (by omega), if_pos (by omega)]
        intro bf (hbf : bf = I 17 4) (bbf : 0 ≤ bf ∧ bf ≤ 40)
        refine And.intro ⟨0, 40, bf, 0, rfl, by decide, by decide, hwi, b0, n0, q0, σ0, T0, h0, hT0⟩ ?_
        intro rv I1 L1 hp
        have hl : ∀ b n q σ T, c_all b n q σ T I L → c_oo b n q 0 40 bf 0 (p_line b n σ T) rv I1 L1 := fun b n q σ T h => by
          rw [hline _ _ _ _ _ h]
          exact hp _ _ _ _ rfl hwi (by decide) _ _ _ _ _ h (by have := (hval _ _ _ _ _ h).1; omega)
        have hl0 := hl _ _ _ _ _ h0
        rcases hr : p_line b0 n0 σ0 T0 with ⟨at0, f0⟩ | ⟨σ1, T1⟩
        · rw [hr] at hl0
          obtain ⟨rfl, l1, l2, l3⟩ := hl0
          refine And.intro bbf ?_
          intro z (hz : z = I1 1 9) _
          refine And.intro (fun _ => ?_) (fun q => absurd q (by omega))
          refine And.intro (by decide) ?_
          intro b n q σ T h
          have hl1 := hl _ _ _ _ _ h
          rcases hr2 : p_line b n σ T with ⟨at1, f1⟩ | ⟨σ2, T2⟩
          · rw [hr2] at hl1
            exact ⟨rfl, hl1.2⟩
          · rw [hr2] at hl1
            obtain ⟨x, _, _, _, hx⟩ := hl1
            have := hx.1.2.2.2.2.1
            have this : I1 1 9 = 0 := this
            omega
        · rw [hr] at hl0
          obtain ⟨x, rfl, l1, l2, l3⟩ := hl0
          have l9 : I1 1 9 = 0 := l3.1.2.2.2.2.1
          refine And.intro (show 0 ≤ x ∧ x ≤ 40 by omega) ?_
          intro z (hz : z = I1 1 9) _
          refine And.intro (fun q => absurd (hz.trans l9) q) (fun _ => ?_)
          refine And.intro (by decide) ?_
          intro b n q σ T h
          have hl1 := hl _ _ _ _ _ h
          rcases hr2 : p_line b n σ T with ⟨at1, f1⟩ | ⟨σ2, T2⟩
          · rw [hr2] at hl1
            have := hl1.2.1
            have := hl1.2.2.2
            omega
          · rw [hr2] at hl1
            obtain ⟨x', hx', _, _, hx⟩ := hl1
            cases hx'
            exact ⟨rfl, hx⟩
      refine And.intro ?_ ?_
      · intro tw
        have hwi : I 1 7 = ((5 : Nat) : Int) := by omega
        have hval : ∀ b n q σ T, c_all b n q σ T I L → T.1 = 2 ∧ T.2.2.2 = 8892563 := fun b n q σ T h => by
          obtain ⟨e1, e2⟩ := c_wordi h.2.1 hk2 hwi
          exact ⟨e1, (Option.some.inj e2).symm⟩
        have hline : ∀ b n q σ T, c_all b n q σ T I L → p_line b n σ T = p_once 1 1 30 b n σ T := fun b n q σ T h => by
          obtain ⟨e1, e2⟩ := hval _ _ _ _ _ h
          unfold p_line
          rw [if_neg (by omega), if_neg (by omega), if_neg (by omega), if_neg (by omega), if_neg (by omega), if_neg (by omega), if_pos (by omega)]
        intro bf (hbf : bf = I 17 5) (bbf : 0 ≤ bf ∧ bf ≤ 30)
        refine And.intro ⟨1, 30, bf, 1, rfl, by decide, by decide, hwi, b0, n0, q0, σ0, T0, h0, hT0⟩ ?_
        intro rv I1 L1 hp
        have hl : ∀ b n q σ T, c_all b n q σ T I L → c_oo b n q 1 30 bf 1 (p_line b n σ T) rv I1 L1 := fun b n q σ T h => by
          rw [hline _ _ _ _ _ h]
          exact hp _ _ _ _ rfl hwi (by decide) _ _ _ _ _ h (by have := (hval _ _ _ _ _ h).1; omega)
        have hl0 := hl _ _ _ _ _ h0
        rcases hr : p_line b0 n0 σ0 T0 with ⟨at0, f0⟩ | ⟨σ1, T1⟩
        · rw [hr] at hl0
          obtain ⟨rfl, l1, l2, l3⟩ := hl0
          refine And.intro bbf ?_
          intro z (hz : z = I1 1 9) _
          refine And.intro (fun _ => ?_) (fun q => absurd q (by omega))
          refine And.intro (by decide) ?_
          intro b n q σ T h
          have hl1 := hl _ _ _ _ _ h
          rcases hr2 : p_line b n σ T with ⟨at1, f1⟩ | ⟨σ2, T2⟩
          · rw [hr2] at hl1
            exact ⟨rfl, hl1.2⟩
          · rw [hr2] at hl1
            obtain ⟨x, _, _, _, hx⟩ := hl1
            have := hx.1.2.2.2.2.1
            have this : I1 1 9 = 0 := this
            omega
        · rw [hr] at hl0
          obtain ⟨x, rfl, l1, l2, l3⟩ := hl0
          have l9 : I1 1 9 = 0 := l3.1.2.2.2.2.1
          refine And.intro (show 0 ≤ x ∧ x ≤ 30 by omega) ?_
          intro z (hz : z = I1 1 9) _
          refine And.intro (fun q => absurd (hz.trans l9) q) (fun _ => ?_)
          refine And.intro (by decide) ?_
          intro b n q σ T h
          have hl1 := hl _ _ _ _ _ h
          rcases hr2 : p_line b n σ T with ⟨at1, f1⟩ | ⟨σ2, T2⟩
          · rw [hr2] at hl1
            have := hl1.2.1
            have := hl1.2.2.2
            omega
          · rw [hr2] at hl1
            obtain ⟨x', hx', _, _, hx⟩ := hl1
            cases hx'
            exact ⟨rfl, hx⟩
      refine And.intro ?_ ?_
      · intro tw
        have hwi : I 1 7 = ((6 : Nat) : Int) := by omega
        have hval : ∀ b n q σ T, c_all b n q σ T I L → T.1 = 2 ∧ T.2.2.2 = 14143763 := fun b n q σ T h => by
          obtain ⟨e1, e2⟩ := c_wordi h.2.1 hk2 hwi
          exact ⟨e1, (Option.some.inj e2).symm⟩
        have hline : ∀ b n q σ T, c_all b n q σ T I L → p_line b n σ T = p_once 2 0 9 b n σ T := fun b n q σ T h => by
          obtain ⟨e1, e2⟩ := hval _ _ _ _ _ h
          unfold p_line
          rw [if_neg (by omega), if_neg (by omega), if_neg (by omega), if_neg (by omega), if_neg (by omega), if_neg (by omega), if_neg (by omega), if_pos (by omega)]
        intro bf (hbf : bf = I 17 6) (bbf : 0 ≤ bf ∧ bf ≤ 9)
        refine And.intro ⟨0, 9, bf, 2, rfl, by decide, by decide, hwi, b0, n0, q0, σ0, T0, h0, hT0⟩ ?_
        intro rv I1 L1 hp
        have hl : ∀ b n q σ T, c_all b n q σ T I L → c_oo b n q 0 9 bf 2 (p_line b n σ T) rv I1 L1 := fun b n q σ T h => by
          rw [hline _ _ _ _ _ h]
          exact hp _ _ _ _ rfl hwi (by decide) _ _ _ _ _ h (by have := (hval _ _ _ _ _ h).1; omega)
        have hl0 := hl _ _ _ _ _ h0
        rcases hr : p_line b0 n0 σ0 T0 with ⟨at0, f0⟩ | ⟨σ1, T1⟩
        · rw [hr] at hl0
          obtain ⟨rfl, l1, l2, l3⟩ := hl0
          refine And.intro bbf ?_
          intro z (hz : z = I1 1 9) _
          refine And.intro (fun _ => ?_) (fun q => absurd q (by omega))
          refine And.intro (by decide) ?_
          intro b n q σ T h
          have hl1 := hl _ _ _ _ _ h
          rcases hr2 : p_line b n σ T with ⟨at1, f1⟩ | ⟨σ2, T2⟩
          · rw [hr2] at hl1
            exact ⟨rfl, hl1.2⟩
          · rw [hr2] at hl1
            obtain ⟨x, _, _, _, hx⟩ := hl1
            have := hx.1.2.2.2.2.1
            have this : I1 1 9 = 0 := this
            omega
        · rw [hr] at hl0
          obtain ⟨x, rfl, l1, l2, l3⟩ := hl0
          have l9 : I1 1 9 = 0 := l3.1.2.2.2.2.1
          refine And.intro (show 0 ≤ x ∧ x ≤ 9 by omega) ?_
          intro z (hz : z = I1 1 9) _
          refine And.intro (fun q => absurd (hz.trans l9) q) (fun _ => ?_)
          refine And.intro (by decide) ?_
          intro b n q σ T h
          have hl1 := hl _ _ _ _ _ h
          rcases hr2 : p_line b n σ T with ⟨at1, f1⟩ | ⟨σ2, T2⟩
          · rw [hr2] at hl1
            have := hl1.2.1
            have := hl1.2.2.2
            omega
          · rw [hr2] at hl1
            obtain ⟨x', hx', _, _, hx⟩ := hl1
            cases hx'
            exact ⟨rfl, hx⟩
      refine And.intro ?_ ?_
      · intro tw
        have hwi : I 1 7 = ((7 : Nat) : Int) := by omega
        have hval : ∀ b n q σ T, c_all b n q σ T I L → T.1 = 2 ∧ T.2.2.2 = 12891444 := fun b n q σ T h => by
          obtain ⟨e1, e2⟩ := c_wordi h.2.1 hk2 hwi
          exact ⟨e1, (Option.some.inj e2).symm⟩
        have hline : ∀ b n q σ T, c_all b n q σ T I L → p_line b n σ T = p_once 3 1 999 b n σ T := fun b n q σ T h => by
          obtain ⟨e1, e2⟩ := hval _ _ _ _ _ h
          unfold p_line
          rw [if_neg (by omega), if_neg (by omega), if_neg (by omega), if_neg (by omega), if_neg (by omega), if_neg (by omega), if_neg (by omega), if_neg (by omega), if_pos (by omega)]
        intro bf (hbf : bf = I 17 7) (bbf : 0 ≤ bf ∧ bf ≤ 999)
        refine And.intro ⟨1, 999, bf, 3, rfl, by decide, by decide, hwi, b0, n0, q0, σ0, T0, h0, hT0⟩ ?_
        intro rv I1 L1 hp
        have hl : ∀ b n q σ T, c_all b n q σ T I L → c_oo b n q 1 999 bf 3 (p_line b n σ T) rv I1 L1 := fun b n q σ T h => by
          rw [hline _ _ _ _ _ h]
          exact hp _ _ _ _ rfl hwi (by decide) _ _ _ _ _ h (by have := (hval _ _ _ _ _ h).1; omega)
        have hl0 := hl _ _ _ _ _ h0
        rcases hr : p_line b0 n0 σ0 T0 with ⟨at0, f0⟩ | ⟨σ1, T1⟩
        · rw [hr] at hl0
          obtain ⟨rfl, l1, l2, l3⟩ := hl0
          refine And.intro bbf ?_
          intro z (hz : z = I1 1 9) _
          refine And.intro (fun _ => ?_) (fun q => absurd q (by omega))
          refine And.intro (by decide) ?_
          intro b n q σ T h
          have hl1 := hl _ _ _ _ _ h
          rcases hr2 : p_line b n σ T with ⟨at1, f1⟩ | ⟨σ2, T2⟩
          · rw [hr2] at hl1
            exact ⟨rfl, hl1.2⟩
          · rw [hr2] at hl1
            obtain ⟨x, _, _, _, hx⟩ := hl1
            have := hx.1.2.2.2.2.1
            have this : I1 1 9 = 0 := this
            omega
        · rw [hr] at hl0
          obtain ⟨x, rfl, l1, l2, l3⟩ := hl0
          have l9 : I1 1 9 = 0 := l3.1.2.2.2.2.1
          refine And.intro (show 0 ≤ x ∧ x ≤ 999 by omega) ?_
          intro z (hz : z = I1 1 9) _
          refine And.intro (fun q => absurd (hz.trans l9) q) (fun _ => ?_)
          refine And.intro (by decide) ?_
          intro b n q σ T h
          have hl1 := hl _ _ _ _ _ h
          rcases hr2 : p_line b n σ T with ⟨at1, f1⟩ | ⟨σ2, T2⟩
          · rw [hr2] at hl1
            have := hl1.2.1
            have := hl1.2.2.2
            omega
          · rw [hr2] at hl1
            obtain ⟨x', hx', _, _, hx⟩ := hl1
            cases hx'
            exact ⟨rfl, hx⟩
      trivial
    · intro tw
      refine And.intro ⟨1, rfl, by decide, by decide⟩ ?_
      rintro rv I3 L3 ⟨f, hf, rfl, rfl, rfl⟩
      cases hf
      refine And.intro (by decide) ?_
      intro b n q σ T h
      rw [p_line_no (fun _ => ?_)]
      · exact ⟨rfl, rfl, h.2.1.1, by decide⟩
      · obtain ⟨e1, v, e2, e3⟩ := c_word h.2.1 hk2
        have hv : v < 24 := (List.getElem?_eq_some_iff.mp e2).1
        exact x_W8_far ⟨v, hv⟩ (show 8 ≤ v by omega) _ e2
  · intro t1
    refine And.intro ⟨1, rfl, by decide, by decide⟩ ?_
    rintro rv I3 L3 ⟨f, hf, rfl, rfl, rfl⟩
    cases hf
    refine And.intro (by decide) ?_
    intro b n q σ T h
    rw [p_line_no (fun hT => ?_)]
    · exact ⟨rfl, rfl, h.2.1.1, by decide⟩
    · obtain ⟨_, _, g⟩ := h.2.1
      rcases g with ⟨g1, _⟩ | ⟨g1, _⟩ | ⟨g1, g2, g3⟩ | ⟨g1, _⟩ | ⟨g1, _⟩
      · omega
      · omega
      · rcases g3 with ⟨v, _, g4, _⟩ | ⟨g4, _⟩
        · omega
        · exact fun q => x_nin.mp g4 (x_W8_in _ q)
      · omega
      · omega
end XL3
