/-! ===== the relation behind capital(), image(), restore(), on stores ===== -/
theorem rc_tr {kc : Nat → ClassId} {ad : Nat → Option Nat} {u : va_W} {I' : xF} (hw : y_w kc ad yTY u) (htr : ∀ r k v, xy_t r k = true → y_at u r k = some v → v.toInt = I' r k) {r k : Nat} (hr : rc_B r k = true) : x_of u x_0 r k = I' r k := by
  have hc := rc_c hr
  unfold xy_c at hc
  rw [Bool.and_eq_true] at hc
  obtain ⟨q, hq⟩ := Option.isSome_iff_exists.mp hc.2
  obtain ⟨x, x1, _⟩ := y_ty_ok hw hq
  unfold x_of
  rw [x1]
  exact htr r k x hc.1 x1
/-- places of NAMES: no NAME twice -/
def p_inj (M : List Int) : Prop := ∀ (i j : Nat) (x : Int), M[i]? = some x → M[j]? = some x → i = j
theorem p_inj_app {M : List Int} {s : Int} (h : p_inj M) (hs : s ∉ M) : p_inj (M ++ [s]) := by
  intro i j x hi hj
  rcases Nat.lt_or_ge i M.length with gi | gi
  · rw [List.getElem?_append_left gi] at hi
    rcases Nat.lt_or_ge j M.length with gj | gj
    · rw [List.getElem?_append_left gj] at hj
      exact h i j x hi hj
    · rw [List.getElem?_append_right gj] at hj
      have hx : x = s := List.mem_singleton.mp (List.mem_of_getElem? hj)
      subst hx
      exact absurd (List.mem_of_getElem? hi) hs
  · have xi : x = s := by
      rw [List.getElem?_append_right gi] at hi
      exact List.mem_singleton.mp (List.mem_of_getElem? hi)
    subst xi
    rcases Nat.lt_or_ge j M.length with gj | gj
    · rw [List.getElem?_append_left gj] at hj
      exact absurd (List.mem_of_getElem? hj) hs
    · have h1 := (List.getElem?_eq_some_iff.mp hi).1
      have h2 := (List.getElem?_eq_some_iff.mp hj).1
      rw [List.length_append] at h1 h2
      have h3 : [x].length = 1 := rfl
      omega
theorem p_new_ni {b : Nat → Int} {n : Int} {σ : pS} {T : pT} {k : pT → pR} {r : pS × pT} (h : p_new b n σ T k = .inr r) : T.2.2.2 ∉ σ.2.1 ∧ k (t_tok b n 900 T.2.2.1) = .inr r := by
  unfold p_new at h
  split at h
  · cases h
  · split at h
    · cases h
    next h2 => exact ⟨fun q => h2 (Or.inr (Or.inl q)), h⟩
theorem p_once_nd {j : Nat} {lo hi : Int} {b : Nat → Int} {n : Int} {σ : pS} {T : pT} {r : pS × pT} (h : p_once j lo hi b n σ T = .inr r) (hn : p_inj σ.2.1) : p_inj r.1.2.1 := by
  unfold p_once at h
  split at h
  · cases h
  · obtain ⟨_, e2⟩ := p_num_inv h
    cases e2
    exact hn
theorem p_line_nd {b : Nat → Int} {n : Int} {σ : pS} {T : pT} {r : pS × pT} (h : p_line b n σ T = .inr r) (hn : p_inj σ.2.1) : p_inj r.1.2.1 := by
  unfold p_line at h
  split at h
  · cases h
  split at h
  · unfold p_seat at h
    split at h
    · cases h
    · obtain ⟨_, e2⟩ := p_new_ni h
      obtain ⟨_, e3⟩ := p_num_inv e2
      cases e3
      exact hn
  split at h
  · unfold p_man at h
    split at h
    · cases h
    · obtain ⟨e1, e2⟩ := p_new_ni h
      obtain ⟨_, e3⟩ := p_num_inv e2
      cases e3
      exact p_inj_app hn e1
  split at h
  · unfold p_coat at h
    split at h
    · cases h
    · obtain ⟨_, e2⟩ := p_new_ni h
      obtain ⟨_, e3⟩ := p_ref_inv e2
      obtain ⟨_, e4⟩ := p_num_inv e3
      obtain ⟨_, e5⟩ := p_num_inv e4
      cases e5
      exact hn
  split at h
  · unfold p_cold at h
    split at h
    · cases h
    · obtain ⟨_, e2⟩ := p_num_inv h
      split at e2
      · cases e2
      · obtain ⟨_, e3⟩ := p_num_inv e2
        cases e3
        exact hn
  split at h
  · exact p_once_nd h hn
  split at h
  · exact p_once_nd h hn
  split at h
  · exact p_once_nd h hn
  split at h
  · exact p_once_nd h hn
  · cases h
theorem p_loop_nd {b : Nat → Int} {n : Int} : ∀ (f : Nat) (q : Int) (σ : pS) (T : pT) (q' : Int) (σ' : pS), p_inj σ.2.1 → p_loop b n f q σ T = .inr (q', σ') → p_inj σ'.2.1
  | 0, q, σ, T, q', σ', hn, h => by
    unfold p_loop at h
    cases h
  | f + 1, q, σ, T, q', σ', hn, h => by
    unfold p_loop at h
    split at h
    · cases h
      exact hn
    · split at h
      · cases h
      next σ1 T1 hl =>
        split at h
        · exact p_loop_nd f _ _ _ _ _ (p_line_nd hl hn) h
        · cases h
theorem p_text_nd {b : Nat → Int} {n q : Int} {σ : pS} (h : p_text b n = .inr (q, σ)) : p_inj σ.2.1 := p_loop_nd _ _ _ _ _ _ (fun i j x hi _ => by cases hi) h
theorem rc_cap {I I1 J J1 Z : xF} {b : Nat → Int} {n : Int} {rv rv2 : Option xV} (hI : rc_I I) (h1 : c_cap (p_text b n) rv I I1) (h2 : r_cap (p_text b n) rv2 J J1) (k4 : ∀ k, k < 8 → Z 4 k = I1 4 k) (k7 : ∀ k, k < 8 → Z 7 k = I1 7 k) (k2 : ∀ t, rc_t t → Z 211 t = J1 211 t) (e211 : ∀ k, J 211 k = I 211 k) (e : ∀ r k, rc_B r k = true → r ≠ 4 → r ≠ 7 → r ≠ 211 → Z r k = I r k) : rc_I Z := by
  have g1 := hI.1
  refine rc_up hI (fun r k hr n1 n2 n3 _ _ => e r k hr n1 n2 n3) ?_ (rc_T_eq hI.2.2.2.2 (fun r k hrr hr => e r k hr (by omega) (by omega) (by omega)))
  refine rc_H_eq (A4 := I1 4) (A7 := I1 7) (B := J1 211) ?_ k4 k7 k2
  rcases hr : p_text b n with ⟨at0, f⟩ | ⟨q, σ⟩
  · rw [hr] at h1 h2
    obtain ⟨_, _, a1, a7⟩ := h1
    obtain ⟨_, _, b1⟩ := h2
    exact rc_H_eq g1 a1 a7 (fun t ht => by rw [b1 t (by unfold rc_t at ht; omega), e211])
  · have hnd := p_text_nd hr
    rw [hr] at h1 h2
    obtain ⟨_, _, ⟨a1, a2, a3, _⟩, a4, a5, a6⟩ := h1
    obtain ⟨_, _, ⟨b1, b2, b3, _⟩, b4, b5⟩ := h2
    refine ⟨fun j hj => ?_, fun c hc hl => ?_⟩
    · match j, hj with
      | 0, _ => exact a1.trans b1.symm
      | 1, _ => exact a2.trans b2.symm
      | 2, _ => exact a3.trans b3.symm
      | 3, _ => exact (a4 0 (by decide)).trans (b4 0 (by decide)).symm
      | 4, _ => exact (a4 1 (by decide)).trans (b4 1 (by decide)).symm
      | 5, _ => exact (a4 2 (by decide)).trans (b4 2 (by decide)).symm
      | 6, _ => exact (a4 3 (by decide)).trans (b4 3 (by decide)).symm
      | j + 7, hj => omega
    · have hcn : c < σ.2.2.1.length := by omega
      obtain ⟨o1, o2⟩ := a6 c hcn
      obtain ⟨o3, o4⟩ := b5 c hcn
      dsimp only at o3 o4
      have h5 := hnd _ _ _ o2 o4
      have h6 := (List.getElem?_eq_some_iff.mp o2).1
      exact ⟨by omega, o1, by omega⟩
theorem tk_155 (I : xF) : (∀ k, k < 8 → tkI 155 I 156 k = I 4 k) ∧ (∀ k, k < 8 → tkI 155 I 159 k = I 7 k) ∧ tkI 155 I 155 3 = 1 ∧ ∀ r k, rc_B r k = true → r ≠ 155 → r ≠ 156 → r ≠ 159 → tkI 155 I r k = I r k := by
  refine ⟨fun k hk => ?_, fun k hk => ?_, rfl, fun r k hr n1 n2 n3 => ?_⟩
  · match k, hk with
    | 0, _ => rfl
    | 1, _ => rfl
    | 2, _ => rfl
    | 3, _ => rfl
    | 4, _ => rfl
    | 5, _ => rfl
    | 6, _ => rfl
    | 7, _ => rfl
    | k + 8, hk => omega
  · match k, hk with
    | 0, _ => rfl
    | 1, _ => rfl
    | 2, _ => rfl
    | 3, _ => rfl
    | 4, _ => rfl
    | 5, _ => rfl
    | 6, _ => rfl
    | 7, _ => rfl
    | k + 8, hk => omega
  · rcases rc_reg hr with rfl | rfl | rfl | rfl | rfl | rfl | rfl | rfl | rfl | rfl | rfl | rfl | rfl
    all_goals first | exact absurd rfl n1 | exact absurd rfl n2 | exact absurd rfl n3 | rfl
theorem tk_182 (I : xF) : (∀ k, k < 8 → tkI 182 I 183 k = I 4 k) ∧ (∀ k, k < 8 → tkI 182 I 186 k = I 7 k) ∧ tkI 182 I 182 3 = 1 ∧ ∀ r k, rc_B r k = true → r ≠ 182 → r ≠ 183 → r ≠ 186 → tkI 182 I r k = I r k := by
  refine ⟨fun k hk => ?_, fun k hk => ?_, rfl, fun r k hr n1 n2 n3 => ?_⟩
  · match k, hk with
    | 0, _ => rfl
    | 1, _ => rfl
    | 2, _ => rfl
    | 3, _ => rfl
    | 4, _ => rfl
    | 5, _ => rfl
    | 6, _ => rfl
    | 7, _ => rfl
    | k + 8, hk => omega
  · match k, hk with
    | 0, _ => rfl
    | 1, _ => rfl
    | 2, _ => rfl
    | 3, _ => rfl
    | 4, _ => rfl
    | 5, _ => rfl
    | 6, _ => rfl
    | 7, _ => rfl
    | k + 8, hk => omega
  · rcases rc_reg hr with rfl | rfl | rfl | rfl | rfl | rfl | rfl | rfl | rfl | rfl | rfl | rfl | rfl
    all_goals first | exact absurd rfl n1 | exact absurd rfl n2 | exact absurd rfl n3 | rfl
theorem gb_155 (I : xF) : (∀ k, k < 8 → x_u (gbI 155 I) 38 2 0 4 k = I 156 k) ∧ (∀ k, k < 8 → x_u (gbI 155 I) 38 2 0 7 k = I 159 k) ∧ ∀ r k, rc_B r k = true → r ≠ 4 → r ≠ 7 → x_u (gbI 155 I) 38 2 0 r k = I r k := by
  refine ⟨fun k hk => ?_, fun k hk => ?_, fun r k hr n1 n2 => ?_⟩
  · match k, hk with
    | 0, _ => rfl
    | 1, _ => rfl
    | 2, _ => rfl
    | 3, _ => rfl
    | 4, _ => rfl
    | 5, _ => rfl
    | 6, _ => rfl
    | 7, _ => rfl
    | k + 8, hk => omega
  · match k, hk with
    | 0, _ => rfl
    | 1, _ => rfl
    | 2, _ => rfl
    | 3, _ => rfl
    | 4, _ => rfl
    | 5, _ => rfl
    | 6, _ => rfl
    | 7, _ => rfl
    | k + 8, hk => omega
  · rcases rc_reg hr with rfl | rfl | rfl | rfl | rfl | rfl | rfl | rfl | rfl | rfl | rfl | rfl | rfl
    all_goals first | exact absurd rfl n1 | exact absurd rfl n2 | rfl
theorem gb_182 (I : xF) : (∀ k, k < 8 → x_u (gbI 182 I) 38 2 0 4 k = I 183 k) ∧ (∀ k, k < 8 → x_u (gbI 182 I) 38 2 0 7 k = I 186 k) ∧ ∀ r k, rc_B r k = true → r ≠ 4 → r ≠ 7 → x_u (gbI 182 I) 38 2 0 r k = I r k := by
  refine ⟨fun k hk => ?_, fun k hk => ?_, fun r k hr n1 n2 => ?_⟩
  · match k, hk with
    | 0, _ => rfl
    | 1, _ => rfl
    | 2, _ => rfl
    | 3, _ => rfl
    | 4, _ => rfl
    | 5, _ => rfl
    | 6, _ => rfl
    | 7, _ => rfl
    | k + 8, hk => omega
  · match k, hk with
    | 0, _ => rfl
    | 1, _ => rfl
    | 2, _ => rfl
    | 3, _ => rfl
    | 4, _ => rfl
    | 5, _ => rfl
    | 6, _ => rfl
    | 7, _ => rfl
    | k + 8, hk => omega
  · rcases rc_reg hr with rfl | rfl | rfl | rfl | rfl | rfl | rfl | rfl | rfl | rfl | rfl | rfl | rfl
    all_goals first | exact absurd rfl n1 | exact absurd rfl n2 | rfl
/-- image() on both sides -/
theorem rc_img {I I1 J J1 Z : xF} {L L1 M M1 : xF} {w x y : Int} (hI : rc_I I) (h1 : xo_img [xR 1, .inl w] I L (some (.inl x)) I1 L1) (h2 : xo_imm [xR 210, .inl w] J M (some (.inl y)) J1 M1) (k1 : ∀ r k, rc_B r k = true → J r k = I1 r k) (k2 : ∀ r k, rc_B r k = true → Z r k = J1 r k) : rc_I Z := by
  obtain ⟨w1, hw1, h1⟩ := h1
  cases hw1
  obtain ⟨w2, hw2, h2⟩ := h2
  cases hw2
  obtain ⟨g1, g2, g3, g4, g5⟩ := id hI
  obtain ⟨t1, t2, t3, t4⟩ := rc_tk
  rcases h1 with ⟨rfl, _, rfl, _⟩ | ⟨rfl, _, rfl, _⟩ | ⟨hk, _, rfl, _⟩
  · rcases h2 with ⟨κ, _, hκ, _, rfl, _⟩ | ⟨hk, _⟩
    · obtain rfl : κ = 0 := by omega
      have e : ∀ r k, rc_B r k = true → r ≠ 222 → r ≠ 224 → Z r k = tkI 155 I r k := fun r k hr n1 n2 => by
        rw [k2 r k hr, x_u_r n2, ← k1 r k hr]
        unfold imA
        rw [if_neg (fun q => n1 q.1), if_neg (rc_n0 hr)]
      obtain ⟨a1, a2, a3, a4⟩ := tk_155 I
      have ea : ∀ r k, rc_B r k = true → r ≠ 222 → r ≠ 224 → r ≠ 155 → r ≠ 156 → r ≠ 159 → Z r k = I r k := fun r k hr n1 n2 n3 n4 n5 => (e r k hr n1 n2).trans (a4 r k hr n3 n4 n5)
      have e0 : ∀ t, rc_t t → Z 222 (t) = I 211 t := fun t ht => by
        rw [k2 _ _ (rc_22 ht).2.1, x_u_r (by decide)]
        unfold imA
        rw [if_pos ⟨rfl, by unfold rc_t at ht; omega⟩, show t - 299 * 0 = t by omega, k1 _ _ (rc_22 ht).1, a4 _ _ (rc_22 ht).1 (by decide) (by decide) (by decide)]
      have e1 : ∀ t, rc_t t → Z 222 (299 + t) = I 222 (299 + t) := fun t ht => by
        rw [k2 _ _ (rc_22 ht).2.2, x_u_r (by decide)]
        unfold imA
        rw [if_neg (by unfold rc_t at ht; omega), if_neg (by omega), k1 _ _ (rc_22 ht).2.2, a4 _ _ (rc_22 ht).2.2 (by decide) (by decide) (by decide)]
      have e2 : Z 224 0 = 1 := by rw [k2 _ _ t3, x_u_s]
      have e3 : Z 224 1 = I 224 1 := by
        rw [k2 _ _ t4, x_u_k (by decide)]
        unfold imA
        rw [if_neg (by omega), if_neg (by omega), k1 _ _ t4, a4 _ _ t4 (by decide) (by decide) (by decide)]
      exact ⟨rc_H_eq g1 (fun k hk => ea _ _ (rc_8 hk).1.1 (by decide) (by decide) (by decide) (by decide) (by decide)) (fun k hk => ea _ _ (rc_8 hk).2.1 (by decide) (by decide) (by decide) (by decide) (by decide)) (fun k hk => ea _ _ (rc_22 hk).1 (by decide) (by decide) (by decide) (by decide) (by decide)), ⟨by rw [e 155 _ t1 (by decide) (by decide), a3, e2], by rw [ea 182 _ t2 (by decide) (by decide) (by decide) (by decide) (by decide), e3]; exact g2.2⟩, fun _ => rc_H_eq g1 (fun k hk => (e _ _ (rc_8 hk).1.2.1 (by decide) (by decide)).trans (a1 k hk)) (fun k hk => (e _ _ (rc_8 hk).2.2.1 (by decide) (by decide)).trans (a2 k hk)) e0, fun q => rc_H_eq (g4 (by rw [← e3]; exact q)) (fun k hk => ea _ _ (rc_8 hk).1.2.2 (by decide) (by decide) (by decide) (by decide) (by decide)) (fun k hk => ea _ _ (rc_8 hk).2.2.2 (by decide) (by decide) (by decide) (by decide) (by decide)) e1, rc_T_eq g5 (fun r k hrr hr => ea r k hr (by omega) (by omega) (by omega) (by omega) (by omega))⟩
    · omega
  · rcases h2 with ⟨κ, _, hκ, _, rfl, _⟩ | ⟨hk, _⟩
    · obtain rfl : κ = 1 := by omega
      have e : ∀ r k, rc_B r k = true → r ≠ 222 → r ≠ 224 → Z r k = tkI 182 I r k := fun r k hr n1 n2 => by
        rw [k2 r k hr, x_u_r n2, ← k1 r k hr]
        unfold imA
        rw [if_neg (fun q => n1 q.1), if_neg (rc_n0 hr)]
      obtain ⟨a1, a2, a3, a4⟩ := tk_182 I
      have ea : ∀ r k, rc_B r k = true → r ≠ 222 → r ≠ 224 → r ≠ 182 → r ≠ 183 → r ≠ 186 → Z r k = I r k := fun r k hr n1 n2 n3 n4 n5 => (e r k hr n1 n2).trans (a4 r k hr n3 n4 n5)
      have e0 : ∀ t, rc_t t → Z 222 (299 + t) = I 211 t := fun t ht => by
        rw [k2 _ _ (rc_22 ht).2.2, x_u_r (by decide)]
        unfold imA
        rw [if_pos ⟨rfl, by unfold rc_t at ht; omega⟩, show 299 + t - 299 * 1 = t by omega, k1 _ _ (rc_22 ht).1, a4 _ _ (rc_22 ht).1 (by decide) (by decide) (by decide)]
      have e1 : ∀ t, rc_t t → Z 222 (t) = I 222 (t) := fun t ht => by
        rw [k2 _ _ (rc_22 ht).2.1, x_u_r (by decide)]
        unfold imA
        rw [if_neg (by unfold rc_t at ht; omega), if_neg (by omega), k1 _ _ (rc_22 ht).2.1, a4 _ _ (rc_22 ht).2.1 (by decide) (by decide) (by decide)]
      have e2 : Z 224 1 = 1 := by rw [k2 _ _ t4, x_u_s]
      have e3 : Z 224 0 = I 224 0 := by
        rw [k2 _ _ t3, x_u_k (by decide)]
        unfold imA
        rw [if_neg (by omega), if_neg (by omega), k1 _ _ t3, a4 _ _ t3 (by decide) (by decide) (by decide)]
      exact ⟨rc_H_eq g1 (fun k hk => ea _ _ (rc_8 hk).1.1 (by decide) (by decide) (by decide) (by decide) (by decide)) (fun k hk => ea _ _ (rc_8 hk).2.1 (by decide) (by decide) (by decide) (by decide) (by decide)) (fun k hk => ea _ _ (rc_22 hk).1 (by decide) (by decide) (by decide) (by decide) (by decide)), ⟨by rw [ea 155 _ t1 (by decide) (by decide) (by decide) (by decide) (by decide), e3]; exact g2.1, by rw [e 182 _ t2 (by decide) (by decide), a3, e2]⟩, fun q => rc_H_eq (g3 (by rw [← e3]; exact q)) (fun k hk => ea _ _ (rc_8 hk).1.2.1 (by decide) (by decide) (by decide) (by decide) (by decide)) (fun k hk => ea _ _ (rc_8 hk).2.2.1 (by decide) (by decide) (by decide) (by decide) (by decide)) e1, fun _ => rc_H_eq g1 (fun k hk => (e _ _ (rc_8 hk).1.2.2 (by decide) (by decide)).trans (a1 k hk)) (fun k hk => (e _ _ (rc_8 hk).2.2.2 (by decide) (by decide)).trans (a2 k hk)) e0, rc_T_eq g5 (fun r k hrr hr => ea r k hr (by omega) (by omega) (by omega) (by omega) (by omega))⟩
    · omega
  · rcases h2 with ⟨κ, _, hκ, _⟩ | ⟨_, _, rfl, _⟩
    · omega
    · refine rc_fr (fun r k hr => ?_) hI
      rw [k2 r k hr, x_u_if, if_neg (rc_n0 hr), k1 r k hr]
/-- restore() on both sides -/
theorem rc_rst {I I1 J J1 Z : xF} {L L1 M M1 : xF} {w x y : Int} (hI : rc_I I) (h1 : xo_rst [xR 1, .inl w] I L (some (.inl x)) I1 L1) (h2 : xo_rsm [xR 210, .inl w] J M (some (.inl y)) J1 M1) (k1 : ∀ r k, rc_B r k = true → J r k = I1 r k) (k2 : ∀ r k, rc_B r k = true → Z r k = J1 r k) : rc_I Z := by
  obtain ⟨w1, hw1, h1⟩ := h1
  cases hw1
  obtain ⟨w2, hw2, h2⟩ := h2
  cases hw2
  obtain ⟨g1, g2, g3, g4, g5⟩ := id hI
  obtain ⟨t1, t2, t3, t4⟩ := rc_tk
  rcases h1 with ⟨rfl, ht, _, rfl, _⟩ | ⟨rfl, ht, _, rfl, _⟩ | ⟨hk, _, rfl, _⟩
  · obtain ⟨a1, a2, a3⟩ := gb_155 I
    have hJ : J 224 0 = I 224 0 := (k1 _ _ t3).trans (a3 _ _ t3 (by decide) (by decide))
    rcases h2 with ⟨κ, _, hκ, _, _, rfl, _⟩ | ⟨hk, _⟩
    · obtain rfl : κ = 0 := by omega
      have e : ∀ r k, rc_B r k = true → r ≠ 211 → Z r k = x_u (gbI 155 I) 38 2 0 r k := fun r k hr n1 => by
        rw [k2 r k hr, x_u_if, if_neg (rc_n23 hr), ← k1 r k hr]
        unfold reA
        rw [if_neg (fun q => n1 q.1), if_neg (rc_n0 hr)]
      have e0 : ∀ t, rc_t t → Z 211 t = I 222 (t) := fun t ht => by
        rw [k2 _ _ (rc_22 ht).1, x_u_r (by decide)]
        unfold reA
        rw [if_pos ⟨rfl, by unfold rc_t at ht; omega⟩, show 299 * 0 + t = t by omega, k1 _ _ (rc_22 ht).2.1, a3 _ _ (rc_22 ht).2.1 (by decide) (by decide)]
      have hne : I 224 0 ≠ 0 := fun q => ht (g2.1.trans q)
      exact rc_up hI (fun r k hr n1 n2 n3 _ _ => (e r k hr n3).trans (a3 r k hr n1 n2)) (rc_H_eq (g3 hne) (fun k hk => (e _ _ (rc_8 hk).1.1 (by decide)).trans (a1 k hk)) (fun k hk => (e _ _ (rc_8 hk).2.1 (by decide)).trans (a2 k hk)) e0) (rc_T_eq g5 (fun r k hrr hr => (e r k hr (by omega)).trans (a3 r k hr (by omega) (by omega))))
    · rcases hk with hk | ⟨κ, _, hκ, h0⟩
      · omega
      · obtain rfl : κ = 0 := by omega
        exact absurd (g2.1.trans (hJ.symm.trans h0)) ht
  · obtain ⟨a1, a2, a3⟩ := gb_182 I
    have hJ : J 224 1 = I 224 1 := (k1 _ _ t4).trans (a3 _ _ t4 (by decide) (by decide))
    rcases h2 with ⟨κ, _, hκ, _, _, rfl, _⟩ | ⟨hk, _⟩
    · obtain rfl : κ = 1 := by omega
      have e : ∀ r k, rc_B r k = true → r ≠ 211 → Z r k = x_u (gbI 182 I) 38 2 0 r k := fun r k hr n1 => by
        rw [k2 r k hr, x_u_if, if_neg (rc_n23 hr), ← k1 r k hr]
        unfold reA
        rw [if_neg (fun q => n1 q.1), if_neg (rc_n0 hr)]
      have e0 : ∀ t, rc_t t → Z 211 t = I 222 (299 + t) := fun t ht => by
        rw [k2 _ _ (rc_22 ht).1, x_u_r (by decide)]
        unfold reA
        rw [if_pos ⟨rfl, by unfold rc_t at ht; omega⟩, show 299 * 1 + t = 299 + t by omega, k1 _ _ (rc_22 ht).2.2, a3 _ _ (rc_22 ht).2.2 (by decide) (by decide)]
      have hne : I 224 1 ≠ 0 := fun q => ht (g2.2.trans q)
      exact rc_up hI (fun r k hr n1 n2 n3 _ _ => (e r k hr n3).trans (a3 r k hr n1 n2)) (rc_H_eq (g4 hne) (fun k hk => (e _ _ (rc_8 hk).1.1 (by decide)).trans (a1 k hk)) (fun k hk => (e _ _ (rc_8 hk).2.1 (by decide)).trans (a2 k hk)) e0) (rc_T_eq g5 (fun r k hrr hr => (e r k hr (by omega)).trans (a3 r k hr (by omega) (by omega))))
    · rcases hk with hk | ⟨κ, _, hκ, h0⟩
      · omega
      · obtain rfl : κ = 1 := by omega
        exact absurd (g2.2.trans (hJ.symm.trans h0)) ht
  · rcases h2 with ⟨κ, _, hκ, h0, _, _, _⟩ | ⟨_, _, rfl, _⟩
    · exfalso
      rcases hk with hk | ⟨h8, h9⟩ | ⟨h8, h9⟩
      · omega
      · obtain rfl : κ = 0 := by omega
        exact h0 ((k1 _ _ t3).trans (g2.1.symm.trans h9))
      · obtain rfl : κ = 1 := by omega
        exact h0 ((k1 _ _ t4).trans (g2.2.symm.trans h9))
    · refine rc_fr (fun r k hr => ?_) hI
      rw [k2 r k hr, x_u_if, if_neg (rc_n0 hr), k1 r k hr]
/-! ===== the law's feed and capital, exactly ===== -/
section RLX
variable {p : Program} {l : Launch} {e : Env} {s : State} {m : MethodId} {below : List Frame} {meth : Method} {c : Code} {b L : Nat} {xs : Nat → Int32} {kc : Nat → ClassId} {D : va_G} {EX : (Nat → Prop) → State → Heap → Prop}
theorem rl_n2 {kc : Nat → ClassId} {ad : Nat → Option Nat} {ws : va_W} (hw : y_w kc ad yTY ws) (hRel : rl_R rl_L ws) : ∃ n : Int32, y_at ws 1 2 = some n ∧ y_at ws 209 2 = some n ∧ 0 ≤ n.toInt ∧ n.toInt ≤ 940 ∧ x_of ws x_0 1 2 = n.toInt ∧ x_of ws x_0 209 2 = n.toInt := by
  obtain ⟨t, f1, f2, f3⟩ := y_ty_ok (r := 209) (k := 2) hw (q := (0, 940)) (by decide +kernel)
  obtain ⟨x, y1, y2⟩ := hRel _ List.mem_cons_self
  dsimp only at y1 y2 f2 f3
  rw [f1] at y2
  cases y2
  refine ⟨t, y1, f1, f2, f3, ?_, ?_⟩
  · unfold x_of
    rw [y1]
  · unfold x_of
    rw [f1]
theorem rl_of {ws0 ws : va_W} {i : Nat} {ls : Array Slot} {H : Heap} {locs : List Loc} (hl : y_l (hl_env i xs) (z_ad b ws0) 7 hl_zl ls) (hU : xy_U b kc (z_ad b ws0) ws) (hP : va_P D vwCl ws H) (hD : va_D (zA0 s) ws) (hS : va_S (zA0 s) s.heap H locs) : hl_S s b kc D xs i ls ws H locs := by
  obtain ⟨u1, u2, u3, u4⟩ := hU
  rw [← u4] at hl u3
  exact ⟨hl, trivial, (fun _ h => by cases h), (fun _ => u1), y_Go_to u2, u3, y_fr_refl, rfl, hP, hD, hS⟩
set_option maxHeartbeats 4000000 in
theorem rl_c2 (h : hl_C EX p s m meth c b L xs kc D) (hL : L ≤ 3072) {i nc ns : Nat} (hi : i + 6 ≤ L) (hnc : nc ≤ 601024) (hns : ns ≤ 7293034) (kk : ∀ ls ws H locs, rl_S s b kc D xs i ls ws H locs → hl_W p l e s m below meth c b H locs nc ns (F0 m 1347 ls [])) : ∀ ls ws H locs, rl_S s b kc D xs i ls ws H locs → hl_W p l e s m below meth c b H locs nc ns (F0 m 318 ls []) := by
  intro ls ws H locs ⟨hS, hRel, hBy, hRc⟩
  obtain ⟨hx, hb, hr, hml, hown, hts, hX, hbl, hlocks, hgv⟩ := id h.1
  have hE := h.2.2.2.1
  obtain ⟨v1, v2, v3, x4, hl, hx4, ⟨a1, ha1, rfl⟩, ⟨a2, ha2, rfl⟩, b3⟩ := hl_unl hS
  obtain ⟨hloc, _, hk, hf, hG, hw, hfr, had, hP, hD, hSS⟩ := hS
  have hU : xy_U b kc (z_ad b ws) ws := ⟨hf rfl, y_Go_of hG, hw, rfl⟩
  obtain ⟨n, n1, n2, n3, n4, n5, n6⟩ := rl_n2 hw hRel
  refine lv_aload_n (k := 1) (i := 1) (x := a1) hx hb (show decode code 318 = .ok (.aload_n 1, 1) by decide +kernel) rfl (hl.2.2 (1, .ref a1) (by simp)) ?_
  refine xy_call (pc := 319) (av := []) (svr := []) (za := []) (j := 116) (r := 0) (K := yk_200) (hl_ctx h hnc hns) yo_law hE (show y_find ym_law.2.2.2.2.1 319 = some (.invokevirtual 32, [1, 116, 11]) from rfl) (show y_T yTY 0 = some _ from rfl) hU (show yP0 116 = some ym_X11_capital from rfl) (by decide) rfl ha1 (by decide) hl hP hD hSS (y_cons hE (j := 116) (show yk_200 ∈ y_cget yCTab 116 from List.mem_cons_self)) rfl (by decide) rfl rfl (Or.inr (by decide +kernel)) ⟨⟨a1, ha1, rfl⟩, trivial⟩ (xk_cc2 hE) (by decide) trivial ⟨rfl, ⟨by rw [n5]; exact n3, by rw [n5]; exact n4⟩, goI_of hw (y_Go_of hG)⟩ (fun x u H1 locs1 ho hUu hfru hx9 hP1 hD1 hS1 => ?_)
  obtain ⟨o, ho1, ho2⟩ := ho
  have := List.mem_singleton.mp ho1
  subst this
  obtain ⟨z1, z2, z3, z4, _⟩ := ho2 _ List.mem_cons_self
  dsimp only at z2
  have z3 : (0 : Int) ≤ z1.toInt := z3
  have z4 : z1.toInt ≤ (0 : Int) := z4
  obtain ⟨I', L', ⟨hans, _⟩, htr⟩ := hx9
  have hUu' : xy_U b kc (z_ad b u) u := by rw [hUu.2.2.2]; exact hUu
  have e3 : x_of u x_0 209 2 = n.toInt := by
    rw [← n6]
    unfold x_of
    rw [hfru 209 2 (by decide +kernel)]
  have e4 : ∀ j, r_b (x_of u x_0) j = x_of ws x_0 2 j := fun j => by
    rw [hBy j]
    unfold r_b x_of
    rw [hfru 210 j (xy_noreg (by decide +kernel) j)]
  have ha2' : z_ad b u 210 = some a2 := by rw [hUu.2.2.2]; exact ha2
  refine lv_pop hx hb (show decode code 322 = .ok (.pop, 1) by decide +kernel) rfl ?_
  refine lv_aload_n (k := 2) (i := 2) (x := a2) hx hb (show decode code 323 = .ok (.aload_n 2, 1) by decide +kernel) rfl (hl.2.2 (2, .ref a2) (by simp)) ?_
  refine xy_call (pc := 324) (av := []) (svr := []) (za := []) (j := 190) (r := 209) (K := ht_K2) (hl_ctx h hnc hns) yo_law hE (show y_find ym_law.2.2.2.2.1 324 = some (.invokevirtual 36, [1, 190, 12]) from rfl) (show y_T yTY 209 = some _ from rfl) hUu' (show yP0 190 = some ym_X12_capital from rfl) (by decide) rfl ha2' (by decide) hl hP1 hD1 hS1 (ht_ok hE) rfl (by decide) rfl rfl (Or.inl (fun o ho => by have := List.mem_singleton.mp ho; subst this; rfl)) ⟨⟨a2, ha2', rfl⟩, trivial⟩ (xk_cap2 hE) (by decide) trivial ⟨rfl, ⟨by rw [e3]; exact n3, by rw [e3]; exact n4⟩, goI_of hUu'.2.2.1 hUu'.2.1⟩ (fun y v H2 locs2 ho hUv hfrv hy9 hP2 hD2 hS2 => ?_)
  obtain ⟨o, ho1, ho2⟩ := ho
  have := List.mem_singleton.mp ho1
  subst this
  obtain ⟨w1, w2, w3, w4, _⟩ := ho2 _ List.mem_cons_self
  dsimp only at w2
  have w3 : (0 : Int) ≤ w1.toInt := w3
  have w4 : w1.toInt ≤ (0 : Int) := w4
  obtain ⟨J', M', hans2, htr2⟩ := hy9
  have hans2 : r_cap (p_text (x_of ws x_0 2) (x_of ws x_0 1 2)) (some (.inl y.toInt)) (x_of u x_0) J' := by
    have h9 : r_cap (p_text (r_b (x_of u x_0)) (x_of u x_0 209 2)) (some (.inl y.toInt)) (x_of u x_0) J' := hans2
    rw [e3, show r_b (x_of u x_0) = x_of ws x_0 2 from funext e4] at h9
    rw [n5]
    exact h9
  refine lv_pop hx hb (show decode code 327 = .ok (.pop, 1) by decide +kernel) rfl ?_
  refine lv_goto (tgt := 1347) hx hb (show decode code 328 = .ok (.goto 1019, 3) by decide +kernel) (by decide) ?_
  have hUv2 : xy_U b kc (z_ad b ws) v := by rw [← hUu.2.2.2]; exact hUv
  refine kk ls v H2 locs2 ⟨rl_of (ws0 := ws) hloc hUv2 hP2 hD2 hS2, ?_, ?_, ?_⟩
  · intro q hq
    have := List.mem_singleton.mp hq
    subst this
    refine ⟨w1, ?_, w2⟩
    show y_at v 1 2 = _
    rw [hfrv 1 2 (by decide +kernel), z2]
    exact congrArg some (y_i32 (by omega))
  · refine rb_same (fun j => ?_) (fun j => ?_) hBy
    · exact (hfrv 2 j (xy_noreg (by decide +kernel) j)).trans (hfru 2 j (xy_noreg (by decide +kernel) j))
    · exact (hfrv 210 j (xy_noreg (by decide +kernel) j)).trans (hfru 210 j (xy_noreg (by decide +kernel) j))
  · have hwu : y_w kc (z_ad b ws) yTY u := hUu.2.2.1
    have hwv : y_w kc (z_ad b ws) yTY v := hUv2.2.2.1
    have s1 : ∀ r, (yk_200.2.2.2.2.1.all (fun q => !(q.1 == r))) = true → ∀ k, x_of u x_0 r k = x_of ws x_0 r k := fun r hn k => by
      unfold x_of
      rw [hfru r k (xy_noreg hn k)]
    have s2 : ∀ r, (hp_E.all (fun q => !(q.1 == r))) = true → ∀ k, x_of v x_0 r k = x_of u x_0 r k := fun r hn k => by
      unfold x_of
      rw [hfrv r k (xy_noreg hn k)]
    refine rc_cap hRc hans hans2 (fun k hk => (s2 4 (by decide) k).trans (rc_tr hwu htr (rc_8 hk).1.1)) (fun k hk => (s2 7 (by decide) k).trans (rc_tr hwu htr (rc_8 hk).2.1)) (fun t ht => rc_tr hwv htr2 (rc_22 ht).1) (fun k => s1 211 (by decide) k) (fun r k hr n1 n2 n3 => ?_)
    unfold x_of
    rw [hfrv r k (rc_nox_ok (X := [211]) (by decide +kernel) hr (by simp [n3])), hfru r k (rc_nox_ok (X := [4, 7]) (by decide +kernel) hr (by simp [n1, n2]))]
/-- what feed() is given -/
def rf_c (p0 p1 rg : Nat) : Bool := match y_run yP0 yTY zTF ([] : yR) yRC yGR (y_ct rl_CT yTY yRC ([] : yR) 40) 100 true 40 ym_law (fun pc _ _ => pc == p1) true hl_B p0 hl_z with
  | some es => es.all (fun q => q.2.1 == p1 && (hl_lc q.2.2.1 && (hm_fl q && (match q.2.2.2.1 with
    | [.inl (.inr (6, 0)), .inl (.inr (5, 0)), .inl (.inr (4, 0)), .inl (.inr (3, 0)), .inl (.inr (2, 0)), .inr (.inl (some r))] => r == rg
    | _ => false))))
  | none => false
theorem rf_1 : rf_c 220 251 1 = true := by decide +kernel
theorem rf_2 : rf_c 255 286 210 = true := by decide +kernel
theorem rf_v {i k : Nat} {env : List Int} (he : hl_env i xs <+: env) (hk : k ≤ 5) {x : Int32} (h : y_e env (.inr (k + 1, 0)) = some x.toInt) : x = xs (i + k) := by
  have h1 := y_pre_get he (hl_x (xs := xs) (i := i) hk)
  unfold y_e at h
  dsimp only at h
  rw [h1] at h
  have h2 : (xs (i + k)).toInt + 0 = x.toInt := Option.some.inj h
  exact y_i32 (by omega)
def rf_st (i a : Nat) (xs : Nat → Int32) : List Value := [.int (xs (i + 5)), .int (xs (i + 4)), .int (xs (i + 3)), .int (xs (i + 2)), .int (xs (i + 1)), .ref a]
set_option maxHeartbeats 4000000 in
theorem rf_run (h : hl_C EX p s m meth c b L xs kc D) (hL : L ≤ 3072) {p0 p1 rg : Nat} (hc : rf_c p0 p1 rg = true) {i nc ns : Nat} (hi : i + 6 ≤ L) (hnc : nc ≤ 601024) (hns : ns ≤ 7293034) {ls : Array Slot} {ws : va_W} {H : Heap} {locs : List Loc} (hS : hl_S s b kc D xs i ls ws H locs)
    (kk : ∀ ls1 ws1 H1 locs1 a, hl_S s b kc D xs i ls1 ws1 H1 locs1 → (∀ r k, y_at ws1 r k = y_at ws r k) → z_ad b ws1 rg = some a → hl_W p l e s m below meth c b H1 locs1 nc ns (F0 m p1 ls1 (rf_st i a xs))) : hl_W p l e s m below meth c b H locs nc ns (F0 m p0 ls []) := by
  unfold rf_c at hc
  split at hc
  next es hes =>
    refine y_run_ok (l := l) (kc := kc) (D := D) (xb := b) (TY := yTY) (ad := z_ad b ws) (eff := ([] : yR)) (RC := yRC) (GR := yGR) (RI := w_R) h.2.2.2.1 w_R_RI y_prog (y_ct_ok (eff := ([] : yR)) (RC := yRC) w_R_RI (rl_all h.2.2.2.1)) 100 true 40 ym_law _ true hl_B p0 hl_z es hes yo_law p e room_1 s m _ below meth c _ (zA0 s) s.heap ws nc ns (hl_env i xs) (hl_ctx h hnc hns) (fun _ => rl_SC h hi hL) (hl_hB (by omega)) (fun q hq env he hB => ?_) ls [] ws H locs ⟨hS.1, hS.2.1, hS.2.2.1, hS.2.2.2.1, hS.2.2.2.2.1, hS.2.2.2.2.2.1, y_fr_refl, hS.2.2.2.2.2.2.2⟩
    intro ls1 sv ws1 H1 locs1 hS1
    have h9 := List.all_eq_true.mp hc q hq
    simp only [Bool.and_eq_true] at h9
    obtain ⟨q1, q2, q3, q4⟩ := h9
    unfold hm_fl at q3
    simp only [Bool.and_eq_true] at q3
    obtain ⟨f1, f2, f3⟩ := q3
    have hpc : q.2.1 = p1 := by simpa using q1
    obtain ⟨s1, s2, sk, sf, sG, sw, sfr, sad, sP, sD, sS⟩ := hS1
    have hGo : y_Go yGR ws1 := by
      rw [List.isEmpty_iff.mp f2, List.isEmpty_iff.mp f3] at sG
      exact y_Go_of sG
    have hloc := hl_loc q2 he s1
    split at q4
    next r hst4 =>
      rw [hst4] at s2
      obtain ⟨_, sv1, rfl, ⟨x5, rfl, hx5⟩, e1⟩ := y_st1 s2
      obtain ⟨_, sv2, rfl, ⟨x4, rfl, hx4⟩, e2⟩ := y_st1 e1
      obtain ⟨_, sv3, rfl, ⟨x3, rfl, hx3⟩, e3⟩ := y_st1 e2
      obtain ⟨_, sv4, rfl, ⟨x2, rfl, hx2⟩, e4⟩ := y_st1 e3
      obtain ⟨_, sv5, rfl, ⟨x1, rfl, hx1⟩, e5⟩ := y_st1 e4
      obtain ⟨_, sv6, rfl, ⟨a, ha, rfl⟩, e6⟩ := y_st1 e5
      obtain rfl : sv6 = [] := by
        cases sv6 with
        | nil => rfl
        | cons _ _ => exact e6.elim
      have hr : r = rg := by simpa using q4
      subst hr
      rw [hpc, rf_v he (k := 5) (by decide) hx5, rf_v he (k := 4) (by decide) hx4, rf_v he (k := 3) (by decide) hx3, rf_v he (k := 2) (by decide) hx2, rf_v he (k := 1) (by decide) hx1]
      exact kk ls1 ws1 H1 locs1 a (rl_of (ws0 := ws) hloc ⟨sf f1, hGo, sw, sad⟩ sP sD sS) (fun r k => sfr r k rfl) (by rw [sad]; exact ha)
    next => cases q4
  next => cases hc
end RLX
