/-! ===== the reference's operand(): a ONE's beginning ===== -/
section XR3
variable {EX : (Nat → Prop) → State → Heap → Prop} {l : Launch} {kc : Nat → ClassId} {D : va_G} {xb : Nat} {ad : Nat → Option Nat}
theorem rm_gd (w : Nat) {s : Int} (h : x_W32[w]? = some s) : x_W32.getD w 0 = s := by
  show (x_W32[w]?).getD 0 = s
  rw [h]
  rfl
/-- a not or a bracket is put on the stack -/
theorem rm_push2 {b : Nat → Int} {n : Int} {M C : List Int} {T : pT} {o d : Int} {S : List Nat} {I L : xF} {x : Nat} {z z2 d2 : Int} (hx : x = 20 ∨ x = 23) (h : rm_st b n M C false T o d S I L) (hl : I 209 40 + S.length + 2 ≤ 2 * o) (hz : z = I 209 42) (hz2 : z2 = I 209 42) (hd2 : d2 = I 209 43) : rm_st b n M C false T o (d + 1) (x :: S) (x_u (x_u (x_u I 220 z.toNat (x : Int)) 209 42 (z2 + 1)) 209 43 (d2 + 1)) L := by
  have h5 := h.2.2.2.2.1
  obtain ⟨h8, h9, h10, h11⟩ := h.2.2.2.2.2.1
  have h12 := h.2.2.2.2.2.2.1
  have h13 := h.2.2.2.2.2.2.2
  have hl2 := h8.1
  have hw0 : m_wi false = 0 := rfl
  have e40 : x_u (x_u (x_u I 220 z.toNat (x : Int)) 209 42 (z2 + 1)) 209 43 (d2 + 1) 209 40 = I 209 40 := rfl
  have htn : z.toNat = S.length := by omega
  refine rm_mv h (fun r c h1 h2 h3 => ?_) ⟨h5.1, show d2 + 1 = d + 1 by omega, h5.2.2⟩ ⟨rm_sk_push h8 (show z2 + 1 = I 209 42 + 1 by omega) ?_ (fun k hk => ?_), fun y hy => ?_, by rw [e40]; exact h10, by rw [e40, List.length_cons]; omega⟩ ⟨h12.1, h12.2.1, by rw [e40, List.length_cons, hw0]; omega⟩ ?_
  · exact (x_u_if _ _ _ _ _ _).trans ((if_neg (fun q => h1 ⟨q.1, by omega, by omega⟩)).trans ((x_u_if _ _ _ _ _ _).trans ((if_neg (fun q => h1 ⟨q.1, by omega, by omega⟩)).trans (x_u_r h3))))
  · show x_u I 220 z.toNat (x : Int) 220 S.length = _
    rw [htn, x_u_s]
  · show x_u I 220 z.toNat (x : Int) 220 k = _
    rw [x_u_k (by omega)]
  · rcases List.mem_cons.mp hy with rfl | hy
    · omega
    · exact h9 y hy
  · show d + 1 = 1 + ((if x = 20 ∨ x = 23 then 1 else 0) + m_cnt S)
    rw [if_pos hx]
    omega
/-- a ONE more -/
theorem rm_one {b : Nat → Int} {n : Int} {M C : List Int} {T : pT} {o d : Int} {S : List Nat} {I L : xF} {z2 : Int} (h : rm_st b n M C false T o d S I L) (hz2 : z2 = I 209 41) (ho : o < 20) : rm_st b n M C false T (o + 1) d S (x_u I 209 41 (z2 + 1)) L ∧ I 209 40 + S.length + 2 ≤ 2 * (o + 1) := by
  have h5 := h.2.2.2.2.1
  have h12 := h.2.2.2.2.2.2.1
  have hw0 : m_wi false = 0 := rfl
  refine ⟨rm_mv h (fun r c h1 h2 h3 => (x_u_if _ _ _ _ _ _).trans (if_neg (fun q => h1 ⟨q.1, by omega, by omega⟩))) ⟨show z2 + 1 = o + 1 by omega, h5.2.1, h5.2.2⟩ h.2.2.2.2.2.1 ⟨by omega, by omega, show I 209 40 + (S.length : Int) + m_wi false ≤ 2 * (o + 1) by omega⟩ h.2.2.2.2.2.2.2, by omega⟩
/-- whole -/
theorem rm_wh {b : Nat → Int} {n : Int} {M C : List Int} {T : pT} {o d : Int} {S : List Nat} {I L : xF} (h : rm_st b n M C false T o d S I L) (hl : I 209 40 + S.length + 2 ≤ 2 * o) : rm_st b n M C true T o d S (x_u I 209 44 1) L := by
  have h5 := h.2.2.2.2.1
  obtain ⟨h8, h9, h10, h11⟩ := h.2.2.2.2.2.1
  have h12 := h.2.2.2.2.2.2.1
  have hw1 : m_wi true = 1 := rfl
  exact rm_mv h (fun r c h1 h2 h3 => (x_u_if _ _ _ _ _ _).trans (if_neg (fun q => h1 ⟨q.1, by omega, by omega⟩))) ⟨h5.1, h5.2.1, rfl⟩ ⟨rm_sk_eq h8 rfl (fun _ => rfl), h9, h10, h11⟩ ⟨h12.1, h12.2.1, show I 209 40 + (S.length : Int) + m_wi true ≤ 2 * o by omega⟩ h.2.2.2.2.2.2.2
theorem rm_18 {b : Nat → Int} {n : Int} {M C : List Int} {T : pT} {o d : Int} {S : List Nat} {I L : xF} {w : Bool} {z : Int} (h : rm_st b n M C w T o d S I L) : rm_st b n M C w T o d S (x_u I 209 18 z) L := by
  obtain ⟨⟨e1, e2, e3, e4, e5⟩, g2, g3, g4, g5, ⟨g6, g7, g8, g9⟩, g10, g11⟩ := h
  exact ⟨⟨e1, e2, e3, e4, e5⟩, r_tok_eq g2 (fun k hk => x_u_k (by omega)) rfl, g3, rm_nm_eq g4 (fun _ => rfl) (fun _ => rfl), g5, ⟨rm_sk_eq g6 rfl (fun _ => rfl), g7, g8, g9⟩, g10, g11⟩
/-- what a word says is written down -/
theorem rm_code {b : Nat → Int} {n : Int} {M C : List Int} {T : pT} {o d : Int} {S : List Nat} {I L I' L' : xF} {za : List xV} {rv : Option xV} (h : rm_st b n M C true T o d S I L) (hl : I 209 40 + S.length + 2 ≤ 2 * o) (hp : xo_code za I L rv I' L') : rm_st b n M C true T o d S I' L' := by
  obtain ⟨_, e2, hf, h40⟩ := hp
  subst e2
  have h40 : I' 209 40 = I 209 40 + 1 := h40
  have h5 := h.2.2.2.2.1
  obtain ⟨h8, h9, h10, h11⟩ := h.2.2.2.2.2.1
  have h12 := h.2.2.2.2.2.2.1
  have hw1 : m_wi true = 1 := rfl
  exact rm_mv h (fun r c h1 h2 h3 => hf r c (fun q => h1 ⟨q.1, by omega, by omega⟩) h2) ⟨(hf 209 41 (by decide) (by decide)).trans h5.1, (hf 209 43 (by decide) (by decide)).trans h5.2.1, (hf 209 44 (by decide) (by decide)).trans h5.2.2⟩ ⟨rm_sk_eq h8 (hf 209 42 (by decide) (by decide)) (fun k => hf 220 k (fun q => absurd q.1 (by decide)) (by decide)), h9, by omega, by omega⟩ ⟨h12.1, h12.2.1, by omega⟩ h.2.2.2.2.2.2.2
theorem rm_inM {b : Nat → Int} {n : Int} {M C : List Int} {T : pT} {o d : Int} {S : List Nat} {I L : xF} {w : Bool} (h : rm_st b n M C w T o d S I L) (hk : T.1 = 2) {v : Int} (hv : v = I 211 1) : r_in I L 8 v ↔ T.2.2.2 ∈ M := by
  obtain ⟨hg, hw⟩ := r_tok_cv h.2.1 hk
  unfold r_in
  rw [hv, hw]
  exact h.2.2.2.1.1 _ hg
theorem rm_inC {b : Nat → Int} {n : Int} {M C : List Int} {T : pT} {o d : Int} {S : List Nat} {I L : xF} {w : Bool} (h : rm_st b n M C w T o d S I L) (hk : T.1 = 2) {v : Int} (hv : v = I 211 2) : r_in I L 14 v ↔ T.2.2.2 ∈ C := by
  obtain ⟨hg, hw⟩ := r_tok_cv h.2.1 hk
  unfold r_in
  rw [hv, hw]
  exact h.2.2.2.1.2 _ hg
theorem rm_none {T : pT} {I L : xF} (h : r_tok T I L) (nA : ¬ (I 209 11 = 1 ∧ L 209 17 = 7237492)) (nB : ¬ (I 209 11 = 3 ∧ I 209 14 = 40)) (nC : ∀ k : Nat, k ≤ 7 → ¬ (I 209 11 = 1 ∧ L 209 17 = x_W256.getD (16 + k) 0)) : ¬ m_one T := by
  rintro (⟨h5, h40⟩ | ⟨h2, hw⟩)
  · have q := (r_tok_sign h).1.mpr h5
    exact nB ⟨q, ((r_tok_sign h).2 q).trans h40⟩
  · have key : ∀ w : Nat, w < 24 → T.2.2.2 = x_W32.getD w 0 → I 209 11 = 1 ∧ L 209 17 = x_W256.getD w 0 := fun w hw e => (r_tok_word h hw).mpr ⟨h2, e⟩
    unfold m_W at hw
    simp only [List.mem_cons, List.not_mem_nil, or_false] at hw
    rcases hw with e | e | e | e | e | e | e | e | e
    · exact nA (key 15 (by decide) e)
    · exact nC 0 (by decide) (key 16 (by decide) e)
    · exact nC 1 (by decide) (key 17 (by decide) e)
    · exact nC 2 (by decide) (key 18 (by decide) e)
    · exact nC 3 (by decide) (key 19 (by decide) e)
    · exact nC 4 (by decide) (key 20 (by decide) e)
    · exact nC 5 (by decide) (key 21 (by decide) e)
    · exact nC 6 (by decide) (key 22 (by decide) e)
    · exact nC 7 (by decide) (key 23 (by decide) e)
theorem x_W16 : ∀ k : Fin 8, x_W32.getD (16 + k.val) 0 ∈ m_W ∧ x_W32.getD (16 + k.val) 0 ≠ 14836 := by decide +kernel
theorem x_W01 : ∀ k : Fin 2, x_W32.getD (16 + k.val) 0 = 67141 ∨ x_W32.getD (16 + k.val) 0 = 267652 := by decide +kernel
theorem x_W47 : ∀ k : Fin 4, x_W32.getD (20 + k.val) 0 ≠ 67141 ∧ x_W32.getD (20 + k.val) 0 ≠ 267652 ∧ x_W32.getD (20 + k.val) 0 ≠ 486 ∧ x_W32.getD (20 + k.val) 0 ≠ 22483122 := by decide +kernel
/-- what a leaf's end gives -/
def m_lr (o d : Int) (S : List Nat) : (Int × Int) ⊕ pT → mR ⊕ mS
  | .inl e => .inl (.inl e)
  | .inr T' => .inr (true, T', o + 1, d, S)
section ML
variable {b : Nat → Int} {n : Int} {M C : List Int} {T : pT} {o d w : Int} {S : List Nat}
theorem m_op_1 (h : ¬ m_one T) : m_op b n M C T o d S = .inl (.inl (T.2.1, 1)) := by
  unfold m_op
  rw [if_pos h]
theorem m_op_4 (h : m_one T) (h2 : 20 ≤ o ∨ 8 < d) : m_op b n M C T o d S = .inl (.inl (T.2.1, 4)) := by
  unfold m_op
  rw [if_neg (fun q => q h), if_pos h2]
theorem m_op_o (h : T.1 = 5 ∧ T.2.2.2 = 40) (h2 : ¬ (20 ≤ o ∨ 8 < d)) : m_op b n M C T o d S = .inr (false, m_nx b n T, o + 1, d + 1, 23 :: S) := by
  unfold m_op
  rw [if_neg (fun q => q (Or.inl h)), if_neg h2, if_pos h.1]
theorem m_op_n (h : T.1 = 2 ∧ T.2.2.2 = 14836) (h2 : ¬ (20 ≤ o ∨ 8 < d)) : m_op b n M C T o d S = .inr (false, m_nx b n T, o + 1, d + 1, 20 :: S) := by
  unfold m_op
  rw [if_neg (fun q => q (show m_one T from Or.inr ⟨h.1, by rw [h.2]; decide⟩)), if_neg h2, if_neg (by omega), if_pos h.2]
theorem m_op_l (h1 : T.1 = 2 ∧ T.2.2.2 ∈ m_W ∧ T.2.2.2 ≠ 14836) (h2 : ¬ (20 ≤ o ∨ 8 < d)) : m_op b n M C T o d S = m_lr o d S (m_leaf b n M C T.2.2.2 (m_nx b n T)) := by
  unfold m_op
  rw [if_neg (fun q => q (show m_one T from Or.inr ⟨h1.1, h1.2.1⟩)), if_neg h2, if_neg (by omega), if_neg h1.2.2]
  cases m_leaf b n M C T.2.2.2 (m_nx b n T) <;> rfl
theorem m_leaf_0 (hw : w = 67141 ∨ w = 267652) : m_leaf b n M C w T = .inr T := if_pos hw
theorem m_leaf_2 (hw : w = 486) : m_leaf b n M C w T = if ¬ (T.1 = 2 ∧ T.2.2.2 ∉ x_W32) then .inl (T.2.1, 1) else if T.2.2.2 ∉ M then .inl (T.2.1, 3) else .inr (m_nx b n T) := by
  subst hw
  unfold m_leaf
  rw [if_neg (show ¬ ((486 : Int) = 67141 ∨ (486 : Int) = 267652) by decide), if_pos (show (486 : Int) = 486 ∨ (486 : Int) = 22483122 from Or.inl rfl), if_pos (show (486 : Int) = 486 from rfl)]
theorem m_leaf_3 (hw : w = 22483122) : m_leaf b n M C w T = if ¬ (T.1 = 2 ∧ T.2.2.2 ∉ x_W32) then .inl (T.2.1, 1) else if T.2.2.2 ∉ C then .inl (T.2.1, 3) else .inr (m_nx b n T) := by
  subst hw
  unfold m_leaf
  rw [if_neg (show ¬ ((22483122 : Int) = 67141 ∨ (22483122 : Int) = 267652) by decide), if_pos (show (22483122 : Int) = 486 ∨ (22483122 : Int) = 22483122 from Or.inr rfl), if_neg (show ¬ ((22483122 : Int) = 486) by decide)]
theorem m_leaf_4 (hw : w ≠ 67141 ∧ w ≠ 267652 ∧ w ≠ 486 ∧ w ≠ 22483122) : m_leaf b n M C w T = if ¬ (T.1 = 5 ∧ 60 ≤ T.2.2.2 ∧ T.2.2.2 ≤ 62) then .inl (T.2.1, 1) else if (m_nx b n T).1 ≠ 4 then .inl ((m_nx b n T).2.1, 1) else .inr (m_nx b n (m_nx b n T)) := by
  unfold m_leaf
  rw [if_neg (show ¬ (w = 67141 ∨ w = 267652) by omega), if_neg (show ¬ (w = 486 ∨ w = 22483122) by omega)]
end ML
def xr_opd : xPre := fun za I L => za = [xR 210] ∧ ∃ b n M C T o d S, rm_st b n M C false T o d S I L
def xo_opd : xPost := fun _ I L rv I' L' => ∀ b n M C T o d S, rm_st b n M C false T o d S I L → rm_out b n M C (m_op b n M C T o d S) rv I' L'
def ct_opd : List (Nat × Nat × xPre × xPost) := [(177, 0, xr_mw, xo_mw), (178, 0, xr_ms, xo_ms), (266, 1, xr_m, xo_lof), (176, 0, xr_bad, xo_bad), (175, 1, xr_next, xo_next), (263, 0, xr_code, xo_code), (185, 2, xr_la, xo_la)]
theorem ct_opd_ok (hE : z_EX EX) : x_ctok EX l zTB zNT kc D vwCl xb yTY ad yP0 (x_ctl ct_opd) := x_ctl_cons (xk_mw hE) (x_ctl_cons (xk_ms hE) (x_ctl_cons (xk_lof hE) (x_ctl_cons (xk_bad hE) (x_ctl_cons (xk_next hE) (x_ctl_cons (xk_code hE) (x_ctl_cons (xk_la hE) x_ctl_nil))))))
def x_opdI (za : List xV) (I L : xF) (_ pc : Nat) (lv : List (Nat × xV)) (sv : List xV) (I' L' : xF) : Prop := sv = [] ∧ pc = 38 ∧ za = [xR 210] ∧ I' = I ∧ L' = L ∧ ∃ a c v : Int, lv = [(0, xR 210), (1, .inl a), (2, .inl c), (3, .inl v)] ∧ ((a = 1 ∧ I 209 11 = 1 ∧ L 209 17 = 7237492) ∨ (a = 0 ∧ c = 1 ∧ I 209 11 = 3 ∧ I 209 14 = 40) ∨ (a = 0 ∧ c = 0 ∧ ∃ k : Nat, k ≤ 7 ∧ v = (k : Int) ∧ I 209 11 = 1 ∧ L 209 17 = x_W256.getD (16 + k) 0))
theorem rm_3w {T : pT} {I L : xF} {a c v : Int} (h : r_tok T I L) (H : (a = 1 ∧ I 209 11 = 1 ∧ L 209 17 = 7237492) ∨ (a = 0 ∧ c = 1 ∧ I 209 11 = 3 ∧ I 209 14 = 40) ∨ (a = 0 ∧ c = 0 ∧ ∃ k : Nat, k ≤ 7 ∧ v = (k : Int) ∧ I 209 11 = 1 ∧ L 209 17 = x_W256.getD (16 + k) 0)) : m_one T := by
  rcases H with ⟨_, p, q⟩ | ⟨_, _, p, q⟩ | ⟨_, _, k, hk, _, p, q⟩
  · have e := (r_tok_word h (w := 15) (by decide)).mp ⟨p, q⟩
    exact Or.inr ⟨e.1, by rw [show T.2.2.2 = 14836 from e.2]; decide⟩
  · exact Or.inl ⟨(r_tok_sign h).1.mp p, ((r_tok_sign h).2 p).symm.trans q⟩
  · have e := (r_tok_word h (w := 16 + k) (by omega)).mp ⟨p, q⟩
    exact Or.inr ⟨e.1, by rw [e.2]; exact (x_W16 ⟨k, by omega⟩).1⟩
theorem m_one_2 {T : pT} (h : m_one T) : 2 ≤ T.1 := by
  rcases h with h | h <;> omega
set_option maxRecDepth 20000 in
set_option maxHeartbeats 4000000 in
theorem xk_opd (hE : z_EX EX) : x_Ok EX l zTB zNT kc D vwCl xb yTY ad yP0 267 3 xr_opd xo_opd := by
  refine x_loop (M := ym_X12_operand) hE y_prog 100 rfl (by decide) (ct_opd_ok hE) (fun za I L ⟨h, _⟩ => by subst h; exact (by decide : 1 ≤ 5)) (x_cut1 38) x_opdI (fun za I L ⟨h, b, n, M, C, T, o, d, S, hst0⟩ => ?_) (fun za I L ⟨h, b, n, M, C, T, o, d, S, hst0⟩ m pc lv sv I' L' hc hi => ?_)
  · subst h
    refine ⟨_, 7237492, zw_1382, by decide +kernel, ?_⟩
    refine And.intro ⟨_, rfl⟩ ?_
    rintro rv J1 K1 ⟨e1, e2, w1, hx, h1⟩
    subst e1
    subst e2
    cases hx
    obtain ⟨a, rfl, ha⟩ : ∃ a : Int, rv = some (.inl a) ∧ ((a = 1 ∧ (J1 209 11 = 1 ∧ K1 209 17 = 7237492)) ∨ (a = 0 ∧ ¬ (J1 209 11 = 1 ∧ K1 209 17 = 7237492))) := by
      rcases h1 with ⟨p, q, r⟩ | ⟨p, r⟩
      · exact ⟨1, r, Or.inl ⟨rfl, p, q⟩⟩
      · exact ⟨0, r, Or.inr ⟨rfl, p⟩⟩
    refine And.intro ⟨40, rfl⟩ ?_
    rintro rv J2 K2 ⟨e1, e2, w2, hx, h2⟩
    subst e1
    subst e2
    cases hx
    obtain ⟨c, rfl, hc⟩ : ∃ a : Int, rv = some (.inl a) ∧ ((a = 1 ∧ (J2 209 11 = 3 ∧ J2 209 14 = 40)) ∨ (a = 0 ∧ ¬ (J2 209 11 = 3 ∧ J2 209 14 = 40))) := by
      rcases h2 with ⟨p, q, r⟩ | ⟨p, r⟩
      · exact ⟨1, r, Or.inl ⟨rfl, p, q⟩⟩
      · exact ⟨0, r, Or.inr ⟨rfl, p⟩⟩
    refine And.intro rfl ?_
    rintro rv J3 K3 ⟨e1, e2, v, rfl, hv⟩
    subst e1
    subst e2
    refine And.intro (fun t1 => ?_) (fun t1 => ?_)
    · exact ⟨0, [(0, xR 210), (1, .inl a), (2, .inl c), (3, .inl v)], ⟨rfl, rfl, rfl, rfl, trivial⟩, rfl, rfl, rfl, rfl, rfl, a, c, v, rfl, Or.inl (by
        rcases ha with ha | ha
        · exact ha
        · exact absurd ha.1 t1)⟩
    · have ha2 : ¬ (J3 209 11 = 1 ∧ K3 209 17 = 7237492) := by
        rcases ha with ha | ha
        · exact absurd (ha.1.symm.trans t1) (by decide)
        · exact ha.2
      refine And.intro (fun t2 => ?_) (fun t2 => ?_)
      · exact ⟨0, [(0, xR 210), (1, .inl a), (2, .inl c), (3, .inl v)], ⟨rfl, rfl, rfl, rfl, trivial⟩, rfl, rfl, rfl, rfl, rfl, a, c, v, rfl, Or.inr (Or.inl ⟨t1, by
          rcases hc with hc | hc
          · exact hc
          · exact absurd hc.1 t2⟩)⟩
      · have hc2 : ¬ (J3 209 11 = 3 ∧ J3 209 14 = 40) := by
          rcases hc with hc | hc
          · exact absurd (hc.1.symm.trans t2) (by decide)
          · exact hc.2
        refine And.intro (fun t3 => ?_) (fun t3 => ?_)
        · exact ⟨0, [(0, xR 210), (1, .inl a), (2, .inl c), (3, .inl v)], ⟨rfl, rfl, rfl, rfl, trivial⟩, rfl, rfl, rfl, rfl, rfl, a, c, v, rfl, Or.inr (Or.inr ⟨t1, t2, by
            rcases hv with hv | hv
            · exact hv
            · have := hv.1
              omega⟩)⟩
        · have hv2 : ∀ k : Nat, k ≤ 7 → ¬ (J3 209 11 = 1 ∧ K3 209 17 = x_W256.getD (16 + k) 0) := by
            rcases hv with ⟨k, _, hk, _⟩ | hv
            · omega
            · exact hv.2
          refine And.intro ⟨1, rfl, by decide, by decide⟩ ?_
          rintro rv I9 L9 ⟨f, hf, rfl, rfl, rfl⟩
          cases hf
          refine ⟨by decide, fun b n M C T o d S hst => ?_⟩
          rw [m_op_1 (rm_none hst.2.1 ha2 hc2 hv2)]
          exact ⟨rfl, rfl, hst.2.1.1⟩
  · obtain ⟨rfl, rfl, rfl, rfl, rfl, a, c, v, rfl, H⟩ := hi
    have hone : ∀ {b : Nat → Int} {n : Int} {M C : List Int} {T : pT} {o d : Int} {S : List Nat}, rm_st b n M C false T o d S I' L' → m_one T := fun h => rm_3w h.2.1 H
    have hb4 : 20 ≤ I' 209 41 ∨ 8 < I' 209 43 → xo_opd [xR 210] I' L' (some (.inl 0)) (r_bad I' 4) L' := fun hq b n M C T o d S hst => by
      have h5 := hst.2.2.2.2.1
      rw [m_op_4 (hone hst) (by omega)]
      exact ⟨rfl, rfl, hst.2.1.1⟩
    intro z (hz : z = I' 209 41) (bz : 0 ≤ z ∧ z ≤ 20)
    refine And.intro ?_ ?_
    · intro t1
      refine And.intro ⟨4, rfl, by decide, by decide⟩ ?_
      rintro rv I1 L1 ⟨f, hf, rfl, rfl, rfl⟩
      cases hf
      exact ⟨by decide, hb4 (Or.inl (by omega))⟩
    · intro t1
      intro d2 (hd2 : d2 = I' 209 43) _
      refine And.intro ?_ ?_
      · intro t2
        intro z2 (hz2 : z2 = I' 209 41) (bz2 : 0 ≤ z2 ∧ z2 ≤ 20)
        have hlt : ∀ {b : Nat → Int} {n : Int} {M C : List Int} {T : pT} {o d : Int} {S : List Nat}, rm_st b n M C false T o d S I' L' → o < 20 ∧ ¬ (20 ≤ o ∨ 8 < d) := fun h => by
          have h5 := h.2.2.2.2.1
          have h12 := h.2.2.2.2.2.2.1
          omega
        refine Or.inl ⟨by omega, ?_⟩
        refine And.intro (show 0 ≤ z2 + 1 ∧ z2 + 1 ≤ 20 by omega) ?_
        refine And.intro ⟨rfl, (show r_bh (x_u I' 209 41 (z2 + 1)) from rm_bh (rm_one hst0 hz2 (hlt hst0).1).1 (m_one_2 (hone hst0)))⟩ ?_
        intro rv I1 L1 hadv
        have h9 := hadv.1
        subst h9
        have hN : ∀ {b : Nat → Int} {n : Int} {M C : List Int} {T : pT} {o d : Int} {S : List Nat}, rm_st b n M C false T o d S I' L' → rm_st b n M C false (m_nx b n T) (o + 1) d S I1 L1 ∧ I1 209 40 + S.length + 2 ≤ 2 * (o + 1) := fun h => by
          have q := rm_one h hz2 (hlt h).1
          have e40 : I1 209 40 = I' 209 40 := hadv.2.1 209 40 rfl
          have q2 := q.2
          exact ⟨rm_next (m_one_2 (hone h)) q.1 hadv, by omega⟩
        have hN0 := hN hst0
        have hb0 := hN0.1.2.2.2.2.2.2.1
        have hs0 := hN0.1.2.2.2.2.2.1.1.1
        have h400 := hN0.1.2.2.2.2.2.1.2.2.1
        have hd0 := hN0.1.2.2.2.2.1.2.1
        have hdc := hN0.1.2.2.2.2.2.2.2
        have hcb := m_cnt_b S
        rcases H with ⟨rfl, p, q⟩ | ⟨rfl, rfl, p, q⟩ | ⟨rfl, rfl, k, hk7, rfl, p, q⟩
        · have hT : ∀ {b : Nat → Int} {n : Int} {M C : List Int} {T : pT} {o d : Int} {S : List Nat}, rm_st b n M C false T o d S I' L' → T.1 = 2 ∧ T.2.2.2 = 14836 := fun h => (r_tok_word h.2.1 (w := 15) (by decide)).mp ⟨p, q⟩
          refine And.intro (fun _ => ?_) (fun q => absurd q (by decide))
          intro z4 (hz4 : z4 = I1 209 42) (bz4 : 0 ≤ z4 ∧ z4 ≤ 44)
          refine And.intro (fun q => absurd q (by decide)) (fun _ => ?_)
          refine And.intro (show 0 ≤ z4 ∧ z4 < 45 by omega) ?_
          refine And.intro (fun q hq => ?_) ?_
          · rw [x_seg1 (by omega)] at hq
            cases hq
            exact ⟨by decide, by decide⟩
          intro z5 (hz5 : z5 = I1 209 42) (bz5 : 0 ≤ z5 ∧ z5 ≤ 44)
          refine Or.inl ⟨by omega, ?_⟩
          refine And.intro (show 0 ≤ z5 + 1 ∧ z5 + 1 ≤ 44 by omega) ?_
          intro d5 (hd5 : d5 = I1 209 43) _
          refine Or.inl ⟨by omega, ?_⟩
          refine And.intro (show -2147483648 ≤ d5 + 1 ∧ d5 + 1 ≤ 2147483647 by omega) ?_
          refine ⟨by decide, fun b n M C T o d S hst => ?_⟩
          rw [m_op_n (hT hst) (hlt hst).2]
          exact ⟨rfl, rm_push2 (x := 20) (Or.inl rfl) (hN hst).1 (hN hst).2 hz4 hz5 hd5⟩
        · have hT : ∀ {b : Nat → Int} {n : Int} {M C : List Int} {T : pT} {o d : Int} {S : List Nat}, rm_st b n M C false T o d S I' L' → T.1 = 5 ∧ T.2.2.2 = 40 := fun h => ⟨(r_tok_sign h.2.1).1.mp p, ((r_tok_sign h.2.1).2 p).symm.trans q⟩
          refine And.intro (fun q => absurd rfl q) (fun _ => ?_)
          refine And.intro (fun q => absurd q (by decide)) (fun _ => ?_)
          intro z4 (hz4 : z4 = I1 209 42) (bz4 : 0 ≤ z4 ∧ z4 ≤ 44)
          refine And.intro (fun _ => ?_) (fun q => absurd rfl q)
          refine And.intro (show 0 ≤ z4 ∧ z4 < 45 by omega) ?_
          refine And.intro (fun q hq => ?_) ?_
          · rw [x_seg1 (by omega)] at hq
            cases hq
            exact ⟨by decide, by decide⟩
          intro z5 (hz5 : z5 = I1 209 42) (bz5 : 0 ≤ z5 ∧ z5 ≤ 44)
          refine Or.inl ⟨by omega, ?_⟩
          refine And.intro (show 0 ≤ z5 + 1 ∧ z5 + 1 ≤ 44 by omega) ?_
          intro d5 (hd5 : d5 = I1 209 43) _
          refine Or.inl ⟨by omega, ?_⟩
          refine And.intro (show -2147483648 ≤ d5 + 1 ∧ d5 + 1 ≤ 2147483647 by omega) ?_
          refine ⟨by decide, fun b n M C T o d S hst => ?_⟩
          rw [m_op_o (hT hst) (hlt hst).2]
          exact ⟨rfl, rm_push2 (x := 23) (Or.inr rfl) (hN hst).1 (hN hst).2 hz4 hz5 hd5⟩
        · have hT : ∀ {b : Nat → Int} {n : Int} {M C : List Int} {T : pT} {o d : Int} {S : List Nat}, rm_st b n M C false T o d S I' L' → T.1 = 2 ∧ T.2.2.2 = x_W32.getD (16 + k) 0 := fun h => (r_tok_word h.2.1 (by omega)).mp ⟨p, q⟩
          have hop : ∀ {b : Nat → Int} {n : Int} {M C : List Int} {T : pT} {o d : Int} {S : List Nat}, rm_st b n M C false T o d S I' L' → m_op b n M C T o d S = m_lr o d S (m_leaf b n M C T.2.2.2 (m_nx b n T)) := fun h => by
            have e := hT h
            have e2 := x_W16 ⟨k, by omega⟩
            exact m_op_l ⟨e.1, by rw [e.2]; exact e2.1, by rw [e.2]; exact e2.2⟩ (hlt h).2
          refine And.intro (fun q => absurd rfl q) (fun _ => ?_)
          refine And.intro (fun _ => ?_) (fun q => absurd rfl q)
          refine And.intro (by decide) ?_
          have hW : ∀ {b : Nat → Int} {n : Int} {M C : List Int} {T : pT} {o d : Int} {S : List Nat}, rm_st b n M C false T o d S I' L' → rm_st b n M C true (m_nx b n T) (o + 1) d S (x_u I1 209 44 1) L1 ∧ x_u I1 209 44 1 209 40 + S.length + 2 ≤ 2 * (o + 1) := fun h => ⟨rm_wh (hN h).1 (hN h).2, (hN h).2⟩
          have h43 : I1 209 40 ≤ 43 := by omega
          rcases (by omega : k < 2 ∨ k = 2 ∨ k = 3 ∨ 4 ≤ k) with h2 | rfl | rfl | h4
          · refine And.intro (fun q => absurd q (by omega)) (fun _ => ?_)
            refine And.intro ⟨(k : Int), 0, 0, rfl, by omega, by decide, by decide, h43⟩ ?_
            rintro rv I2 L2 hcd
            have h9 := hcd.1
            subst h9
            refine ⟨by decide, fun b n M C T o d S hst => ?_⟩
            rw [hop hst, m_leaf_0 (by rw [(hT hst).2]; exact x_W01 ⟨k, h2⟩)]
            exact ⟨rfl, rm_code (hW hst).1 (hW hst).2 hcd⟩
          · have hTw : ∀ {b : Nat → Int} {n : Int} {M C : List Int} {T : pT} {o d : Int} {S : List Nat}, rm_st b n M C false T o d S I' L' → T.2.2.2 = 486 := fun h => (hT h).2
            refine And.intro (fun _ => ?_) (fun q => absurd q (by decide))
            refine And.intro (fun q => absurd q (by decide)) (fun _ => ?_)
            refine And.intro (fun q => absurd rfl q) (fun _ => ?_)
            refine And.intro (fun q => absurd rfl q) (fun _ => ?_)
            refine And.intro (by decide) ?_
            intro v1 (hv1 : v1 = I1 211 1) hs1
            have b1 : 0 ≤ v1 ∧ v1 ≤ 6 := hs1 (0, 6) rfl
            refine And.intro ⟨8, v1, rfl, by decide, by omega, by omega⟩ ?_
            rintro rv I2 L2 ⟨e2, fr, mn, hx, hla⟩
            subst e2
            cases hx
            rcases hla with ⟨g1, rfl, rfl⟩ | ⟨g1, g2, rfl, rfl⟩ | ⟨g1, j, g2, g3, rfl, rfl⟩
            · refine And.intro (fun q => absurd rfl q) (fun _ => ?_)
              refine ⟨by decide, fun b n M C T o d S hst => ?_⟩
              rw [hop hst, m_leaf_2 (hTw hst), if_pos (fun q => g1 ((r_tok_isn (hW hst).1.2.1).mpr q))]
              exact ⟨rfl, rfl, (hW hst).1.2.1.1⟩
            · refine And.intro (fun q => absurd rfl q) (fun _ => ?_)
              refine ⟨by decide, fun b n M C T o d S hst => ?_⟩
              have hi := (r_tok_isn (hW hst).1.2.1).mp g1
              rw [hop hst, m_leaf_2 (hTw hst), if_neg (fun q => q hi), if_pos (fun q => g2 ((rm_inM (hW hst).1 hi.1 hv1).mpr q))]
              exact ⟨rfl, rfl, (hW hst).1.2.1.1⟩
            · refine And.intro (fun _ => ?_) (fun q => absurd q (by decide))
              intro g (hg : g = (j : Int)) (bg : -1 ≤ g ∧ g ≤ 999)
              refine And.intro ⟨2, 0, g, rfl, by decide, by decide, by omega, h43⟩ ?_
              rintro rv I3 L3 hcd
              have h9 := hcd.1
              subst h9
              have hi : ∀ {b : Nat → Int} {n : Int} {M C : List Int} {T : pT} {o d : Int} {S : List Nat}, rm_st b n M C false T o d S I' L' → (m_nx b n T).1 = 2 ∧ (m_nx b n T).2.2.2 ∉ x_W32 := fun h => (r_tok_isn (hW h).1.2.1).mp g1
              have hC3 : ∀ {b : Nat → Int} {n : Int} {M C : List Int} {T : pT} {o d : Int} {S : List Nat}, rm_st b n M C false T o d S I' L' → rm_st b n M C true (m_nx b n T) (o + 1) d S I3 L3 := fun h => rm_code (rm_18 (hW h).1) (hW h).2 hcd
              refine And.intro ⟨rfl, (show r_bh I3 from rm_bh (hC3 hst0) (by have := hi hst0; omega))⟩ ?_
              intro rv I4 L4 hadv2
              have h9 := hadv2.1
              subst h9
              refine ⟨by decide, fun b n M C T o d S hst => ?_⟩
              rw [hop hst, m_leaf_2 (hTw hst), if_neg (fun q => q (hi hst)), if_neg (fun q => q ((rm_inM (hW hst).1 (hi hst).1 hv1).mp ⟨j, g2, g3⟩))]
              exact ⟨rfl, rm_next (by have := hi hst; omega) (hC3 hst) hadv2⟩
          · have hTw : ∀ {b : Nat → Int} {n : Int} {M C : List Int} {T : pT} {o d : Int} {S : List Nat}, rm_st b n M C false T o d S I' L' → T.2.2.2 = 22483122 := fun h => (hT h).2
            refine And.intro (fun _ => ?_) (fun q => absurd q (by decide))
            refine And.intro (fun q => absurd q (by decide)) (fun _ => ?_)
            refine And.intro (fun _ => ?_) (fun q => absurd q (by decide))
            refine And.intro (fun _ => ?_) (fun q => absurd q (by decide))
            refine And.intro (by decide) ?_
            intro v1 (hv1 : v1 = I1 211 2) hs1
            have b1 : 0 ≤ v1 ∧ v1 ≤ 8 := hs1 (0, 8) rfl
            refine And.intro ⟨14, v1, rfl, by decide, by omega, by omega⟩ ?_
            rintro rv I2 L2 ⟨e2, fr, mn, hx, hla⟩
            subst e2
            cases hx
            rcases hla with ⟨g1, rfl, rfl⟩ | ⟨g1, g2, rfl, rfl⟩ | ⟨g1, j, g2, g3, rfl, rfl⟩
            · refine And.intro (fun q => absurd rfl q) (fun _ => ?_)
              refine ⟨by decide, fun b n M C T o d S hst => ?_⟩
              rw [hop hst, m_leaf_3 (hTw hst), if_pos (fun q => g1 ((r_tok_isn (hW hst).1.2.1).mpr q))]
              exact ⟨rfl, rfl, (hW hst).1.2.1.1⟩
            · refine And.intro (fun q => absurd rfl q) (fun _ => ?_)
              refine ⟨by decide, fun b n M C T o d S hst => ?_⟩
              have hi := (r_tok_isn (hW hst).1.2.1).mp g1
              rw [hop hst, m_leaf_3 (hTw hst), if_neg (fun q => q hi), if_pos (fun q => g2 ((rm_inC (hW hst).1 hi.1 hv1).mpr q))]
              exact ⟨rfl, rfl, (hW hst).1.2.1.1⟩
            · refine And.intro (fun _ => ?_) (fun q => absurd q (by decide))
              intro g (hg : g = (j : Int)) (bg : -1 ≤ g ∧ g ≤ 999)
              refine And.intro ⟨3, 0, g, rfl, by decide, by decide, by omega, h43⟩ ?_
              rintro rv I3 L3 hcd
              have h9 := hcd.1
              subst h9
              have hi : ∀ {b : Nat → Int} {n : Int} {M C : List Int} {T : pT} {o d : Int} {S : List Nat}, rm_st b n M C false T o d S I' L' → (m_nx b n T).1 = 2 ∧ (m_nx b n T).2.2.2 ∉ x_W32 := fun h => (r_tok_isn (hW h).1.2.1).mp g1
              have hC3 : ∀ {b : Nat → Int} {n : Int} {M C : List Int} {T : pT} {o d : Int} {S : List Nat}, rm_st b n M C false T o d S I' L' → rm_st b n M C true (m_nx b n T) (o + 1) d S I3 L3 := fun h => rm_code (rm_18 (hW h).1) (hW h).2 hcd
              refine And.intro ⟨rfl, (show r_bh I3 from rm_bh (hC3 hst0) (by have := hi hst0; omega))⟩ ?_
              intro rv I4 L4 hadv2
              have h9 := hadv2.1
              subst h9
              refine ⟨by decide, fun b n M C T o d S hst => ?_⟩
              rw [hop hst, m_leaf_3 (hTw hst), if_neg (fun q => q (hi hst)), if_neg (fun q => q ((rm_inC (hW hst).1 (hi hst).1 hv1).mp ⟨j, g2, g3⟩))]
              exact ⟨rfl, rm_next (by have := hi hst; omega) (hC3 hst) hadv2⟩
          · have hl4 : ∀ {b : Nat → Int} {n : Int} {M C : List Int} {T : pT} {o d : Int} {S : List Nat}, rm_st b n M C false T o d S I' L' → T.2.2.2 ≠ 67141 ∧ T.2.2.2 ≠ 267652 ∧ T.2.2.2 ≠ 486 ∧ T.2.2.2 ≠ 22483122 := fun h => by
              have e := x_W47 ⟨k - 4, by omega⟩
              rw [show 20 + (k - 4) = 16 + k by omega] at e
              rw [(hT h).2]
              exact e
            have htk : ∀ {b : Nat → Int} {n : Int} {M C : List Int} {T : pT} {o d : Int} {S : List Nat}, rm_st b n M C false T o d S I' L' → r_tok (m_nx b n T) (x_u I1 209 44 1) L1 := fun h => (hW h).1.2.1
            have hsg : ∀ {b : Nat → Int} {n : Int} {M C : List Int} {T : pT} {o d : Int} {S : List Nat}, rm_st b n M C false T o d S I' L' → (m_nx b n T).1 = 5 → I1 209 11 = 3 ∧ I1 209 14 = (m_nx b n T).2.2.2 := fun h q => by
              have q1 : I1 209 11 = 3 := (r_tok_sign (htk h)).1.mpr q
              exact ⟨q1, (r_tok_sign (htk h)).2 q1⟩
            refine And.intro (fun _ => ?_) (fun q => absurd q (by omega))
            refine And.intro (fun _ => ?_) (fun q => absurd q (by omega))
            intro k1 (hk1 : k1 = I1 209 11) (bk1 : 0 ≤ k1 ∧ k1 ≤ 4)
            refine And.intro ?_ ?_
            · intro t3
              refine And.intro ⟨1, rfl, by decide, by decide⟩ ?_
              rintro rv I9 L9 ⟨f, hf, rfl, rfl, rfl⟩
              cases hf
              refine ⟨by decide, fun b n M C T o d S hst => ?_⟩
              rw [hop hst, m_leaf_4 (hl4 hst), if_pos (fun q => by have q1 := hsg hst q.1; omega)]
              exact ⟨rfl, rfl, (htk hst).1⟩
            · intro t3
              intro n1 (hn1 : n1 = I1 209 14) _
              refine And.intro ?_ ?_
              · intro t4
                refine And.intro ⟨1, rfl, by decide, by decide⟩ ?_
                rintro rv I9 L9 ⟨f, hf, rfl, rfl, rfl⟩
                cases hf
                refine ⟨by decide, fun b n M C T o d S hst => ?_⟩
                rw [hop hst, m_leaf_4 (hl4 hst), if_pos (fun q => by have q1 := hsg hst q.1; omega)]
                exact ⟨rfl, rfl, (htk hst).1⟩
              · intro t4
                intro n2 (hn2 : n2 = I1 209 14) _
                refine And.intro ?_ ?_
                · intro t5
                  intro n3 (hn3 : n3 = I1 209 14) _
                  have h5 : ∀ {b : Nat → Int} {n : Int} {M C : List Int} {T : pT} {o d : Int} {S : List Nat}, rm_st b n M C false T o d S I' L' → (m_nx b n T).1 = 5 ∧ 60 ≤ (m_nx b n T).2.2.2 ∧ (m_nx b n T).2.2.2 ≤ 62 := @fun b n _ _ T _ _ _ h => by
                    have q1 : (m_nx b n T).1 = 5 := (r_tok_sign (htk h)).1.mp (show I1 209 11 = 3 by omega)
                    have q2 := hsg h q1
                    omega
                  refine And.intro ⟨rfl, (show r_bh (x_u I1 209 44 1) from rm_bh (hW hst0).1 (by have := h5 hst0; omega))⟩ ?_
                  intro rv I2 L2 hadv2
                  have h9 := hadv2.1
                  subst h9
                  have hN2 : ∀ {b : Nat → Int} {n : Int} {M C : List Int} {T : pT} {o d : Int} {S : List Nat}, rm_st b n M C false T o d S I' L' → rm_st b n M C true (m_nx b n (m_nx b n T)) (o + 1) d S I2 L2 ∧ I2 209 40 + S.length + 2 ≤ 2 * (o + 1) := fun h => by
                    have e40 : I2 209 40 = I1 209 40 := hadv2.2.1 209 40 rfl
                    have q2 := (hN h).2
                    exact ⟨rm_next (by have := h5 h; omega) (hW h).1 hadv2, by omega⟩
                  have h43b : I2 209 40 ≤ 43 := by
                    have e40 : I2 209 40 = I1 209 40 := hadv2.2.1 209 40 rfl
                    omega
                  intro k2 (hk2 : k2 = I2 209 11) (bk2 : 0 ≤ k2 ∧ k2 ≤ 4)
                  refine And.intro ?_ ?_
                  · intro t6
                    intro g (hg : g = I2 209 14) (bg : -2147483648 ≤ g ∧ g ≤ 2147483647)
                    refine And.intro ⟨(k : Int), n3, g, rfl, by omega, by omega, bg, h43b⟩ ?_
                    rintro rv I3 L3 hcd
                    have h9 := hcd.1
                    subst h9
                    have h4n : ∀ {b : Nat → Int} {n : Int} {M C : List Int} {T : pT} {o d : Int} {S : List Nat}, rm_st b n M C false T o d S I' L' → (m_nx b n (m_nx b n T)).1 = 4 := fun h => (r_tok_num (hN2 h).1.2.1).1.mp (by omega)
                    have hC3 : ∀ {b : Nat → Int} {n : Int} {M C : List Int} {T : pT} {o d : Int} {S : List Nat}, rm_st b n M C false T o d S I' L' → rm_st b n M C true (m_nx b n (m_nx b n T)) (o + 1) d S I3 L3 := fun h => rm_code (hN2 h).1 (hN2 h).2 hcd
                    refine And.intro ⟨rfl, (show r_bh I3 from rm_bh (hC3 hst0) (by have := h4n hst0; omega))⟩ ?_
                    intro rv I4 L4 hadv3
                    have h9 := hadv3.1
                    subst h9
                    refine ⟨by decide, fun b n M C T o d S hst => ?_⟩
                    rw [hop hst, m_leaf_4 (hl4 hst), if_neg (fun q => q (h5 hst)), if_neg (fun q => q (h4n hst))]
                    exact ⟨rfl, rm_next (by have := h4n hst; omega) (hC3 hst) hadv3⟩
                  · intro t6
                    refine And.intro ⟨1, rfl, by decide, by decide⟩ ?_
                    rintro rv I9 L9 ⟨f, hf, rfl, rfl, rfl⟩
                    cases hf
                    refine ⟨by decide, fun b n M C T o d S hst => ?_⟩
                    rw [hop hst, m_leaf_4 (hl4 hst), if_neg (fun q => q (h5 hst)), if_pos (fun q => t6 (hk2.trans ((r_tok_num (hN2 hst).1.2.1).1.mpr q)))]
                    exact ⟨rfl, rfl, (hN2 hst).1.2.1.1⟩
                · intro t5
                  refine And.intro ⟨1, rfl, by decide, by decide⟩ ?_
                  rintro rv I9 L9 ⟨f, hf, rfl, rfl, rfl⟩
                  cases hf
                  refine ⟨by decide, fun b n M C T o d S hst => ?_⟩
                  rw [hop hst, m_leaf_4 (hl4 hst), if_pos (fun q => by have q1 := hsg hst q.1; omega)]
                  exact ⟨rfl, rfl, (htk hst).1⟩
      · intro t2
        refine And.intro ⟨4, rfl, by decide, by decide⟩ ?_
        rintro rv I1 L1 ⟨f, hf, rfl, rfl, rfl⟩
        cases hf
        exact ⟨by decide, hb4 (Or.inr (by omega))⟩
end XR3
