/-! ===== the reference's sentence() ===== -/
theorem m_nots_len : ∀ (S : List Nat) (d : Int), (m_nots d S).2.length ≤ S.length
  | [], _ => Nat.le_refl _
  | x :: r, d => by
    show (if x = 20 then m_nots (d - 1) r else (d, x :: r)).2.length ≤ (x :: r).length
    by_cases hx : x = 20
    · rw [if_pos hx, List.length_cons]
      have := m_nots_len r (d - 1)
      omega
    · rw [if_neg hx]
      exact Nat.le_refl _
theorem m_joins_len (t : Nat) : ∀ S : List Nat, (m_joins t S).length ≤ S.length
  | [] => Nat.le_refl _
  | x :: r => by
    show (if x = 21 ∨ (x = 22 ∧ t = 22) then m_joins t r else x :: r).length ≤ (x :: r).length
    by_cases hx : x = 21 ∨ (x = 22 ∧ t = 22)
    · rw [if_pos hx, List.length_cons]
      have := m_joins_len t r
      omega
    · rw [if_neg hx]
      exact Nat.le_refl _
section MD
variable {b : Nat → Int} {n : Int} {M C : List Int} {T T' : pT} {o d o' d' : Int} {S S' : List Nat} {w' : Bool}
theorem m_bh_dn (h : m_bh b n T o d S = .inr (w', T', o', d', S')) : o' = o ∧ ((w' = false ∧ S'.length ≤ S.length + 1) ∨ (w' = true ∧ S'.length + 1 ≤ S.length)) := by
  have hn := m_nots_len S d
  unfold m_bh at h
  by_cases h1 : m_and T
  · rw [if_pos h1] at h
    cases h
    have hj := m_joins_len 21 (m_nots d S).2
    refine ⟨rfl, Or.inl ⟨rfl, ?_⟩⟩
    rw [List.length_cons]
    omega
  · by_cases h2 : m_or T
    · rw [if_neg h1, if_pos h2] at h
      cases h
      have hj := m_joins_len 22 (m_nots d S).2
      refine ⟨rfl, Or.inl ⟨rfl, ?_⟩⟩
      rw [List.length_cons]
      omega
    · rw [if_neg h1, if_neg h2] at h
      have hj := m_joins_len 22 (m_nots d S).2
      revert h hj
      cases m_joins 22 (m_nots d S).2 with
      | nil =>
        intro h hj
        dsimp only at h
        by_cases h3 : T.1 = 0
        · rw [if_pos h3] at h
          cases h
        · rw [if_neg h3] at h
          cases h
      | cons x r =>
        intro h hj
        dsimp only at h
        rw [List.length_cons] at hj
        by_cases h3 : T.1 = 5 ∧ T.2.2.2 = 41
        · rw [if_pos h3] at h
          cases h
          exact ⟨rfl, Or.inr ⟨rfl, by omega⟩⟩
        · rw [if_neg h3] at h
          cases h
theorem m_op_dn (h : m_op b n M C T o d S = .inr (w', T', o', d', S')) : o' = o + 1 ∧ S'.length ≤ S.length + 1 := by
  by_cases h1 : m_one T
  · by_cases h2 : 20 ≤ o ∨ 8 < d
    · rw [m_op_4 h1 h2] at h
      cases h
    · by_cases h5 : T.1 = 5
      · rw [m_op_o ⟨h5, by rcases h1 with h1 | h1 <;> omega⟩ h2] at h
        cases h
        exact ⟨rfl, Nat.le_refl _⟩
      · have h1b : T.1 = 2 ∧ T.2.2.2 ∈ m_W := by
          rcases h1 with h1 | h1
          · exact absurd h1.1 h5
          · exact h1
        by_cases h6 : T.2.2.2 = 14836
        · rw [m_op_n ⟨h1b.1, h6⟩ h2] at h
          cases h
          exact ⟨rfl, Nat.le_refl _⟩
        · rw [m_op_l ⟨h1b.1, h1b.2, h6⟩ h2] at h
          revert h
          cases m_leaf b n M C T.2.2.2 (m_nx b n T) with
          | inl e =>
            intro h
            have h : (Sum.inl (Sum.inl e) : mR ⊕ mS) = .inr (w', T', o', d', S') := h
            cases h
          | inr T2 =>
            intro h
            have h : (Sum.inr (true, T2, o + 1, d, S) : mR ⊕ mS) = .inr (w', T', o', d', S') := h
            cases h
            exact ⟨rfl, Nat.le_succ _⟩
  · rw [m_op_1 h1] at h
    cases h
theorem m_bh_end (hT : T.1 = 0) (hj : m_joins 22 (m_nots d S).2 = []) : m_bh b n T o d S = .inl (.inr o) := by
  unfold m_bh
  rw [if_neg (fun q : m_and T => by unfold m_and at q; omega), if_neg (fun q : m_or T => by unfold m_or at q; omega), hj]
  dsimp only
  rw [if_pos hT]
theorem m_bh_open (hT : T.1 = 0) (hj : m_joins 22 (m_nots d S).2 ≠ []) : m_bh b n T o d S = .inl (.inl (T.2.1, 1)) := by
  unfold m_bh
  rw [if_neg (fun q : m_and T => by unfold m_and at q; omega), if_neg (fun q : m_or T => by unfold m_or at q; omega)]
  revert hj
  cases m_joins 22 (m_nots d S).2 with
  | nil => exact fun h => absurd rfl h
  | cons x r =>
    intro _
    dsimp only
    rw [if_neg (fun q => by omega)]
end MD
theorem m_wi_b : ∀ w : Bool, 0 ≤ m_wi w ∧ m_wi w ≤ 1
  | true => by decide
  | false => by decide
theorem m_wi_f : ∀ {w : Bool}, m_wi w = 0 → w = false
  | true, h => absurd h (by decide)
  | false, _ => rfl
theorem m_wi_t : ∀ {w : Bool}, m_wi w ≠ 0 → w = true
  | true, _ => rfl
  | false, h => absurd rfl h
theorem rm_ne10 (h : (some (.inl 1) : Option xV) = some (.inl 0)) : False := by
  simp only [Option.some.injEq, Sum.inl.injEq] at h
  omega
theorem rm_out_rv {b : Nat → Int} {n : Int} {M C : List Int} {r : mR ⊕ mS} {rv : Option xV} {I L : xF} (h : rm_out b n M C r rv I L) : rv = some (.inl 0) ∨ rv = some (.inl 1) := by
  rcases r with (⟨at0, f⟩ | o) | ⟨w, T, o, d, S⟩
  · exact Or.inl h.1
  · exact h.elim
  · exact Or.inr h.1
theorem rm_out_0 {b : Nat → Int} {n : Int} {M C : List Int} {r : mR ⊕ mS} {I L : xF} (h : rm_out b n M C r (some (.inl 0)) I L) : ∃ at0 f, r = .inl (.inl (at0, f)) ∧ I 209 15 = f ∧ I 209 16 = at0 := by
  rcases r with (⟨at0, f⟩ | o) | ⟨w, T, o, d, S⟩
  · exact ⟨at0, f, rfl, h.2⟩
  · exact h.elim
  · exact (rm_ne10 h.1.symm).elim
theorem rm_out_1 {b : Nat → Int} {n : Int} {M C : List Int} {r : mR ⊕ mS} {I L : xF} (h : rm_out b n M C r (some (.inl 1)) I L) : ∃ w T o d S, r = .inr (w, T, o, d, S) ∧ rm_st b n M C w T o d S I L := by
  rcases r with (⟨at0, f⟩ | o) | ⟨w, T, o, d, S⟩
  · exact (rm_ne10 h.1).elim
  · exact h.elim
  · exact ⟨w, T, o, d, S, rfl, h.2⟩
theorem x_sgSR : ∀ k : Fin 132, y_seg x_sgS (119 + k.val) = y_seg x_sgR k.val := by decide +kernel
section XR4
variable {EX : (Nat → Prop) → State → Heap → Prop} {l : Launch} {kc : Nat → ClassId} {D : va_G} {xb : Nat} {ad : Nat → Option Nat}
def rm_go (I L I' L' : xF) : Prop := ∀ M C, rm_nm M C I L → ∃ w T o d S, rm_st (r_b I) (I 209 2) M C w T o d S I' L' ∧ ∀ r, m_ans (r_b I) (I 209 2) M C (w, T, o, d, S) r → m_text (r_b I) (I 209 2) M C r
def rm_fin (I L I' _L' : xF) : Prop := (0 ≤ I' 209 40 ∧ I' 209 40 ≤ 44) ∧ ∀ M C, rm_nm M C I L → m_text (r_b I) (I 209 2) M C (.inr (I' 209 41)) ∧ I' 209 15 = 0
def xr_rsn : xPre := fun za I L => za = [xR 210] ∧ (0 ≤ I 209 2 ∧ I 209 2 ≤ 940) ∧ ∃ M C, rm_nm M C I L
def xo_rsn : xPost := fun _ I L rv I' _ => ∀ M C, rm_nm M C I L → ∃ r, m_text (r_b I) (I 209 2) M C r ∧ rv = some (.inl (m_rv r)) ∧ I' 209 15 = m_fl r
def x_rnI (za : List xV) (I L : xF) (m pc : Nat) (lv : List (Nat × xV)) (sv : List xV) (I' L' : xF) : Prop := sv = [] ∧ za = [xR 210] ∧
  ((pc = 48 ∧ lv = [(0, xR 210), (1, .inl 1)] ∧ (m : Int) = 1000 + ((20 - I' 209 41) * 100 + 2 * I' 209 42 + 3 * I' 209 44) ∧ rm_go I L I' L') ∨
   (rm_fin I L I' L' ∧ ((pc = 48 ∧ lv = [(0, xR 210), (1, .inl 0)] ∧ m = 500) ∨ ∃ i : Nat, pc = 145 ∧ lv = [(0, xR 210), (2, .inl (i : Int))] ∧ (i : Int) ≤ 3 * I' 209 40 ∧ m + i = 200)))
def x_cutS : Nat → Bool := fun pc => Nat.beq pc 48 || Nat.beq pc 145
def ct_rsn : List (Nat × Nat × xPre × xPost) := [(165, 0, xr_tn2, xo_tn2), (175, 1, xr_next, xo_next), (265, 1, xr_nt, xo_nt), (264, 1, xr_jn, xo_jn), (176, 0, xr_bad, xo_bad), (268, 2, xr_bhd, xo_bhd), (267, 3, xr_opd, xo_opd)]
theorem ct_rsn_ok (hE : z_EX EX) : x_ctok EX l zTB zNT kc D vwCl xb yTY ad yP0 (x_ctl ct_rsn) := x_ctl_cons (xk_tn2 hE) (x_ctl_cons (xk_next hE) (x_ctl_cons (xk_nt hE) (x_ctl_cons (xk_jn hE) (x_ctl_cons (xk_bad hE) (x_ctl_cons (xk_bhd hE) (x_ctl_cons (xk_opd hE) x_ctl_nil))))))
set_option maxRecDepth 20000 in
set_option maxHeartbeats 4000000 in
theorem xk_rsn (hE : z_EX EX) : x_Ok EX l zTB zNT kc D vwCl xb yTY ad yP0 269 4 xr_rsn xo_rsn := by
  refine x_loop (M := ym_X12_sentence) hE y_prog 100 rfl (by decide) (ct_rsn_ok hE) (fun za I L ⟨h, _⟩ => by subst h; exact (by decide : 1 ≤ 3)) x_cutS x_rnI (fun za I L ⟨h, ⟨h0, h1⟩, _⟩ => ?_) (fun za I L ⟨_, _, M0, C0, hMC0⟩ m pc lv sv I' L' hc hi => ?_)
  · subst h
    refine And.intro (by decide) ?_
    refine And.intro ⟨200, rfl, by decide, by decide⟩ ?_
    rintro rv I0 L0 ⟨m, hm, rfl, rfl, rfl⟩
    cases hm
    refine And.intro (by decide) ?_
    refine And.intro (by decide) ?_
    refine And.intro (by decide) ?_
    refine And.intro (by decide) ?_
    refine And.intro (by decide) ?_
    refine And.intro (by decide) ?_
    refine And.intro ⟨rfl, (by decide : (0 : Int) ≤ 0), h0, h1, (by decide : (0 : Int) ≤ 200), (by decide : (200 : Int) ≤ 940)⟩ ?_
    rintro rv I1 L1 ⟨rfl, f1, f2, f3⟩
    have f3 : r_tok (t_tok (r_b I) (I 209 2) 200 0) I1 L1 := f3
    have e40 : I1 209 40 = 0 := f1 209 40 rfl
    have e41 : I1 209 41 = 0 := f1 209 41 rfl
    have e42 : I1 209 42 = 0 := f1 209 42 rfl
    have e43 : I1 209 43 = 1 := f1 209 43 rfl
    have e44 : I1 209 44 = 0 := f1 209 44 rfl
    refine ⟨3000, [(0, xR 210), (1, .inl 1)], ⟨rfl, rfl, trivial⟩, rfl, rfl, Or.inl ⟨rfl, rfl, by omega, fun M C hMC => ⟨false, _, 0, 1, [], ⟨⟨(r_b_fi f1).trans rfl, f1 209 3 rfl, f1 209 5 rfl, ⟨h0, h1⟩, f1 209 15 rfl⟩, f3, ⟨0, Int.le_refl _, h0, rfl⟩, rm_nm_eq hMC (fun k => f1 211 k rfl) (fun k => f2 214 k rfl), ⟨e41, e43, e44⟩, ⟨⟨e42, (fun i x hx => by cases hx)⟩, (fun x hx => by cases hx), by omega, by rw [e40]; decide⟩, ⟨by decide, by decide, by rw [e40]; decide⟩, rfl⟩, fun r hr => hr⟩⟩⟩
  · obtain ⟨rfl, rfl, ⟨rfl, rfl, hm, hgo⟩ | ⟨hfin, ⟨rfl, rfl, rfl⟩ | ⟨i, rfl, rfl, hi, hm⟩⟩⟩ := hi
    · refine And.intro (fun q => absurd q (by decide)) (fun _ => ?_)
      intro w (hw : w = I' 209 44) (bw : 0 ≤ w ∧ w ≤ 1)
      have hgoF : w = 0 → ∀ M C, rm_nm M C I L → ∃ T o d S, rm_st (r_b I) (I 209 2) M C false T o d S I' L' ∧ ∀ r, m_ans (r_b I) (I 209 2) M C (false, T, o, d, S) r → m_text (r_b I) (I 209 2) M C r := fun h M C hMC => by
        obtain ⟨w0, T, o, d, S, hst, hm9⟩ := hgo M C hMC
        obtain rfl := m_wi_f (hst.2.2.2.2.1.2.2.symm.trans (hw.symm.trans h))
        exact ⟨T, o, d, S, hst, hm9⟩
      have hgoT : w ≠ 0 → ∀ M C, rm_nm M C I L → ∃ T o d S, rm_st (r_b I) (I 209 2) M C true T o d S I' L' ∧ ∀ r, m_ans (r_b I) (I 209 2) M C (true, T, o, d, S) r → m_text (r_b I) (I 209 2) M C r := fun h M C hMC => by
        obtain ⟨w0, T, o, d, S, hst, hm9⟩ := hgo M C hMC
        obtain rfl := m_wi_t (fun q => h (hw.trans (hst.2.2.2.2.1.2.2.trans q)))
        exact ⟨T, o, d, S, hst, hm9⟩
      refine And.intro ?_ ?_
      · intro t1
        intro w2 (hw2 : w2 = I' 209 44) _
        refine And.intro (fun t2 => ?_) (fun t2 => absurd (hw2.trans (hw.symm.trans t1)) t2)
        obtain ⟨T0, o0, d0, S0, hst0, _⟩ := hgoF t1 M0 C0 hMC0
        refine And.intro ⟨rfl, _, _, _, _, _, _, _, _, hst0⟩ ?_
        intro rv I1 L1 hp
        rcases rm_out_rv (hp _ _ _ _ _ _ _ _ hst0) with rfl | rfl
        · refine And.intro (fun q => absurd rfl q) (fun _ => ?_)
          intro z (hz : z = I1 209 16) (bz : 0 ≤ z ∧ z ≤ 940)
          refine Or.inl ⟨by omega, fun M C hMC => ?_⟩
          obtain ⟨T, o, d, S, hst, hm9⟩ := hgoF t1 M C hMC
          obtain ⟨at0, f, hr, g1, g2⟩ := rm_out_0 (hp _ _ _ _ _ _ _ _ hst)
          exact ⟨.inl (at0, f), hm9 _ (m_ans_end hr), by rw [hz, g2]; rfl, g1⟩
        · refine And.intro (fun _ => ?_) (fun q => absurd q (by decide))
          obtain ⟨w1, T1, o1, d1, S1, hr1, hst1⟩ := rm_out_1 (hp _ _ _ _ _ _ _ _ hst0)
          have hdn := m_op_dn hr1
          have a0 := hst0.2.2.2.2.1
          have a1 := hst1.2.2.2.2.1
          have c0 := hst0.2.2.2.2.2.1.1.1
          have c1 := hst1.2.2.2.2.2.1.1.1
          have o9 := hst1.2.2.2.2.2.2.1
          have hw1 : m_wi true = 1 := rfl
          have hw0 : m_wi false = 0 := rfl
          have hwb := m_wi_b w1
          have hlt : 0 ≤ 1000 + ((20 - I1 209 41) * 100 + 2 * I1 209 42 + 3 * I1 209 44) ∧ 1000 + ((20 - I1 209 41) * 100 + 2 * I1 209 42 + 3 * I1 209 44) < (m : Int) := by
            omega
          refine ⟨(1000 + ((20 - I1 209 41) * 100 + 2 * I1 209 42 + 3 * I1 209 44)).toNat, [(0, xR 210), (1, .inl 1)], by omega, ⟨rfl, rfl, trivial⟩, rfl, rfl, Or.inl ⟨rfl, rfl, by omega, fun M C hMC => ?_⟩⟩
          obtain ⟨T, o, d, S, hst, hm9⟩ := hgoF t1 M C hMC
          obtain ⟨w2, T2, o2, d2, S2, hr, hs⟩ := rm_out_1 (hp _ _ _ _ _ _ _ _ hst)
          exact ⟨w2, T2, o2, d2, S2, hs, fun r hr9 => hm9 r (m_ans_go hr hr9)⟩
      · intro t1
        intro k1 (hk1 : k1 = I' 209 11) (bk1 : 0 ≤ k1 ∧ k1 ≤ 4)
        refine And.intro ?_ ?_
        · intro t2
          intro w2 (hw2 : w2 = I' 209 44) _
          refine And.intro (fun t3 => absurd (hw.trans (hw2.symm.trans t3)) t1) (fun t3 => ?_)
          obtain ⟨T0, o0, d0, S0, hst0, _⟩ := hgoT t1 M0 C0 hMC0
          refine And.intro ⟨rfl, (fun q => t2 (hk1.trans q)), _, _, _, _, _, _, _, _, hst0⟩ ?_
          intro rv I1 L1 hp
          rcases rm_out_rv (hp _ _ _ _ _ _ _ _ hst0) with rfl | rfl
          · refine And.intro (fun q => absurd rfl q) (fun _ => ?_)
            intro z (hz : z = I1 209 16) (bz : 0 ≤ z ∧ z ≤ 940)
            refine Or.inl ⟨by omega, fun M C hMC => ?_⟩
            obtain ⟨T, o, d, S, hst, hm9⟩ := hgoT t1 M C hMC
            obtain ⟨at0, f, hr, g1, g2⟩ := rm_out_0 (hp _ _ _ _ _ _ _ _ hst)
            exact ⟨.inl (at0, f), hm9 _ (m_ans_end hr), by rw [hz, g2]; rfl, g1⟩
          · refine And.intro (fun _ => ?_) (fun q => absurd q (by decide))
            obtain ⟨w1, T1, o1, d1, S1, hr1, hst1⟩ := rm_out_1 (hp _ _ _ _ _ _ _ _ hst0)
            have hdn := m_bh_dn hr1
            have a0 := hst0.2.2.2.2.1
            have a1 := hst1.2.2.2.2.1
            have c0 := hst0.2.2.2.2.2.1.1.1
            have c1 := hst1.2.2.2.2.2.1.1.1
            have o9 := hst1.2.2.2.2.2.2.1
            have hw1 : m_wi true = 1 := rfl
            have hw0 : m_wi false = 0 := rfl
            have hwb := m_wi_b w1
            have hlt : 0 ≤ 1000 + ((20 - I1 209 41) * 100 + 2 * I1 209 42 + 3 * I1 209 44) ∧ 1000 + ((20 - I1 209 41) * 100 + 2 * I1 209 42 + 3 * I1 209 44) < (m : Int) := by
              rcases hdn with ⟨_, ⟨rfl, _⟩ | ⟨rfl, _⟩⟩ <;> omega
            refine ⟨(1000 + ((20 - I1 209 41) * 100 + 2 * I1 209 42 + 3 * I1 209 44)).toNat, [(0, xR 210), (1, .inl 1)], by omega, ⟨rfl, rfl, trivial⟩, rfl, rfl, Or.inl ⟨rfl, rfl, by omega, fun M C hMC => ?_⟩⟩
            obtain ⟨T, o, d, S, hst, hm9⟩ := hgoT t1 M C hMC
            obtain ⟨w2, T2, o2, d2, S2, hr, hs⟩ := rm_out_1 (hp _ _ _ _ _ _ _ _ hst)
            exact ⟨w2, T2, o2, d2, S2, hs, fun r hr9 => hm9 r (m_ans_go hr hr9)⟩
        · intro t2
          obtain ⟨T0, o0, d0, S0, hst0, _⟩ := hgoT t1 M0 C0 hMC0
          have a0 := hst0.2.2.2.2.1
          have c0 := hst0.2.2.2.2.2.1
          have o9 := hst0.2.2.2.2.2.2.1
          have hdc := hst0.2.2.2.2.2.2.2
          have hcb := m_cnt_b S0
          have c1 := c0.1.1
          have c2 := c0.2.2
          refine And.intro ⟨rfl, by omega, S0, c0⟩ ?_
          intro rv I1 L1 hp1
          have hn : ∀ {b : Nat → Int} {n : Int} {M C : List Int} {T : pT} {o d : Int} {S : List Nat}, rm_st b n M C true T o d S I' L' → rm_st b n M C true T o (m_nots d S).1 (m_nots d S).2 I1 L' := fun h => rm_nots h hp1
          obtain ⟨h9, e2, _⟩ := hp1
          subst h9
          subst e2
          refine And.intro ⟨22, rfl, Or.inr rfl, _, (hn hst0).2.2.2.2.2.1⟩ ?_
          intro rv I2 L2 hp2
          have hj : ∀ {b : Nat → Int} {n : Int} {M C : List Int} {T : pT} {o d : Int} {S : List Nat}, rm_st b n M C true T o d S I1 L1 → rm_st b n M C true T o d (m_joins 22 S) I2 L1 := fun h => rm_joins (t := 22) h hp2
          obtain ⟨h9, e2, _⟩ := hp2
          subst h9
          subst e2
          have hall : ∀ {b : Nat → Int} {n : Int} {M C : List Int} {T : pT} {o d : Int} {S : List Nat}, rm_st b n M C true T o d S I' L2 → T.1 = 0 ∧ rm_st b n M C true T o (m_nots d S).1 (m_joins 22 (m_nots d S).2) I2 L2 := fun h => ⟨(r_tok_end h.2.1).mp (hk1.symm.trans t2), hj (hn h)⟩
          intro z (hz : z = I2 209 42) (bz : 0 ≤ z ∧ z ≤ 44)
          refine And.intro ?_ ?_
          · intro t3
            have q40 := (hall hst0).2.2.2.2.2.2.1.2.2
            refine ⟨500, [(0, xR 210), (1, .inl 0)], by omega, ⟨rfl, rfl, trivial⟩, rfl, rfl, Or.inr ⟨⟨⟨q40.1, by omega⟩, fun M C hMC => ?_⟩, Or.inl ⟨rfl, rfl, rfl⟩⟩⟩
            obtain ⟨T, o, d, S, hst, hm9⟩ := hgoT t1 M C hMC
            obtain ⟨hT, h2⟩ := hall hst
            have hnil : m_joins 22 (m_nots d S).2 = [] := List.eq_nil_of_length_eq_zero (by have := h2.2.2.2.2.2.1.1.1; omega)
            refine ⟨hm9 _ (m_ans_end ?_), h2.1.2.2.2.2⟩
            rw [h2.2.2.2.2.1.1]
            exact m_bh_end hT hnil
          · intro t3
            refine And.intro ⟨1, rfl, by decide, by decide⟩ ?_
            rintro rv I9 L9 ⟨f, hf, rfl, rfl, rfl⟩
            cases hf
            intro z9 (hz9 : z9 = r_bad I2 1 209 16) (bz9 : 0 ≤ z9 ∧ z9 ≤ 940)
            refine Or.inl ⟨by omega, fun M C hMC => ?_⟩
            obtain ⟨T, o, d, S, hst, hm9⟩ := hgoT t1 M C hMC
            obtain ⟨hT, h2⟩ := hall hst
            have e : z9 = T.2.1 := hz9.trans h2.2.1.1
            exact ⟨.inl (T.2.1, 1), hm9 _ (m_ans_end (m_bh_open hT (fun q => by have := h2.2.2.2.2.2.1.1.1; rw [q] at this; exact absurd (hz.trans this) (by intro q9; rw [q9] at t3; exact absurd t3 (by decide))))), by rw [e]; rfl, rfl⟩
    · refine And.intro (fun _ => ?_) (fun q => absurd rfl q)
      intro c (hc2 : c = I' 209 40) (bc : 0 ≤ c ∧ c ≤ 44)
      refine And.intro (by decide) ?_
      refine And.intro (fun q hq => by cases hq; exact bc) ?_
      exact ⟨200, [(0, xR 210), (2, .inl ((0 : Nat) : Int))], by decide, ⟨rfl, rfl, trivial⟩, rfl, rfl, Or.inr ⟨⟨hfin.1, hfin.2⟩, Or.inr ⟨0, rfl, rfl, (show ((0 : Nat) : Int) ≤ 3 * I' 209 40 by omega), rfl⟩⟩⟩
    · intro c (hc2 : c = I' 209 40) (bc : 0 ≤ c ∧ c ≤ 44)
      refine Or.inl ⟨by omega, ?_⟩
      refine And.intro ?_ ?_
      · intro t1
        intro z (hz : z = I' 209 41) _
        exact fun M C hMC => ⟨.inr (I' 209 41), (hfin.2 M C hMC).1, by rw [hz]; rfl, (hfin.2 M C hMC).2⟩
      · intro t1
        have hti : ((i : Int)).toNat = i := by omega
        refine Or.inl ⟨by omega, ?_⟩
        refine And.intro (show 0 ≤ (i : Int) ∧ (i : Int) < 135 by omega) ?_
        intro v _ hvs
        refine And.intro (show 0 ≤ 119 + (i : Int) ∧ 119 + (i : Int) < 299 by omega) ?_
        refine And.intro (fun q hq => ?_) ?_
        · have hq : y_seg x_sgS (119 + (i : Int)).toNat = some q := hq
          rw [show (119 + (i : Int)).toNat = 119 + i by omega, x_sgSR ⟨i, by omega⟩] at hq
          exact hvs q (by
            show y_seg x_sgR ((i : Int)).toNat = some q
            rw [hti]
            exact hq)
        exact Or.inl ⟨by omega, m - 1, [(0, xR 210), (2, .inl ((i + 1 : Nat) : Int))], by omega, ⟨rfl, rfl, trivial⟩, rfl, rfl, Or.inr ⟨⟨hfin.1, hfin.2⟩, Or.inr ⟨i + 1, rfl, rfl, (show ((i + 1 : Nat) : Int) ≤ 3 * I' 209 40 by omega), by omega⟩⟩⟩
end XR4
/-- one answer of both -/
theorem m_text_det {b : Nat → Int} {n : Int} {M C : List Int} {r r' : mR} (h : m_text b n M C r) (h' : m_text b n M C r') : r = r' := m_ans_det h h'
