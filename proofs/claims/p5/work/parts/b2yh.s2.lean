/-! ===== the class reads ONES, ALLS, CONDS ===== -/
theorem sc_W1 : ∀ s ∈ m_W, ∃ w : Fin 24, 15 ≤ w.val ∧ x_W32[w.val]? = some s := by decide
theorem sc_W2 : ∀ w : Fin 24, 15 ≤ w.val → ∃ s ∈ m_W, x_W32[w.val]? = some s := by decide
theorem sc_ones {b : Nat → Int} {n : Int} {M C : List Int} {T : pT} {o : Int} {I L : xF} (h : sc_st b n M C T o I L) {z : Int} (hz : z = o) (h20 : o < 20) : sc_st b n M C T (o + 1) (x_u I 127 5 (z + 1)) L := by
  subst hz
  obtain ⟨h1, h2, h3, h4, h5⟩ := h
  exact ⟨h1, h2, h3, h4, x_u_s _ _ _ _, by omega, by omega⟩
theorem sc_01 (h : some (.inl 0 : xV) = some (.inl 1)) : False := absurd (Sum.inl.inj (Option.some.inj h)) (by decide)
theorem sc_10 (h : some (.inl 1 : xV) = some (.inl 0)) : False := absurd (Sum.inl.inj (Option.some.inj h)) (by decide)
def xr_rd (d : Int) : xPre := fun za I L => za = [xR 127, .inl d] ∧ ∃ b n M C T o, sc_st b n M C T o I L
def xo_one (d : Int) : xPost := fun _ I L rv I' L' => ∀ b n M C T o, sc_st b n M C T o I L → (rv = some (.inl 0) ∧ ∀ S, m_ans b n M C (false, T, o, d, S) (.inl (I' 1 10, I' 1 9))) ∨ (rv = some (.inl 1) ∧ ∃ T' o', sc_st b n M C T' o' I' L' ∧ o + 1 ≤ o' ∧ ∀ S r, m_ans b n M C (true, T', o', d, S) r → m_ans b n M C (false, T, o, d, S) r)
def xo_all (d : Int) : xPost := fun _ I L rv I' L' => ∀ b n M C T o, sc_st b n M C T o I L → (rv = some (.inl 0) ∧ ∀ S, m_q2 S → m_ans b n M C (false, T, o, d, S) (.inl (I' 1 10, I' 1 9))) ∨ (rv = some (.inl 1) ∧ ∃ T' o', sc_st b n M C T' o' I' L' ∧ o + 1 ≤ o' ∧ ¬ m_and T' ∧ ∀ S r, m_q2 S → m_ans b n M C (true, T', o', d, S) r → m_ans b n M C (true, T', o', d, 21 :: S) r → m_ans b n M C (false, T, o, d, S) r)
def xo_cond (d : Int) : xPost := fun _ I L rv I' L' => ∀ b n M C T o, sc_st b n M C T o I L → (rv = some (.inl 0) ∧ ∀ S, m_q S → m_ans b n M C (false, T, o, d, S) (.inl (I' 1 10, I' 1 9))) ∨ (rv = some (.inl 1) ∧ ∃ T' o', sc_st b n M C T' o' I' L' ∧ o + 1 ≤ o' ∧ ¬ m_and T' ∧ ¬ m_or T' ∧ ∀ S r, m_q S → m_ans b n M C (true, T', o', d, S) r → m_ans b n M C (false, T, o, d, S) r)
def sc_allI (d : Int) (_ : List xV) (I L : xF) (m pc : Nat) (lv : List (Nat × xV)) (sv : List xV) (I' L' : xF) : Prop := sv = [] ∧ pc = 12 ∧ ∃ k : Nat, k ≤ 20 ∧ m = 20 - k ∧ lv = [(0, xR 127), (1, .inl d), (2, .inl (k : Int))] ∧ ∀ b n M C T o, sc_st b n M C T o I L → ∃ T1 o1, sc_st b n M C T1 o1 I' L' ∧ o + 1 + k ≤ o1 ∧ ∀ S r, m_q2 S → m_ans b n M C (true, T1, o1, d, S) r → m_ans b n M C (true, T1, o1, d, 21 :: S) r → m_ans b n M C (false, T, o, d, S) r
def sc_condI (d : Int) (_ : List xV) (I L : xF) (m pc : Nat) (lv : List (Nat × xV)) (sv : List xV) (I' L' : xF) : Prop := sv = [] ∧ pc = 12 ∧ ∃ k : Nat, k ≤ 20 ∧ m = 20 - k ∧ lv = [(0, xR 127), (1, .inl d), (2, .inl (k : Int))] ∧ ∀ b n M C T o, sc_st b n M C T o I L → ∃ T1 o1, sc_st b n M C T1 o1 I' L' ∧ o + 1 + k ≤ o1 ∧ ¬ m_and T1 ∧ ∀ S r, m_q S → (∀ J, m_J J → m_ans b n M C (true, T1, o1, d, J ++ S) r) → m_ans b n M C (false, T, o, d, S) r
def sc_oneI (d : Int) (_ : List xV) (I L : xF) (m pc : Nat) (lv : List (Nat × xV)) (sv : List xV) (I' L' : xF) : Prop := sv = [] ∧ pc = 46 ∧ m = 0 ∧ I' = I ∧ L' = L ∧ ∃ br : Int, lv = [(0, xR 127), (1, .inl d), (2, .inl br)] ∧ ((br = 1 ∧ I' 1 6 = 5 ∧ I' 1 7 = 40) ∨ (br = 0 ∧ I' 1 6 = 2 ∧ 15 ≤ I' 1 7 ∧ I' 1 7 ≤ 23))
section XS2
variable {EX : (Nat → Prop) → State → Heap → Prop} {l : Launch} {kc : Nat → ClassId} {D : va_G} {xb : Nat} {ad : Nat → Option Nat}
set_option maxHeartbeats 4000000 in
theorem xn_one_9 (hE : z_EX EX) : x_Ok EX l zTB zNT kc D vwCl xb nTY ad yP0 65 4 (xr_rd 9) (xo_one 9) := by
  refine x_loop (ct := x_ctl [(109, 0, xr_sign, xo_isSign), (106, 0, xr_ref, xo_ref), (100, 1, xr_adv, xo_adv), (110, 2, xr_ts, xo_ts), (56, 0, xr_as, xo_as), (66, 3, xr_say, xo_say)]) (M := ym_X8_readOne) hE y_prog 80 rfl (by decide) (x_ctl_cons (xn_isSign hE) (x_ctl_cons (xn_ref hE) (x_ctl_cons (xn_adv hE) (x_ctl_cons (xn_ts hE) (x_ctl_cons (xn_as hE) (x_ctl_cons (xn_say hE) x_ctl_nil)))))) (fun za I L ⟨h, _⟩ => by subst h; exact (by decide : 2 ≤ 4)) (x_cut1 46) (sc_oneI 9) (fun za I L ⟨h, b, n, M, C, T, o, hst⟩ => ?_) (fun za I L ⟨_, b, n, M, C, T, o, hst⟩ m pc lv sv I' L' hc hi => ?_)
  · subst h
    refine And.intro ⟨40, rfl⟩ ?_
    rintro rv I1 L1 ⟨rfl, rfl, x, hx, ⟨g1, g2, rfl⟩ | ⟨g1, rfl⟩⟩
    · cases hx
      refine And.intro (fun _ => ?_) (fun q => absurd q (by decide))
      exact ⟨0, [(0, xR 127), (1, .inl 9), (2, .inl 1)], ⟨rfl, rfl, rfl, trivial⟩, rfl, rfl, rfl, rfl, rfl, 1, rfl, Or.inl ⟨rfl, g1, g2⟩⟩
    · cases hx
      refine And.intro (fun q => absurd rfl q) (fun _ => ?_)
      have hbad : ¬ (I1 1 6 = 2 ∧ 15 ≤ I1 1 7) → xo_one 9 [xR 127, .inl 9] I1 L1 (some (.inl 0)) (x_bad I1 1) L1 := fun hn b n M C T o hst => by
        refine Or.inl ⟨rfl, fun S => ?_⟩
        have h9 : I1 1 4 = T.2.1 := hst.2.1.1
        show m_ans b n M C (false, T, o, 9, S) (.inl (I1 1 4, 1))
        rw [h9]
        refine m_bad1 (fun q => ?_)
        rcases q with q | q
        · have hs := c_tok_sign hst.2.1
          have h8 := hs.1.mpr q.1
          exact g1 ⟨h8, (hs.2 h8).trans q.2⟩
        · obtain ⟨w, w1, w2⟩ := sc_W1 _ q.2
          have h8 := (c_tok_word hst.2.1 w2).mpr ⟨q.1, rfl⟩
          exact hn ⟨h8.1, by omega⟩
      intro k (hk : k = I1 1 6) _
      refine And.intro ?_ ?_
      · intro t1
        refine And.intro ⟨1, rfl, by decide, by decide⟩ ?_
        rintro rv I2 L2 ⟨f, hf, rfl, rfl, rfl⟩
        cases hf
        exact ⟨by decide, hbad (by omega)⟩
      · intro t1 v (hv : v = I1 1 7) _
        refine And.intro ?_ ?_
        · intro t2
          have h23 : I1 1 7 ≤ 23 := by
            rcases hst.2.1.2.2 with ⟨q1, q2⟩ | ⟨q1, q2⟩ | ⟨q1, q2, q3⟩ | ⟨q1, q2, q3⟩ | ⟨q1, q2, q3⟩
            · omega
            · omega
            · rcases q3 with ⟨w, w1, w2, w3⟩ | ⟨w1, w2⟩
              · have : w < 24 := (List.getElem?_eq_some_iff.mp w1).1
                omega
              · omega
            · omega
            · omega
          exact ⟨0, [(0, xR 127), (1, .inl 9), (2, .inl 0)], ⟨rfl, rfl, rfl, trivial⟩, rfl, rfl, rfl, rfl, rfl, 0, rfl, Or.inr ⟨rfl, by omega, by omega, h23⟩⟩
        · intro t2
          refine And.intro ⟨1, rfl, by decide, by decide⟩ ?_
          rintro rv I2 L2 ⟨f, hf, rfl, rfl, rfl⟩
          cases hf
          exact ⟨by decide, hbad (by omega)⟩
  · obtain ⟨rfl, rfl, rfl, rfl, rfl, br, rfl, hbr⟩ := hi
    have hone : ∀ {b : Nat → Int} {n : Int} {M C : List Int} {T : pT} {o : Int}, sc_st b n M C T o I' L' → m_one T := fun {b n M C T o} hst => by
      rcases hbr with ⟨_, q1, q2⟩ | ⟨_, q1, q2, q3⟩
      · have hs := c_tok_sign hst.2.1
        exact Or.inl ⟨hs.1.mp q1, by rw [← hs.2 q1]; exact q2⟩
      · obtain ⟨s, s1, s2⟩ := sc_W2 ⟨(I' 1 7).toNat, by omega⟩ (show 15 ≤ (I' 1 7).toNat by omega)
        have h8 := (c_tok_word hst.2.1 s2).mp ⟨q1, by dsimp only; omega⟩
        exact Or.inr ⟨h8.1, by rw [h8.2]; exact s1⟩
    intro z (hz : z = I' 127 5) (bz : 0 ≤ z ∧ z ≤ 20)
    have hzo : ∀ {b : Nat → Int} {n : Int} {M C : List Int} {T : pT} {o : Int}, sc_st b n M C T o I' L' → o = z := fun {b n M C T o} hst => by
      have := hst.2.2.2.2.1
      omega
    have hmany : (20 ≤ z ∨ (8 : Int) < 9) → xo_one 9 [xR 127, .inl 9] I' L' (some (.inl 0)) (x_bad I' 4) L' := fun hn b n M C T o hst => by
      refine Or.inl ⟨rfl, fun S => ?_⟩
      have h9 : I' 1 4 = T.2.1 := hst.2.1.1
      show m_ans b n M C (false, T, o, 9, S) (.inl (I' 1 4, 4))
      rw [h9]
      exact m_bad4 (hone hst) (by rw [hzo hst]; exact hn)
    refine And.intro ?_ ?_
    · intro t1
      refine And.intro ⟨4, rfl, by decide, by decide⟩ ?_
      rintro rv I2 L2 ⟨f, hf, rfl, rfl, rfl⟩
      cases hf
      exact ⟨by decide, hmany (Or.inl t1)⟩
    · intro t1
      refine And.intro ?_ ?_
      · intro t2
        exact absurd t2 (by decide)
      · intro t2
        refine And.intro ⟨4, rfl, by decide, by decide⟩ ?_
        rintro rv I2 L2 ⟨f, hf, rfl, rfl, rfl⟩
        cases hf
        exact ⟨by decide, hmany (Or.inr t2)⟩
set_option maxHeartbeats 4000000 in
theorem xn_all_9 (hE : z_EX EX) : x_Ok EX l zTB zNT kc D vwCl xb nTY ad yP0 64 5 (xr_rd 9) (xo_all 9) := by
  refine x_loop (ct := x_ctl [(65, 4, xr_rd 9, xo_one 9), (108, 0, xr_sign, xo_isWord), (100, 1, xr_adv, xo_adv), (56, 0, xr_as, xo_as)]) (M := ym_X8_readAll) hE y_prog 60 rfl (by decide) (x_ctl_cons (xn_one_9 hE) (x_ctl_cons (xn_isWord hE) (x_ctl_cons (xn_adv hE) (x_ctl_cons (xn_as hE) x_ctl_nil)))) (fun za I L ⟨h, _⟩ => by subst h; exact (by decide : 2 ≤ 3)) (x_cut1 12) (sc_allI 9) (fun za I L ⟨h, b, n, M, C, T, o, hst⟩ => ?_) (fun za I L ⟨_, b, n, M, C, T, o, hst⟩ m pc lv sv I' L' hc hi => ?_)
  · subst h
    refine And.intro ⟨rfl, b, n, M, C, T, o, hst⟩ ?_
    intro rv I1 L1 hp
    rcases hp b n M C T o hst with ⟨rfl, _⟩ | ⟨rfl, _⟩
    · refine And.intro (fun q => absurd rfl q) (fun _ => ?_)
      refine ⟨by decide, fun b n M C T o hst => Or.inl ⟨rfl, fun S hS => ?_⟩⟩
      rcases hp b n M C T o hst with ⟨_, h9⟩ | ⟨h9, _⟩
      · exact h9 S
      · exact (sc_01 h9).elim
    · refine And.intro (fun _ => ?_) (fun q => absurd q (by decide))
      refine ⟨20, [(0, xR 127), (1, .inl 9), (2, .inl ((0 : Nat) : Int))], ⟨rfl, rfl, rfl, trivial⟩, rfl, rfl, 0, by omega, rfl, rfl, fun b n M C T o hst => ?_⟩
      rcases hp b n M C T o hst with ⟨h9, _⟩ | ⟨_, T1, o1, g1, g2, g3⟩
      · exact (sc_10 h9).elim
      · exact ⟨T1, o1, g1, by omega, fun S r _ h1 _ => g3 S r h1⟩
  · obtain ⟨rfl, rfl, k, hk, rfl, rfl, hinv⟩ := hi
    obtain ⟨T0, o0, hst0, ho0, _⟩ := hinv b n M C T o hst
    have ho := hst.2.2.2.2.2.1
    have ho20 := hst0.2.2.2.2.2.2
    refine And.intro ?_ ?_
    · intro t1
      exfalso
      omega
    · intro t1
      refine And.intro ⟨14, rfl⟩ ?_
      rintro rv I1 L1 ⟨rfl, rfl, x, hx, ⟨g1, g2, rfl⟩ | ⟨g1, rfl⟩⟩
      · cases hx
        refine And.intro (fun q => absurd q (by decide)) (fun _ => ?_)
        have hbw : ∀ {b : Nat → Int} {n : Int} {M C : List Int} {T : pT} {o : Int}, sc_st b n M C T o I1 L1 → m_and T := fun h => (c_tok_word h.2.1 (w := 14) rfl).mp ⟨g1, g2⟩
        refine And.intro ⟨rfl, sc_bh hst0 (by have := (hbw hst0).1; omega)⟩ ?_
        intro rv I2 L2 hadv
        have h9 := hadv.1
        subst h9
        have hnx : ∀ {b : Nat → Int} {n : Int} {M C : List Int} {T : pT} {o : Int}, sc_st b n M C T o I1 L1 → sc_st b n M C (m_nx b n T) o I2 L2 := fun h => sc_adv (by have := (hbw h).1; omega) h hadv
        refine And.intro ⟨rfl, _, _, _, _, _, _, hnx hst0⟩ ?_
        intro rv I3 L3 hp
        rcases hp _ _ _ _ _ _ (hnx hst0) with ⟨rfl, _⟩ | ⟨rfl, _⟩
        · refine And.intro (fun q => absurd rfl q) (fun _ => ?_)
          refine ⟨by decide, fun b n M C T o hst => Or.inl ⟨rfl, fun S hS => ?_⟩⟩
          obtain ⟨T1, o1, q1, q2, q3⟩ := hinv b n M C T o hst
          rcases hp _ _ _ _ _ _ (hnx q1) with ⟨_, h9⟩ | ⟨h9, _⟩
          · have h8 := m_and_go hS (hbw q1) (h9 (21 :: S))
            exact q3 S _ hS h8.1 h8.2
          · exact (sc_01 h9).elim
        · refine And.intro (fun _ => ?_) (fun q => absurd q (by decide))
          refine And.intro ⟨14, 0, 0, rfl, by decide, by decide, by decide⟩ ?_
          rintro rv I4 L4 ⟨rfl, rfl, hf⟩
          refine Or.inl ⟨by omega, 20 - (k + 1), [(0, xR 127), (1, .inl 9), (2, .inl ((k + 1 : Nat) : Int))], by omega, ⟨rfl, rfl, rfl, trivial⟩, rfl, rfl, k + 1, by omega, rfl, rfl, fun b n M C T o hst => ?_⟩
          obtain ⟨T1, o1, q1, q2, q3⟩ := hinv b n M C T o hst
          rcases hp _ _ _ _ _ _ (hnx q1) with ⟨h9, _⟩ | ⟨_, T3, o3, p1, p2, p3⟩
          · exact (sc_10 h9).elim
          · refine ⟨T3, o3, sc_step p1 hf, by omega, fun S r hS r1 r2 => ?_⟩
            have h8 := m_and_go hS (hbw q1) (p3 (21 :: S) r r2)
            exact q3 S r hS h8.1 h8.2
      · cases hx
        refine And.intro (fun _ => ?_) (fun q => absurd rfl q)
        refine ⟨by decide, fun b n M C T o hst => Or.inr ⟨rfl, ?_⟩⟩
        obtain ⟨T1, o1, q1, q2, q3⟩ := hinv b n M C T o hst
        exact ⟨T1, o1, q1, by omega, fun q => g1 ((c_tok_word q1.2.1 (w := 14) rfl).mpr q), q3⟩
set_option maxHeartbeats 4000000 in
theorem xn_cond_9 (hE : z_EX EX) : x_Ok EX l zTB zNT kc D vwCl xb nTY ad yP0 63 6 (xr_rd 9) (xo_cond 9) := by
  refine x_loop (ct := x_ctl [(64, 5, xr_rd 9, xo_all 9), (108, 0, xr_sign, xo_isWord), (100, 1, xr_adv, xo_adv), (56, 0, xr_as, xo_as)]) (M := ym_X8_readCond) hE y_prog 60 rfl (by decide) (x_ctl_cons (xn_all_9 hE) (x_ctl_cons (xn_isWord hE) (x_ctl_cons (xn_adv hE) (x_ctl_cons (xn_as hE) x_ctl_nil)))) (fun za I L ⟨h, _⟩ => by subst h; exact (by decide : 2 ≤ 3)) (x_cut1 12) (sc_condI 9) (fun za I L ⟨h, b, n, M, C, T, o, hst⟩ => ?_) (fun za I L ⟨_, b, n, M, C, T, o, hst⟩ m pc lv sv I' L' hc hi => ?_)
  · subst h
    refine And.intro ⟨rfl, b, n, M, C, T, o, hst⟩ ?_
    intro rv I1 L1 hp
    rcases hp b n M C T o hst with ⟨rfl, _⟩ | ⟨rfl, _⟩
    · refine And.intro (fun q => absurd rfl q) (fun _ => ?_)
      refine ⟨by decide, fun b n M C T o hst => Or.inl ⟨rfl, fun S hS => ?_⟩⟩
      rcases hp b n M C T o hst with ⟨_, h9⟩ | ⟨h9, _⟩
      · exact h9 S (Or.inl hS)
      · exact (sc_01 h9).elim
    · refine And.intro (fun _ => ?_) (fun q => absurd q (by decide))
      refine ⟨20, [(0, xR 127), (1, .inl 9), (2, .inl ((0 : Nat) : Int))], ⟨rfl, rfl, rfl, trivial⟩, rfl, rfl, 0, by omega, rfl, rfl, fun b n M C T o hst => ?_⟩
      rcases hp b n M C T o hst with ⟨h9, _⟩ | ⟨_, T1, o1, g1, g2, g3, g4⟩
      · exact (sc_10 h9).elim
      · exact ⟨T1, o1, g1, by omega, g3, fun S r hS hJ => g4 S r (Or.inl hS) (hJ [] (Or.inl rfl)) (hJ [21] (Or.inr (Or.inl rfl)))⟩
  · obtain ⟨rfl, rfl, k, hk, rfl, rfl, hinv⟩ := hi
    obtain ⟨T0, o0, hst0, ho0, _⟩ := hinv b n M C T o hst
    have ho := hst.2.2.2.2.2.1
    have ho20 := hst0.2.2.2.2.2.2
    refine And.intro ?_ ?_
    · intro t1
      exfalso
      omega
    · intro t1
      refine And.intro ⟨13, rfl⟩ ?_
      rintro rv I1 L1 ⟨rfl, rfl, x, hx, ⟨g1, g2, rfl⟩ | ⟨g1, rfl⟩⟩
      · cases hx
        refine And.intro (fun q => absurd q (by decide)) (fun _ => ?_)
        have hbw : ∀ {b : Nat → Int} {n : Int} {M C : List Int} {T : pT} {o : Int}, sc_st b n M C T o I1 L1 → m_or T := fun h => (c_tok_word h.2.1 (w := 13) rfl).mp ⟨g1, g2⟩
        refine And.intro ⟨rfl, sc_bh hst0 (by have := (hbw hst0).1; omega)⟩ ?_
        intro rv I2 L2 hadv
        have h9 := hadv.1
        subst h9
        have hnx : ∀ {b : Nat → Int} {n : Int} {M C : List Int} {T : pT} {o : Int}, sc_st b n M C T o I1 L1 → sc_st b n M C (m_nx b n T) o I2 L2 := fun h => sc_adv (by have := (hbw h).1; omega) h hadv
        refine And.intro ⟨rfl, _, _, _, _, _, _, hnx hst0⟩ ?_
        intro rv I3 L3 hp
        rcases hp _ _ _ _ _ _ (hnx hst0) with ⟨rfl, _⟩ | ⟨rfl, _⟩
        · refine And.intro (fun q => absurd rfl q) (fun _ => ?_)
          refine ⟨by decide, fun b n M C T o hst => Or.inl ⟨rfl, fun S hS => ?_⟩⟩
          obtain ⟨T1, o1, q1, q2, q3, q4⟩ := hinv b n M C T o hst
          rcases hp _ _ _ _ _ _ (hnx q1) with ⟨_, h9⟩ | ⟨h9, _⟩
          · exact q4 S _ hS (fun J hJ => m_or_go hJ hS (hbw q1) (h9 (22 :: S) (Or.inr ⟨S, rfl⟩)))
          · exact (sc_01 h9).elim
        · refine And.intro (fun _ => ?_) (fun q => absurd q (by decide))
          refine And.intro ⟨13, 0, 0, rfl, by decide, by decide, by decide⟩ ?_
          rintro rv I4 L4 ⟨rfl, rfl, hf⟩
          refine Or.inl ⟨by omega, 20 - (k + 1), [(0, xR 127), (1, .inl 9), (2, .inl ((k + 1 : Nat) : Int))], by omega, ⟨rfl, rfl, rfl, trivial⟩, rfl, rfl, k + 1, by omega, rfl, rfl, fun b n M C T o hst => ?_⟩
          obtain ⟨T1, o1, q1, q2, q3, q4⟩ := hinv b n M C T o hst
          rcases hp _ _ _ _ _ _ (hnx q1) with ⟨h9, _⟩ | ⟨_, T3, o3, p1, p2, p3, p4⟩
          · exact (sc_10 h9).elim
          · exact ⟨T3, o3, sc_step p1 hf, by omega, p3, fun S r hS hJ3 => q4 S r hS (fun J hJ => m_or_go hJ hS (hbw q1) (p4 (22 :: S) r (Or.inr ⟨S, rfl⟩) (hJ3 [22] (Or.inr (Or.inr (Or.inl rfl)))) (hJ3 [21, 22] (Or.inr (Or.inr (Or.inr rfl))))))⟩
      · cases hx
        refine And.intro (fun _ => ?_) (fun q => absurd rfl q)
        refine ⟨by decide, fun b n M C T o hst => Or.inr ⟨rfl, ?_⟩⟩
        obtain ⟨T1, o1, q1, q2, q3, q4⟩ := hinv b n M C T o hst
        have hno : ¬ m_or T1 := fun q => g1 ((c_tok_word q1.2.1 (w := 13) rfl).mpr q)
        exact ⟨T1, o1, q1, by omega, q3, hno, fun S r hS h => q4 S r hS (fun J hJ => m_Jgo hJ hS q3 hno h)⟩
set_option maxHeartbeats 4000000 in
theorem xn_one_8 (hE : z_EX EX) : x_Ok EX l zTB zNT kc D vwCl xb nTY ad yP0 65 7 (xr_rd 8) (xo_one 8) := by
  refine x_loop (ct := x_ctl [(109, 0, xr_sign, xo_isSign), (106, 0, xr_ref, xo_ref), (100, 1, xr_adv, xo_adv), (110, 2, xr_ts, xo_ts), (56, 0, xr_as, xo_as), (66, 3, xr_say, xo_say), (63, 6, xr_rd 9, xo_cond 9), (65, 4, xr_rd 9, xo_one 9)]) (M := ym_X8_readOne) hE y_prog 80 rfl (by decide) (x_ctl_cons (xn_isSign hE) (x_ctl_cons (xn_ref hE) (x_ctl_cons (xn_adv hE) (x_ctl_cons (xn_ts hE) (x_ctl_cons (xn_as hE) (x_ctl_cons (xn_say hE) (x_ctl_cons (xn_cond_9 hE) (x_ctl_cons (xn_one_9 hE) x_ctl_nil)))))))) (fun za I L ⟨h, _⟩ => by subst h; exact (by decide : 2 ≤ 4)) (x_cut1 46) (sc_oneI 8) (fun za I L ⟨h, b, n, M, C, T, o, hst⟩ => ?_) (fun za I L ⟨_, b, n, M, C, T, o, hst⟩ m pc lv sv I' L' hc hi => ?_)
  · subst h
    refine And.intro ⟨40, rfl⟩ ?_
    rintro rv I1 L1 ⟨rfl, rfl, x, hx, ⟨g1, g2, rfl⟩ | ⟨g1, rfl⟩⟩
    · cases hx
      refine And.intro (fun _ => ?_) (fun q => absurd q (by decide))
      exact ⟨0, [(0, xR 127), (1, .inl 8), (2, .inl 1)], ⟨rfl, rfl, rfl, trivial⟩, rfl, rfl, rfl, rfl, rfl, 1, rfl, Or.inl ⟨rfl, g1, g2⟩⟩
    · cases hx
      refine And.intro (fun q => absurd rfl q) (fun _ => ?_)
      have hbad : ¬ (I1 1 6 = 2 ∧ 15 ≤ I1 1 7) → xo_one 8 [xR 127, .inl 8] I1 L1 (some (.inl 0)) (x_bad I1 1) L1 := fun hn b n M C T o hst => by
        refine Or.inl ⟨rfl, fun S => ?_⟩
        have h9 : I1 1 4 = T.2.1 := hst.2.1.1
        show m_ans b n M C (false, T, o, 8, S) (.inl (I1 1 4, 1))
        rw [h9]
        refine m_bad1 (fun q => ?_)
        rcases q with q | q
        · have hs := c_tok_sign hst.2.1
          have h8 := hs.1.mpr q.1
          exact g1 ⟨h8, (hs.2 h8).trans q.2⟩
        · obtain ⟨w, w1, w2⟩ := sc_W1 _ q.2
          have h8 := (c_tok_word hst.2.1 w2).mpr ⟨q.1, rfl⟩
          exact hn ⟨h8.1, by omega⟩
      intro k (hk : k = I1 1 6) _
      refine And.intro ?_ ?_
      · intro t1
        refine And.intro ⟨1, rfl, by decide, by decide⟩ ?_
        rintro rv I2 L2 ⟨f, hf, rfl, rfl, rfl⟩
        cases hf
        exact ⟨by decide, hbad (by omega)⟩
      · intro t1 v (hv : v = I1 1 7) _
        refine And.intro ?_ ?_
        · intro t2
          have h23 : I1 1 7 ≤ 23 := by
            rcases hst.2.1.2.2 with ⟨q1, q2⟩ | ⟨q1, q2⟩ | ⟨q1, q2, q3⟩ | ⟨q1, q2, q3⟩ | ⟨q1, q2, q3⟩
            · omega
            · omega
            · rcases q3 with ⟨w, w1, w2, w3⟩ | ⟨w1, w2⟩
              · have : w < 24 := (List.getElem?_eq_some_iff.mp w1).1
                omega
              · omega
            · omega
            · omega
          exact ⟨0, [(0, xR 127), (1, .inl 8), (2, .inl 0)], ⟨rfl, rfl, rfl, trivial⟩, rfl, rfl, rfl, rfl, rfl, 0, rfl, Or.inr ⟨rfl, by omega, by omega, h23⟩⟩
        · intro t2
          refine And.intro ⟨1, rfl, by decide, by decide⟩ ?_
          rintro rv I2 L2 ⟨f, hf, rfl, rfl, rfl⟩
          cases hf
          exact ⟨by decide, hbad (by omega)⟩
  · obtain ⟨rfl, rfl, rfl, rfl, rfl, br, rfl, hbr⟩ := hi
    have hone : ∀ {b : Nat → Int} {n : Int} {M C : List Int} {T : pT} {o : Int}, sc_st b n M C T o I' L' → m_one T := fun {b n M C T o} hst => by
      rcases hbr with ⟨_, q1, q2⟩ | ⟨_, q1, q2, q3⟩
      · have hs := c_tok_sign hst.2.1
        exact Or.inl ⟨hs.1.mp q1, by rw [← hs.2 q1]; exact q2⟩
      · obtain ⟨s, s1, s2⟩ := sc_W2 ⟨(I' 1 7).toNat, by omega⟩ (show 15 ≤ (I' 1 7).toNat by omega)
        have h8 := (c_tok_word hst.2.1 s2).mp ⟨q1, by dsimp only; omega⟩
        exact Or.inr ⟨h8.1, by rw [h8.2]; exact s1⟩
    intro z (hz : z = I' 127 5) (bz : 0 ≤ z ∧ z ≤ 20)
    have hzo : ∀ {b : Nat → Int} {n : Int} {M C : List Int} {T : pT} {o : Int}, sc_st b n M C T o I' L' → o = z := fun {b n M C T o} hst => by
      have := hst.2.2.2.2.1
      omega
    have hmany : (20 ≤ z ∨ (8 : Int) < 8) → xo_one 8 [xR 127, .inl 8] I' L' (some (.inl 0)) (x_bad I' 4) L' := fun hn b n M C T o hst => by
      refine Or.inl ⟨rfl, fun S => ?_⟩
      have h9 : I' 1 4 = T.2.1 := hst.2.1.1
      show m_ans b n M C (false, T, o, 8, S) (.inl (I' 1 4, 4))
      rw [h9]
      exact m_bad4 (hone hst) (by rw [hzo hst]; exact hn)
    refine And.intro ?_ ?_
    · intro t1
      refine And.intro ⟨4, rfl, by decide, by decide⟩ ?_
      rintro rv I2 L2 ⟨f, hf, rfl, rfl, rfl⟩
      cases hf
      exact ⟨by decide, hmany (Or.inl t1)⟩
    · intro t1
      refine And.intro ?_ ?_
      · intro t2
        have hno : ∀ {b : Nat → Int} {n : Int} {M C : List Int} {T : pT} {o : Int}, sc_st b n M C T o I' L' → ¬ (20 ≤ o ∨ (8 : Int) < 8) := fun {b n M C T o} hst => by
          have := hzo hst
          omega
        have hk2 : ∀ {b : Nat → Int} {n : Int} {M C : List Int} {T : pT} {o : Int}, sc_st b n M C T o I' L' → 2 ≤ T.1 := fun {b n M C T o} hst => by
          rcases hone hst with q | q <;> omega
        intro z3 (hz3 : z3 = I' 127 5) _
        refine Or.inl ⟨by omega, ?_⟩
        refine And.intro (show 0 ≤ z3 + 1 ∧ z3 + 1 ≤ 20 by omega) ?_
        intro w (hw : w = I' 1 7) _
        refine And.intro ⟨rfl, (show x_bh I' from sc_bh hst (hk2 hst))⟩ ?_
        intro rv I2 L2 hadv
        have h9 := hadv.1
        subst h9
        have hnx : ∀ {b : Nat → Int} {n : Int} {M C : List Int} {T : pT} {o : Int}, sc_st b n M C T o I' L' → sc_st b n M C (m_nx b n T) (o + 1) I2 L2 := fun {b n M C T o} hst => sc_adv (hk2 hst) (sc_ones hst (z := z3) (by have := hzo hst; omega) (by have := hzo hst; omega)) hadv
        refine And.intro ?_ ?_
        · intro t3
          rcases hbr with ⟨q, _⟩ | ⟨_, q1, q2, q3⟩
          · omega
          obtain ⟨s, hs⟩ : ∃ s, x_W32[w.toNat]? = some s := ⟨_, List.getElem?_eq_getElem (show w.toNat < x_W32.length by
            have : x_W32.length = 24 := rfl
            omega)⟩
          have hTs : ∀ {b : Nat → Int} {n : Int} {M C : List Int} {T : pT} {o : Int}, sc_st b n M C T o I' L' → T.1 = 2 ∧ T.2.2.2 = s := fun {b n M C T o} hst => (c_tok_word hst.2.1 hs).mp ⟨q1, by omega⟩
          refine And.intro ?_ ?_
          · intro t4
            have hsW : s ∈ m_W ∧ s ≠ 14836 := by
              have hv : w.toNat = 16 ∨ w.toNat = 17 ∨ w.toNat = 18 ∨ w.toNat = 19 ∨ w.toNat = 20 ∨ w.toNat = 21 ∨ w.toNat = 22 ∨ w.toNat = 23 := by omega
              rcases hv with hv | hv | hv | hv | hv | hv | hv | hv <;> (rw [hv] at hs; have h8 := Option.some.inj hs; subst h8; decide)
            have hza : ([xR 127, .inl w] : List xV) = [xR 127, .inl ((w.toNat : Nat) : Int)] := by rw [show ((w.toNat : Nat) : Int) = w by omega]
            refine And.intro ⟨w.toNat, hza, ⟨by omega, by omega⟩, _, _, _, _, _, _, hnx hst⟩ ?_
            intro rv I3 L3 hp
            obtain ⟨nu, _, rfl⟩ := hp w.toNat hza s hs _ _ _ _ _ _ (hnx hst)
            refine ⟨by split <;> decide, fun b n M C T o hst => ?_⟩
            obtain ⟨nu2, hlf2, e2⟩ := hp w.toNat hza s hs _ _ _ _ _ _ (hnx hst)
            have hT := hTs hst
            have hmf := fun (S : List Nat) => m_lf (b := b) (n := n) (M := M) (C := C) (T := T) (o := o) (d := 8) (S := S) (show T.1 = 2 ∧ T.2.2.2 ∈ m_W ∧ T.2.2.2 ≠ 14836 from ⟨hT.1, by rw [hT.2]; exact hsW.1, by rw [hT.2]; exact hsW.2⟩) (hno hst)
            rcases hr : m_leaf b n M C s (m_nx b n T) with ⟨at0, f⟩ | T'
            · rw [hr] at hlf2
              obtain ⟨l0, l1, l2⟩ := hlf2
              refine Or.inl ⟨by rw [e2, if_pos l0], fun S => ?_⟩
              rw [l1, l2]
              exact (hmf S).1 _ (by rw [hT.2]; exact hr)
            · rw [hr] at hlf2
              obtain ⟨l0, l1, l2⟩ := hlf2
              exact Or.inr ⟨by rw [e2, if_neg (by omega)], T', o + 1, l2, Int.le_refl _, fun S r h => (hmf S).2 T' r (by rw [hT.2]; exact hr) h⟩
          · intro t4
            have hs15 : s = 14836 := by
              have hv : w.toNat = 15 := by omega
              rw [hv] at hs
              exact (Option.some.inj hs).symm
            refine Or.inl ⟨by decide, ?_⟩
            refine And.intro ⟨rfl, _, _, _, _, _, _, hnx hst⟩ ?_
            intro rv I3 L3 hp
            rcases hp _ _ _ _ _ _ (hnx hst) with ⟨rfl, _⟩ | ⟨rfl, _⟩
            · refine And.intro (fun q => absurd rfl q) (fun _ => ?_)
              refine ⟨by decide, fun b n M C T o hst => Or.inl ⟨rfl, fun S => ?_⟩⟩
              rcases hp _ _ _ _ _ _ (hnx hst) with ⟨_, h9⟩ | ⟨h9, _⟩
              · exact m_nt (hno hst) ⟨(hTs hst).1, (hTs hst).2.trans hs15⟩ (h9 (20 :: S))
              · exact (sc_01 h9).elim
            · refine And.intro (fun _ => ?_) (fun q => absurd q (by decide))
              refine And.intro ⟨15, 0, 0, rfl, by decide, by decide, by decide⟩ ?_
              rintro rv I4 L4 ⟨rfl, rfl, hf⟩
              refine ⟨by decide, fun b n M C T o hst => Or.inr ⟨rfl, ?_⟩⟩
              rcases hp _ _ _ _ _ _ (hnx hst) with ⟨h9, _⟩ | ⟨_, T3, o3, p1, p2, p3⟩
              · exact (sc_10 h9).elim
              · exact ⟨T3, o3, sc_step p1 hf, by omega, fun S r h => m_nt (hno hst) ⟨(hTs hst).1, (hTs hst).2.trans hs15⟩ (p3 (20 :: S) r (m_not h))⟩
        · intro t3
          rcases hbr with ⟨_, q1, q2⟩ | ⟨q, _⟩
          rotate_left
          · exact absurd q t3
          have hTs : ∀ {b : Nat → Int} {n : Int} {M C : List Int} {T : pT} {o : Int}, sc_st b n M C T o I' L' → T.1 = 5 := fun {b n M C T o} hst => (c_tok_sign hst.2.1).1.mp q1
          refine Or.inl ⟨by decide, ?_⟩
          refine And.intro ⟨rfl, _, _, _, _, _, _, hnx hst⟩ ?_
          intro rv I3 L3 hp
          rcases hp _ _ _ _ _ _ (hnx hst) with ⟨rfl, _⟩ | ⟨rfl, T0, o0, hst0, _⟩
          · refine And.intro (fun _ => ?_) (fun q => absurd rfl q)
            refine ⟨by decide, fun b n M C T o hst => Or.inl ⟨rfl, fun S => ?_⟩⟩
            rcases hp _ _ _ _ _ _ (hnx hst) with ⟨_, h9⟩ | ⟨h9, _⟩
            · exact m_open (hone hst) (hno hst) (hTs hst) (h9 (23 :: S) (Or.inr ⟨S, rfl⟩))
            · exact (sc_01 h9).elim
          · refine And.intro (fun q => absurd q (by decide)) (fun _ => ?_)
            refine And.intro ⟨41, rfl, fun q => sc_bh hst0 (by have := (c_tok_sign hst0.2.1).1.mp q; omega)⟩ ?_
            rintro rv I4 L4 ⟨x, hx, ⟨g1, g2, rfl, hadv4⟩ | ⟨g1, rfl, g3, g4⟩⟩
            · cases hx
              refine And.intro (fun q => absurd q (by decide)) (fun _ => ?_)
              refine ⟨by decide, fun b n M C T o hst => Or.inr ⟨rfl, ?_⟩⟩
              rcases hp _ _ _ _ _ _ (hnx hst) with ⟨h9, _⟩ | ⟨_, T3, o3, p1, p2, p3, p4, p5⟩
              · exact (sc_10 h9).elim
              · have hs := c_tok_sign p1.2.1
                exact ⟨m_nx b n T3, o3, sc_adv (by have := hs.1.mp g1; omega) p1 hadv4, by omega, fun S r h => m_open (hone hst) (hno hst) (hTs hst) (p5 (23 :: S) r (Or.inr ⟨S, rfl⟩) (m_close ⟨hs.1.mp g1, (hs.2 g1).symm.trans g2⟩ h))⟩
            · cases hx
              subst g3
              subst g4
              refine And.intro (fun _ => ?_) (fun q => absurd rfl q)
              refine ⟨by decide, fun b n M C T o hst => Or.inl ⟨rfl, fun S => ?_⟩⟩
              rcases hp _ _ _ _ _ _ (hnx hst) with ⟨h9, _⟩ | ⟨_, T3, o3, p1, p2, p3, p4, p5⟩
              · exact (sc_10 h9).elim
              · have hs := c_tok_sign p1.2.1
                have h9 : I3 1 4 = T3.2.1 := p1.2.1.1
                show m_ans b n M C (false, T, o, 8, S) (.inl (I3 1 4, 1))
                rw [h9]
                exact m_open (hone hst) (hno hst) (hTs hst) (p5 (23 :: S) _ (Or.inr ⟨S, rfl⟩) (m_noclose p3 p4 (fun q => g1 ⟨hs.1.mpr q.1, (hs.2 (hs.1.mpr q.1)).trans q.2⟩)))
      · intro t2
        refine And.intro ⟨4, rfl, by decide, by decide⟩ ?_
        rintro rv I2 L2 ⟨f, hf, rfl, rfl, rfl⟩
        cases hf
        exact ⟨by decide, hmany (Or.inr t2)⟩
set_option maxHeartbeats 4000000 in
theorem xn_all_8 (hE : z_EX EX) : x_Ok EX l zTB zNT kc D vwCl xb nTY ad yP0 64 8 (xr_rd 8) (xo_all 8) := by
  refine x_loop (ct := x_ctl [(65, 7, xr_rd 8, xo_one 8), (108, 0, xr_sign, xo_isWord), (100, 1, xr_adv, xo_adv), (56, 0, xr_as, xo_as)]) (M := ym_X8_readAll) hE y_prog 60 rfl (by decide) (x_ctl_cons (xn_one_8 hE) (x_ctl_cons (xn_isWord hE) (x_ctl_cons (xn_adv hE) (x_ctl_cons (xn_as hE) x_ctl_nil)))) (fun za I L ⟨h, _⟩ => by subst h; exact (by decide : 2 ≤ 3)) (x_cut1 12) (sc_allI 8) (fun za I L ⟨h, b, n, M, C, T, o, hst⟩ => ?_) (fun za I L ⟨_, b, n, M, C, T, o, hst⟩ m pc lv sv I' L' hc hi => ?_)
  · subst h
    refine And.intro ⟨rfl, b, n, M, C, T, o, hst⟩ ?_
    intro rv I1 L1 hp
    rcases hp b n M C T o hst with ⟨rfl, _⟩ | ⟨rfl, _⟩
    · refine And.intro (fun q => absurd rfl q) (fun _ => ?_)
      refine ⟨by decide, fun b n M C T o hst => Or.inl ⟨rfl, fun S hS => ?_⟩⟩
      rcases hp b n M C T o hst with ⟨_, h9⟩ | ⟨h9, _⟩
      · exact h9 S
      · exact (sc_01 h9).elim
    · refine And.intro (fun _ => ?_) (fun q => absurd q (by decide))
      refine ⟨20, [(0, xR 127), (1, .inl 8), (2, .inl ((0 : Nat) : Int))], ⟨rfl, rfl, rfl, trivial⟩, rfl, rfl, 0, by omega, rfl, rfl, fun b n M C T o hst => ?_⟩
      rcases hp b n M C T o hst with ⟨h9, _⟩ | ⟨_, T1, o1, g1, g2, g3⟩
      · exact (sc_10 h9).elim
      · exact ⟨T1, o1, g1, by omega, fun S r _ h1 _ => g3 S r h1⟩
  · obtain ⟨rfl, rfl, k, hk, rfl, rfl, hinv⟩ := hi
    obtain ⟨T0, o0, hst0, ho0, _⟩ := hinv b n M C T o hst
    have ho := hst.2.2.2.2.2.1
    have ho20 := hst0.2.2.2.2.2.2
    refine And.intro ?_ ?_
    · intro t1
      exfalso
      omega
    · intro t1
      refine And.intro ⟨14, rfl⟩ ?_
      rintro rv I1 L1 ⟨rfl, rfl, x, hx, ⟨g1, g2, rfl⟩ | ⟨g1, rfl⟩⟩
      · cases hx
        refine And.intro (fun q => absurd q (by decide)) (fun _ => ?_)
        have hbw : ∀ {b : Nat → Int} {n : Int} {M C : List Int} {T : pT} {o : Int}, sc_st b n M C T o I1 L1 → m_and T := fun h => (c_tok_word h.2.1 (w := 14) rfl).mp ⟨g1, g2⟩
        refine And.intro ⟨rfl, sc_bh hst0 (by have := (hbw hst0).1; omega)⟩ ?_
        intro rv I2 L2 hadv
        have h9 := hadv.1
        subst h9
        have hnx : ∀ {b : Nat → Int} {n : Int} {M C : List Int} {T : pT} {o : Int}, sc_st b n M C T o I1 L1 → sc_st b n M C (m_nx b n T) o I2 L2 := fun h => sc_adv (by have := (hbw h).1; omega) h hadv
        refine And.intro ⟨rfl, _, _, _, _, _, _, hnx hst0⟩ ?_
        intro rv I3 L3 hp
        rcases hp _ _ _ _ _ _ (hnx hst0) with ⟨rfl, _⟩ | ⟨rfl, _⟩
        · refine And.intro (fun q => absurd rfl q) (fun _ => ?_)
          refine ⟨by decide, fun b n M C T o hst => Or.inl ⟨rfl, fun S hS => ?_⟩⟩
          obtain ⟨T1, o1, q1, q2, q3⟩ := hinv b n M C T o hst
          rcases hp _ _ _ _ _ _ (hnx q1) with ⟨_, h9⟩ | ⟨h9, _⟩
          · have h8 := m_and_go hS (hbw q1) (h9 (21 :: S))
            exact q3 S _ hS h8.1 h8.2
          · exact (sc_01 h9).elim
        · refine And.intro (fun _ => ?_) (fun q => absurd q (by decide))
          refine And.intro ⟨14, 0, 0, rfl, by decide, by decide, by decide⟩ ?_
          rintro rv I4 L4 ⟨rfl, rfl, hf⟩
          refine Or.inl ⟨by omega, 20 - (k + 1), [(0, xR 127), (1, .inl 8), (2, .inl ((k + 1 : Nat) : Int))], by omega, ⟨rfl, rfl, rfl, trivial⟩, rfl, rfl, k + 1, by omega, rfl, rfl, fun b n M C T o hst => ?_⟩
          obtain ⟨T1, o1, q1, q2, q3⟩ := hinv b n M C T o hst
          rcases hp _ _ _ _ _ _ (hnx q1) with ⟨h9, _⟩ | ⟨_, T3, o3, p1, p2, p3⟩
          · exact (sc_10 h9).elim
          · refine ⟨T3, o3, sc_step p1 hf, by omega, fun S r hS r1 r2 => ?_⟩
            have h8 := m_and_go hS (hbw q1) (p3 (21 :: S) r r2)
            exact q3 S r hS h8.1 h8.2
      · cases hx
        refine And.intro (fun _ => ?_) (fun q => absurd rfl q)
        refine ⟨by decide, fun b n M C T o hst => Or.inr ⟨rfl, ?_⟩⟩
        obtain ⟨T1, o1, q1, q2, q3⟩ := hinv b n M C T o hst
        exact ⟨T1, o1, q1, by omega, fun q => g1 ((c_tok_word q1.2.1 (w := 14) rfl).mpr q), q3⟩
set_option maxHeartbeats 4000000 in
theorem xn_cond_8 (hE : z_EX EX) : x_Ok EX l zTB zNT kc D vwCl xb nTY ad yP0 63 9 (xr_rd 8) (xo_cond 8) := by
  refine x_loop (ct := x_ctl [(64, 8, xr_rd 8, xo_all 8), (108, 0, xr_sign, xo_isWord), (100, 1, xr_adv, xo_adv), (56, 0, xr_as, xo_as)]) (M := ym_X8_readCond) hE y_prog 60 rfl (by decide) (x_ctl_cons (xn_all_8 hE) (x_ctl_cons (xn_isWord hE) (x_ctl_cons (xn_adv hE) (x_ctl_cons (xn_as hE) x_ctl_nil)))) (fun za I L ⟨h, _⟩ => by subst h; exact (by decide : 2 ≤ 3)) (x_cut1 12) (sc_condI 8) (fun za I L ⟨h, b, n, M, C, T, o, hst⟩ => ?_) (fun za I L ⟨_, b, n, M, C, T, o, hst⟩ m pc lv sv I' L' hc hi => ?_)
  · subst h
    refine And.intro ⟨rfl, b, n, M, C, T, o, hst⟩ ?_
    intro rv I1 L1 hp
    rcases hp b n M C T o hst with ⟨rfl, _⟩ | ⟨rfl, _⟩
    · refine And.intro (fun q => absurd rfl q) (fun _ => ?_)
      refine ⟨by decide, fun b n M C T o hst => Or.inl ⟨rfl, fun S hS => ?_⟩⟩
      rcases hp b n M C T o hst with ⟨_, h9⟩ | ⟨h9, _⟩
      · exact h9 S (Or.inl hS)
      · exact (sc_01 h9).elim
    · refine And.intro (fun _ => ?_) (fun q => absurd q (by decide))
      refine ⟨20, [(0, xR 127), (1, .inl 8), (2, .inl ((0 : Nat) : Int))], ⟨rfl, rfl, rfl, trivial⟩, rfl, rfl, 0, by omega, rfl, rfl, fun b n M C T o hst => ?_⟩
      rcases hp b n M C T o hst with ⟨h9, _⟩ | ⟨_, T1, o1, g1, g2, g3, g4⟩
      · exact (sc_10 h9).elim
      · exact ⟨T1, o1, g1, by omega, g3, fun S r hS hJ => g4 S r (Or.inl hS) (hJ [] (Or.inl rfl)) (hJ [21] (Or.inr (Or.inl rfl)))⟩
  · obtain ⟨rfl, rfl, k, hk, rfl, rfl, hinv⟩ := hi
    obtain ⟨T0, o0, hst0, ho0, _⟩ := hinv b n M C T o hst
    have ho := hst.2.2.2.2.2.1
    have ho20 := hst0.2.2.2.2.2.2
    refine And.intro ?_ ?_
    · intro t1
      exfalso
      omega
    · intro t1
      refine And.intro ⟨13, rfl⟩ ?_
      rintro rv I1 L1 ⟨rfl, rfl, x, hx, ⟨g1, g2, rfl⟩ | ⟨g1, rfl⟩⟩
      · cases hx
        refine And.intro (fun q => absurd q (by decide)) (fun _ => ?_)
        have hbw : ∀ {b : Nat → Int} {n : Int} {M C : List Int} {T : pT} {o : Int}, sc_st b n M C T o I1 L1 → m_or T := fun h => (c_tok_word h.2.1 (w := 13) rfl).mp ⟨g1, g2⟩
        refine And.intro ⟨rfl, sc_bh hst0 (by have := (hbw hst0).1; omega)⟩ ?_
        intro rv I2 L2 hadv
        have h9 := hadv.1
        subst h9
        have hnx : ∀ {b : Nat → Int} {n : Int} {M C : List Int} {T : pT} {o : Int}, sc_st b n M C T o I1 L1 → sc_st b n M C (m_nx b n T) o I2 L2 := fun h => sc_adv (by have := (hbw h).1; omega) h hadv
        refine And.intro ⟨rfl, _, _, _, _, _, _, hnx hst0⟩ ?_
        intro rv I3 L3 hp
        rcases hp _ _ _ _ _ _ (hnx hst0) with ⟨rfl, _⟩ | ⟨rfl, _⟩
        · refine And.intro (fun q => absurd rfl q) (fun _ => ?_)
          refine ⟨by decide, fun b n M C T o hst => Or.inl ⟨rfl, fun S hS => ?_⟩⟩
          obtain ⟨T1, o1, q1, q2, q3, q4⟩ := hinv b n M C T o hst
          rcases hp _ _ _ _ _ _ (hnx q1) with ⟨_, h9⟩ | ⟨h9, _⟩
          · exact q4 S _ hS (fun J hJ => m_or_go hJ hS (hbw q1) (h9 (22 :: S) (Or.inr ⟨S, rfl⟩)))
          · exact (sc_01 h9).elim
        · refine And.intro (fun _ => ?_) (fun q => absurd q (by decide))
          refine And.intro ⟨13, 0, 0, rfl, by decide, by decide, by decide⟩ ?_
          rintro rv I4 L4 ⟨rfl, rfl, hf⟩
          refine Or.inl ⟨by omega, 20 - (k + 1), [(0, xR 127), (1, .inl 8), (2, .inl ((k + 1 : Nat) : Int))], by omega, ⟨rfl, rfl, rfl, trivial⟩, rfl, rfl, k + 1, by omega, rfl, rfl, fun b n M C T o hst => ?_⟩
          obtain ⟨T1, o1, q1, q2, q3, q4⟩ := hinv b n M C T o hst
          rcases hp _ _ _ _ _ _ (hnx q1) with ⟨h9, _⟩ | ⟨_, T3, o3, p1, p2, p3, p4⟩
          · exact (sc_10 h9).elim
          · exact ⟨T3, o3, sc_step p1 hf, by omega, p3, fun S r hS hJ3 => q4 S r hS (fun J hJ => m_or_go hJ hS (hbw q1) (p4 (22 :: S) r (Or.inr ⟨S, rfl⟩) (hJ3 [22] (Or.inr (Or.inr (Or.inl rfl)))) (hJ3 [21, 22] (Or.inr (Or.inr (Or.inr rfl))))))⟩
      · cases hx
        refine And.intro (fun _ => ?_) (fun q => absurd rfl q)
        refine ⟨by decide, fun b n M C T o hst => Or.inr ⟨rfl, ?_⟩⟩
        obtain ⟨T1, o1, q1, q2, q3, q4⟩ := hinv b n M C T o hst
        have hno : ¬ m_or T1 := fun q => g1 ((c_tok_word q1.2.1 (w := 13) rfl).mpr q)
        exact ⟨T1, o1, q1, by omega, q3, hno, fun S r hS h => q4 S r hS (fun J hJ => m_Jgo hJ hS q3 hno h)⟩
set_option maxHeartbeats 4000000 in
theorem xn_one_7 (hE : z_EX EX) : x_Ok EX l zTB zNT kc D vwCl xb nTY ad yP0 65 10 (xr_rd 7) (xo_one 7) := by
  refine x_loop (ct := x_ctl [(109, 0, xr_sign, xo_isSign), (106, 0, xr_ref, xo_ref), (100, 1, xr_adv, xo_adv), (110, 2, xr_ts, xo_ts), (56, 0, xr_as, xo_as), (66, 3, xr_say, xo_say), (63, 9, xr_rd 8, xo_cond 8), (65, 7, xr_rd 8, xo_one 8)]) (M := ym_X8_readOne) hE y_prog 80 rfl (by decide) (x_ctl_cons (xn_isSign hE) (x_ctl_cons (xn_ref hE) (x_ctl_cons (xn_adv hE) (x_ctl_cons (xn_ts hE) (x_ctl_cons (xn_as hE) (x_ctl_cons (xn_say hE) (x_ctl_cons (xn_cond_8 hE) (x_ctl_cons (xn_one_8 hE) x_ctl_nil)))))))) (fun za I L ⟨h, _⟩ => by subst h; exact (by decide : 2 ≤ 4)) (x_cut1 46) (sc_oneI 7) (fun za I L ⟨h, b, n, M, C, T, o, hst⟩ => ?_) (fun za I L ⟨_, b, n, M, C, T, o, hst⟩ m pc lv sv I' L' hc hi => ?_)
  · subst h
    refine And.intro ⟨40, rfl⟩ ?_
    rintro rv I1 L1 ⟨rfl, rfl, x, hx, ⟨g1, g2, rfl⟩ | ⟨g1, rfl⟩⟩
    · cases hx
      refine And.intro (fun _ => ?_) (fun q => absurd q (by decide))
      exact ⟨0, [(0, xR 127), (1, .inl 7), (2, .inl 1)], ⟨rfl, rfl, rfl, trivial⟩, rfl, rfl, rfl, rfl, rfl, 1, rfl, Or.inl ⟨rfl, g1, g2⟩⟩
    · cases hx
      refine And.intro (fun q => absurd rfl q) (fun _ => ?_)
      have hbad : ¬ (I1 1 6 = 2 ∧ 15 ≤ I1 1 7) → xo_one 7 [xR 127, .inl 7] I1 L1 (some (.inl 0)) (x_bad I1 1) L1 := fun hn b n M C T o hst => by
        refine Or.inl ⟨rfl, fun S => ?_⟩
        have h9 : I1 1 4 = T.2.1 := hst.2.1.1
        show m_ans b n M C (false, T, o, 7, S) (.inl (I1 1 4, 1))
        rw [h9]
        refine m_bad1 (fun q => ?_)
        rcases q with q | q
        · have hs := c_tok_sign hst.2.1
          have h8 := hs.1.mpr q.1
          exact g1 ⟨h8, (hs.2 h8).trans q.2⟩
        · obtain ⟨w, w1, w2⟩ := sc_W1 _ q.2
          have h8 := (c_tok_word hst.2.1 w2).mpr ⟨q.1, rfl⟩
          exact hn ⟨h8.1, by omega⟩
      intro k (hk : k = I1 1 6) _
      refine And.intro ?_ ?_
      · intro t1
        refine And.intro ⟨1, rfl, by decide, by decide⟩ ?_
        rintro rv I2 L2 ⟨f, hf, rfl, rfl, rfl⟩
        cases hf
        exact ⟨by decide, hbad (by omega)⟩
      · intro t1 v (hv : v = I1 1 7) _
        refine And.intro ?_ ?_
        · intro t2
          have h23 : I1 1 7 ≤ 23 := by
            rcases hst.2.1.2.2 with ⟨q1, q2⟩ | ⟨q1, q2⟩ | ⟨q1, q2, q3⟩ | ⟨q1, q2, q3⟩ | ⟨q1, q2, q3⟩
            · omega
            · omega
            · rcases q3 with ⟨w, w1, w2, w3⟩ | ⟨w1, w2⟩
              · have : w < 24 := (List.getElem?_eq_some_iff.mp w1).1
                omega
              · omega
            · omega
            · omega
          exact ⟨0, [(0, xR 127), (1, .inl 7), (2, .inl 0)], ⟨rfl, rfl, rfl, trivial⟩, rfl, rfl, rfl, rfl, rfl, 0, rfl, Or.inr ⟨rfl, by omega, by omega, h23⟩⟩
        · intro t2
          refine And.intro ⟨1, rfl, by decide, by decide⟩ ?_
          rintro rv I2 L2 ⟨f, hf, rfl, rfl, rfl⟩
          cases hf
          exact ⟨by decide, hbad (by omega)⟩
  · obtain ⟨rfl, rfl, rfl, rfl, rfl, br, rfl, hbr⟩ := hi
    have hone : ∀ {b : Nat → Int} {n : Int} {M C : List Int} {T : pT} {o : Int}, sc_st b n M C T o I' L' → m_one T := fun {b n M C T o} hst => by
      rcases hbr with ⟨_, q1, q2⟩ | ⟨_, q1, q2, q3⟩
      · have hs := c_tok_sign hst.2.1
        exact Or.inl ⟨hs.1.mp q1, by rw [← hs.2 q1]; exact q2⟩
      · obtain ⟨s, s1, s2⟩ := sc_W2 ⟨(I' 1 7).toNat, by omega⟩ (show 15 ≤ (I' 1 7).toNat by omega)
        have h8 := (c_tok_word hst.2.1 s2).mp ⟨q1, by dsimp only; omega⟩
        exact Or.inr ⟨h8.1, by rw [h8.2]; exact s1⟩
    intro z (hz : z = I' 127 5) (bz : 0 ≤ z ∧ z ≤ 20)
    have hzo : ∀ {b : Nat → Int} {n : Int} {M C : List Int} {T : pT} {o : Int}, sc_st b n M C T o I' L' → o = z := fun {b n M C T o} hst => by
      have := hst.2.2.2.2.1
      omega
    have hmany : (20 ≤ z ∨ (8 : Int) < 7) → xo_one 7 [xR 127, .inl 7] I' L' (some (.inl 0)) (x_bad I' 4) L' := fun hn b n M C T o hst => by
      refine Or.inl ⟨rfl, fun S => ?_⟩
      have h9 : I' 1 4 = T.2.1 := hst.2.1.1
      show m_ans b n M C (false, T, o, 7, S) (.inl (I' 1 4, 4))
      rw [h9]
      exact m_bad4 (hone hst) (by rw [hzo hst]; exact hn)
    refine And.intro ?_ ?_
    · intro t1
      refine And.intro ⟨4, rfl, by decide, by decide⟩ ?_
      rintro rv I2 L2 ⟨f, hf, rfl, rfl, rfl⟩
      cases hf
      exact ⟨by decide, hmany (Or.inl t1)⟩
    · intro t1
      refine And.intro ?_ ?_
      · intro t2
        have hno : ∀ {b : Nat → Int} {n : Int} {M C : List Int} {T : pT} {o : Int}, sc_st b n M C T o I' L' → ¬ (20 ≤ o ∨ (8 : Int) < 7) := fun {b n M C T o} hst => by
          have := hzo hst
          omega
        have hk2 : ∀ {b : Nat → Int} {n : Int} {M C : List Int} {T : pT} {o : Int}, sc_st b n M C T o I' L' → 2 ≤ T.1 := fun {b n M C T o} hst => by
          rcases hone hst with q | q <;> omega
        intro z3 (hz3 : z3 = I' 127 5) _
        refine Or.inl ⟨by omega, ?_⟩
        refine And.intro (show 0 ≤ z3 + 1 ∧ z3 + 1 ≤ 20 by omega) ?_
        intro w (hw : w = I' 1 7) _
        refine And.intro ⟨rfl, (show x_bh I' from sc_bh hst (hk2 hst))⟩ ?_
        intro rv I2 L2 hadv
        have h9 := hadv.1
        subst h9
        have hnx : ∀ {b : Nat → Int} {n : Int} {M C : List Int} {T : pT} {o : Int}, sc_st b n M C T o I' L' → sc_st b n M C (m_nx b n T) (o + 1) I2 L2 := fun {b n M C T o} hst => sc_adv (hk2 hst) (sc_ones hst (z := z3) (by have := hzo hst; omega) (by have := hzo hst; omega)) hadv
        refine And.intro ?_ ?_
        · intro t3
          rcases hbr with ⟨q, _⟩ | ⟨_, q1, q2, q3⟩
          · omega
          obtain ⟨s, hs⟩ : ∃ s, x_W32[w.toNat]? = some s := ⟨_, List.getElem?_eq_getElem (show w.toNat < x_W32.length by
            have : x_W32.length = 24 := rfl
            omega)⟩
          have hTs : ∀ {b : Nat → Int} {n : Int} {M C : List Int} {T : pT} {o : Int}, sc_st b n M C T o I' L' → T.1 = 2 ∧ T.2.2.2 = s := fun {b n M C T o} hst => (c_tok_word hst.2.1 hs).mp ⟨q1, by omega⟩
          refine And.intro ?_ ?_
          · intro t4
            have hsW : s ∈ m_W ∧ s ≠ 14836 := by
              have hv : w.toNat = 16 ∨ w.toNat = 17 ∨ w.toNat = 18 ∨ w.toNat = 19 ∨ w.toNat = 20 ∨ w.toNat = 21 ∨ w.toNat = 22 ∨ w.toNat = 23 := by omega
              rcases hv with hv | hv | hv | hv | hv | hv | hv | hv <;> (rw [hv] at hs; have h8 := Option.some.inj hs; subst h8; decide)
            have hza : ([xR 127, .inl w] : List xV) = [xR 127, .inl ((w.toNat : Nat) : Int)] := by rw [show ((w.toNat : Nat) : Int) = w by omega]
            refine And.intro ⟨w.toNat, hza, ⟨by omega, by omega⟩, _, _, _, _, _, _, hnx hst⟩ ?_
            intro rv I3 L3 hp
            obtain ⟨nu, _, rfl⟩ := hp w.toNat hza s hs _ _ _ _ _ _ (hnx hst)
            refine ⟨by split <;> decide, fun b n M C T o hst => ?_⟩
            obtain ⟨nu2, hlf2, e2⟩ := hp w.toNat hza s hs _ _ _ _ _ _ (hnx hst)
            have hT := hTs hst
            have hmf := fun (S : List Nat) => m_lf (b := b) (n := n) (M := M) (C := C) (T := T) (o := o) (d := 7) (S := S) (show T.1 = 2 ∧ T.2.2.2 ∈ m_W ∧ T.2.2.2 ≠ 14836 from ⟨hT.1, by rw [hT.2]; exact hsW.1, by rw [hT.2]; exact hsW.2⟩) (hno hst)
            rcases hr : m_leaf b n M C s (m_nx b n T) with ⟨at0, f⟩ | T'
            · rw [hr] at hlf2
              obtain ⟨l0, l1, l2⟩ := hlf2
              refine Or.inl ⟨by rw [e2, if_pos l0], fun S => ?_⟩
              rw [l1, l2]
              exact (hmf S).1 _ (by rw [hT.2]; exact hr)
            · rw [hr] at hlf2
              obtain ⟨l0, l1, l2⟩ := hlf2
              exact Or.inr ⟨by rw [e2, if_neg (by omega)], T', o + 1, l2, Int.le_refl _, fun S r h => (hmf S).2 T' r (by rw [hT.2]; exact hr) h⟩
          · intro t4
            have hs15 : s = 14836 := by
              have hv : w.toNat = 15 := by omega
              rw [hv] at hs
              exact (Option.some.inj hs).symm
            refine Or.inl ⟨by decide, ?_⟩
            refine And.intro ⟨rfl, _, _, _, _, _, _, hnx hst⟩ ?_
            intro rv I3 L3 hp
            rcases hp _ _ _ _ _ _ (hnx hst) with ⟨rfl, _⟩ | ⟨rfl, _⟩
            · refine And.intro (fun q => absurd rfl q) (fun _ => ?_)
              refine ⟨by decide, fun b n M C T o hst => Or.inl ⟨rfl, fun S => ?_⟩⟩
              rcases hp _ _ _ _ _ _ (hnx hst) with ⟨_, h9⟩ | ⟨h9, _⟩
              · exact m_nt (hno hst) ⟨(hTs hst).1, (hTs hst).2.trans hs15⟩ (h9 (20 :: S))
              · exact (sc_01 h9).elim
            · refine And.intro (fun _ => ?_) (fun q => absurd q (by decide))
              refine And.intro ⟨15, 0, 0, rfl, by decide, by decide, by decide⟩ ?_
              rintro rv I4 L4 ⟨rfl, rfl, hf⟩
              refine ⟨by decide, fun b n M C T o hst => Or.inr ⟨rfl, ?_⟩⟩
              rcases hp _ _ _ _ _ _ (hnx hst) with ⟨h9, _⟩ | ⟨_, T3, o3, p1, p2, p3⟩
              · exact (sc_10 h9).elim
              · exact ⟨T3, o3, sc_step p1 hf, by omega, fun S r h => m_nt (hno hst) ⟨(hTs hst).1, (hTs hst).2.trans hs15⟩ (p3 (20 :: S) r (m_not h))⟩
        · intro t3
          rcases hbr with ⟨_, q1, q2⟩ | ⟨q, _⟩
          rotate_left
          · exact absurd q t3
          have hTs : ∀ {b : Nat → Int} {n : Int} {M C : List Int} {T : pT} {o : Int}, sc_st b n M C T o I' L' → T.1 = 5 := fun {b n M C T o} hst => (c_tok_sign hst.2.1).1.mp q1
          refine Or.inl ⟨by decide, ?_⟩
          refine And.intro ⟨rfl, _, _, _, _, _, _, hnx hst⟩ ?_
          intro rv I3 L3 hp
          rcases hp _ _ _ _ _ _ (hnx hst) with ⟨rfl, _⟩ | ⟨rfl, T0, o0, hst0, _⟩
          · refine And.intro (fun _ => ?_) (fun q => absurd rfl q)
            refine ⟨by decide, fun b n M C T o hst => Or.inl ⟨rfl, fun S => ?_⟩⟩
            rcases hp _ _ _ _ _ _ (hnx hst) with ⟨_, h9⟩ | ⟨h9, _⟩
            · exact m_open (hone hst) (hno hst) (hTs hst) (h9 (23 :: S) (Or.inr ⟨S, rfl⟩))
            · exact (sc_01 h9).elim
          · refine And.intro (fun q => absurd q (by decide)) (fun _ => ?_)
            refine And.intro ⟨41, rfl, fun q => sc_bh hst0 (by have := (c_tok_sign hst0.2.1).1.mp q; omega)⟩ ?_
            rintro rv I4 L4 ⟨x, hx, ⟨g1, g2, rfl, hadv4⟩ | ⟨g1, rfl, g3, g4⟩⟩
            · cases hx
              refine And.intro (fun q => absurd q (by decide)) (fun _ => ?_)
              refine ⟨by decide, fun b n M C T o hst => Or.inr ⟨rfl, ?_⟩⟩
              rcases hp _ _ _ _ _ _ (hnx hst) with ⟨h9, _⟩ | ⟨_, T3, o3, p1, p2, p3, p4, p5⟩
              · exact (sc_10 h9).elim
              · have hs := c_tok_sign p1.2.1
                exact ⟨m_nx b n T3, o3, sc_adv (by have := hs.1.mp g1; omega) p1 hadv4, by omega, fun S r h => m_open (hone hst) (hno hst) (hTs hst) (p5 (23 :: S) r (Or.inr ⟨S, rfl⟩) (m_close ⟨hs.1.mp g1, (hs.2 g1).symm.trans g2⟩ h))⟩
            · cases hx
              subst g3
              subst g4
              refine And.intro (fun _ => ?_) (fun q => absurd rfl q)
              refine ⟨by decide, fun b n M C T o hst => Or.inl ⟨rfl, fun S => ?_⟩⟩
              rcases hp _ _ _ _ _ _ (hnx hst) with ⟨h9, _⟩ | ⟨_, T3, o3, p1, p2, p3, p4, p5⟩
              · exact (sc_10 h9).elim
              · have hs := c_tok_sign p1.2.1
                have h9 : I3 1 4 = T3.2.1 := p1.2.1.1
                show m_ans b n M C (false, T, o, 7, S) (.inl (I3 1 4, 1))
                rw [h9]
                exact m_open (hone hst) (hno hst) (hTs hst) (p5 (23 :: S) _ (Or.inr ⟨S, rfl⟩) (m_noclose p3 p4 (fun q => g1 ⟨hs.1.mpr q.1, (hs.2 (hs.1.mpr q.1)).trans q.2⟩)))
      · intro t2
        refine And.intro ⟨4, rfl, by decide, by decide⟩ ?_
        rintro rv I2 L2 ⟨f, hf, rfl, rfl, rfl⟩
        cases hf
        exact ⟨by decide, hmany (Or.inr t2)⟩
set_option maxHeartbeats 4000000 in
theorem xn_all_7 (hE : z_EX EX) : x_Ok EX l zTB zNT kc D vwCl xb nTY ad yP0 64 11 (xr_rd 7) (xo_all 7) := by
  refine x_loop (ct := x_ctl [(65, 10, xr_rd 7, xo_one 7), (108, 0, xr_sign, xo_isWord), (100, 1, xr_adv, xo_adv), (56, 0, xr_as, xo_as)]) (M := ym_X8_readAll) hE y_prog 60 rfl (by decide) (x_ctl_cons (xn_one_7 hE) (x_ctl_cons (xn_isWord hE) (x_ctl_cons (xn_adv hE) (x_ctl_cons (xn_as hE) x_ctl_nil)))) (fun za I L ⟨h, _⟩ => by subst h; exact (by decide : 2 ≤ 3)) (x_cut1 12) (sc_allI 7) (fun za I L ⟨h, b, n, M, C, T, o, hst⟩ => ?_) (fun za I L ⟨_, b, n, M, C, T, o, hst⟩ m pc lv sv I' L' hc hi => ?_)
  · subst h
    refine And.intro ⟨rfl, b, n, M, C, T, o, hst⟩ ?_
    intro rv I1 L1 hp
    rcases hp b n M C T o hst with ⟨rfl, _⟩ | ⟨rfl, _⟩
    · refine And.intro (fun q => absurd rfl q) (fun _ => ?_)
      refine ⟨by decide, fun b n M C T o hst => Or.inl ⟨rfl, fun S hS => ?_⟩⟩
      rcases hp b n M C T o hst with ⟨_, h9⟩ | ⟨h9, _⟩
      · exact h9 S
      · exact (sc_01 h9).elim
    · refine And.intro (fun _ => ?_) (fun q => absurd q (by decide))
      refine ⟨20, [(0, xR 127), (1, .inl 7), (2, .inl ((0 : Nat) : Int))], ⟨rfl, rfl, rfl, trivial⟩, rfl, rfl, 0, by omega, rfl, rfl, fun b n M C T o hst => ?_⟩
      rcases hp b n M C T o hst with ⟨h9, _⟩ | ⟨_, T1, o1, g1, g2, g3⟩
      · exact (sc_10 h9).elim
      · exact ⟨T1, o1, g1, by omega, fun S r _ h1 _ => g3 S r h1⟩
  · obtain ⟨rfl, rfl, k, hk, rfl, rfl, hinv⟩ := hi
    obtain ⟨T0, o0, hst0, ho0, _⟩ := hinv b n M C T o hst
    have ho := hst.2.2.2.2.2.1
    have ho20 := hst0.2.2.2.2.2.2
    refine And.intro ?_ ?_
    · intro t1
      exfalso
      omega
    · intro t1
      refine And.intro ⟨14, rfl⟩ ?_
      rintro rv I1 L1 ⟨rfl, rfl, x, hx, ⟨g1, g2, rfl⟩ | ⟨g1, rfl⟩⟩
      · cases hx
        refine And.intro (fun q => absurd q (by decide)) (fun _ => ?_)
        have hbw : ∀ {b : Nat → Int} {n : Int} {M C : List Int} {T : pT} {o : Int}, sc_st b n M C T o I1 L1 → m_and T := fun h => (c_tok_word h.2.1 (w := 14) rfl).mp ⟨g1, g2⟩
        refine And.intro ⟨rfl, sc_bh hst0 (by have := (hbw hst0).1; omega)⟩ ?_
        intro rv I2 L2 hadv
        have h9 := hadv.1
        subst h9
        have hnx : ∀ {b : Nat → Int} {n : Int} {M C : List Int} {T : pT} {o : Int}, sc_st b n M C T o I1 L1 → sc_st b n M C (m_nx b n T) o I2 L2 := fun h => sc_adv (by have := (hbw h).1; omega) h hadv
        refine And.intro ⟨rfl, _, _, _, _, _, _, hnx hst0⟩ ?_
        intro rv I3 L3 hp
        rcases hp _ _ _ _ _ _ (hnx hst0) with ⟨rfl, _⟩ | ⟨rfl, _⟩
        · refine And.intro (fun q => absurd rfl q) (fun _ => ?_)
          refine ⟨by decide, fun b n M C T o hst => Or.inl ⟨rfl, fun S hS => ?_⟩⟩
          obtain ⟨T1, o1, q1, q2, q3⟩ := hinv b n M C T o hst
          rcases hp _ _ _ _ _ _ (hnx q1) with ⟨_, h9⟩ | ⟨h9, _⟩
          · have h8 := m_and_go hS (hbw q1) (h9 (21 :: S))
            exact q3 S _ hS h8.1 h8.2
          · exact (sc_01 h9).elim
        · refine And.intro (fun _ => ?_) (fun q => absurd q (by decide))
          refine And.intro ⟨14, 0, 0, rfl, by decide, by decide, by decide⟩ ?_
          rintro rv I4 L4 ⟨rfl, rfl, hf⟩
          refine Or.inl ⟨by omega, 20 - (k + 1), [(0, xR 127), (1, .inl 7), (2, .inl ((k + 1 : Nat) : Int))], by omega, ⟨rfl, rfl, rfl, trivial⟩, rfl, rfl, k + 1, by omega, rfl, rfl, fun b n M C T o hst => ?_⟩
          obtain ⟨T1, o1, q1, q2, q3⟩ := hinv b n M C T o hst
          rcases hp _ _ _ _ _ _ (hnx q1) with ⟨h9, _⟩ | ⟨_, T3, o3, p1, p2, p3⟩
          · exact (sc_10 h9).elim
          · refine ⟨T3, o3, sc_step p1 hf, by omega, fun S r hS r1 r2 => ?_⟩
            have h8 := m_and_go hS (hbw q1) (p3 (21 :: S) r r2)
            exact q3 S r hS h8.1 h8.2
      · cases hx
        refine And.intro (fun _ => ?_) (fun q => absurd rfl q)
        refine ⟨by decide, fun b n M C T o hst => Or.inr ⟨rfl, ?_⟩⟩
        obtain ⟨T1, o1, q1, q2, q3⟩ := hinv b n M C T o hst
        exact ⟨T1, o1, q1, by omega, fun q => g1 ((c_tok_word q1.2.1 (w := 14) rfl).mpr q), q3⟩
set_option maxHeartbeats 4000000 in
theorem xn_cond_7 (hE : z_EX EX) : x_Ok EX l zTB zNT kc D vwCl xb nTY ad yP0 63 12 (xr_rd 7) (xo_cond 7) := by
  refine x_loop (ct := x_ctl [(64, 11, xr_rd 7, xo_all 7), (108, 0, xr_sign, xo_isWord), (100, 1, xr_adv, xo_adv), (56, 0, xr_as, xo_as)]) (M := ym_X8_readCond) hE y_prog 60 rfl (by decide) (x_ctl_cons (xn_all_7 hE) (x_ctl_cons (xn_isWord hE) (x_ctl_cons (xn_adv hE) (x_ctl_cons (xn_as hE) x_ctl_nil)))) (fun za I L ⟨h, _⟩ => by subst h; exact (by decide : 2 ≤ 3)) (x_cut1 12) (sc_condI 7) (fun za I L ⟨h, b, n, M, C, T, o, hst⟩ => ?_) (fun za I L ⟨_, b, n, M, C, T, o, hst⟩ m pc lv sv I' L' hc hi => ?_)
  · subst h
    refine And.intro ⟨rfl, b, n, M, C, T, o, hst⟩ ?_
    intro rv I1 L1 hp
    rcases hp b n M C T o hst with ⟨rfl, _⟩ | ⟨rfl, _⟩
    · refine And.intro (fun q => absurd rfl q) (fun _ => ?_)
      refine ⟨by decide, fun b n M C T o hst => Or.inl ⟨rfl, fun S hS => ?_⟩⟩
      rcases hp b n M C T o hst with ⟨_, h9⟩ | ⟨h9, _⟩
      · exact h9 S (Or.inl hS)
      · exact (sc_01 h9).elim
    · refine And.intro (fun _ => ?_) (fun q => absurd q (by decide))
      refine ⟨20, [(0, xR 127), (1, .inl 7), (2, .inl ((0 : Nat) : Int))], ⟨rfl, rfl, rfl, trivial⟩, rfl, rfl, 0, by omega, rfl, rfl, fun b n M C T o hst => ?_⟩
      rcases hp b n M C T o hst with ⟨h9, _⟩ | ⟨_, T1, o1, g1, g2, g3, g4⟩
      · exact (sc_10 h9).elim
      · exact ⟨T1, o1, g1, by omega, g3, fun S r hS hJ => g4 S r (Or.inl hS) (hJ [] (Or.inl rfl)) (hJ [21] (Or.inr (Or.inl rfl)))⟩
  · obtain ⟨rfl, rfl, k, hk, rfl, rfl, hinv⟩ := hi
    obtain ⟨T0, o0, hst0, ho0, _⟩ := hinv b n M C T o hst
    have ho := hst.2.2.2.2.2.1
    have ho20 := hst0.2.2.2.2.2.2
    refine And.intro ?_ ?_
    · intro t1
      exfalso
      omega
    · intro t1
      refine And.intro ⟨13, rfl⟩ ?_
      rintro rv I1 L1 ⟨rfl, rfl, x, hx, ⟨g1, g2, rfl⟩ | ⟨g1, rfl⟩⟩
      · cases hx
        refine And.intro (fun q => absurd q (by decide)) (fun _ => ?_)
        have hbw : ∀ {b : Nat → Int} {n : Int} {M C : List Int} {T : pT} {o : Int}, sc_st b n M C T o I1 L1 → m_or T := fun h => (c_tok_word h.2.1 (w := 13) rfl).mp ⟨g1, g2⟩
        refine And.intro ⟨rfl, sc_bh hst0 (by have := (hbw hst0).1; omega)⟩ ?_
        intro rv I2 L2 hadv
        have h9 := hadv.1
        subst h9
        have hnx : ∀ {b : Nat → Int} {n : Int} {M C : List Int} {T : pT} {o : Int}, sc_st b n M C T o I1 L1 → sc_st b n M C (m_nx b n T) o I2 L2 := fun h => sc_adv (by have := (hbw h).1; omega) h hadv
        refine And.intro ⟨rfl, _, _, _, _, _, _, hnx hst0⟩ ?_
        intro rv I3 L3 hp
        rcases hp _ _ _ _ _ _ (hnx hst0) with ⟨rfl, _⟩ | ⟨rfl, _⟩
        · refine And.intro (fun q => absurd rfl q) (fun _ => ?_)
          refine ⟨by decide, fun b n M C T o hst => Or.inl ⟨rfl, fun S hS => ?_⟩⟩
          obtain ⟨T1, o1, q1, q2, q3, q4⟩ := hinv b n M C T o hst
          rcases hp _ _ _ _ _ _ (hnx q1) with ⟨_, h9⟩ | ⟨h9, _⟩
          · exact q4 S _ hS (fun J hJ => m_or_go hJ hS (hbw q1) (h9 (22 :: S) (Or.inr ⟨S, rfl⟩)))
          · exact (sc_01 h9).elim
        · refine And.intro (fun _ => ?_) (fun q => absurd q (by decide))
          refine And.intro ⟨13, 0, 0, rfl, by decide, by decide, by decide⟩ ?_
          rintro rv I4 L4 ⟨rfl, rfl, hf⟩
          refine Or.inl ⟨by omega, 20 - (k + 1), [(0, xR 127), (1, .inl 7), (2, .inl ((k + 1 : Nat) : Int))], by omega, ⟨rfl, rfl, rfl, trivial⟩, rfl, rfl, k + 1, by omega, rfl, rfl, fun b n M C T o hst => ?_⟩
          obtain ⟨T1, o1, q1, q2, q3, q4⟩ := hinv b n M C T o hst
          rcases hp _ _ _ _ _ _ (hnx q1) with ⟨h9, _⟩ | ⟨_, T3, o3, p1, p2, p3, p4⟩
          · exact (sc_10 h9).elim
          · exact ⟨T3, o3, sc_step p1 hf, by omega, p3, fun S r hS hJ3 => q4 S r hS (fun J hJ => m_or_go hJ hS (hbw q1) (p4 (22 :: S) r (Or.inr ⟨S, rfl⟩) (hJ3 [22] (Or.inr (Or.inr (Or.inl rfl)))) (hJ3 [21, 22] (Or.inr (Or.inr (Or.inr rfl))))))⟩
      · cases hx
        refine And.intro (fun _ => ?_) (fun q => absurd rfl q)
        refine ⟨by decide, fun b n M C T o hst => Or.inr ⟨rfl, ?_⟩⟩
        obtain ⟨T1, o1, q1, q2, q3, q4⟩ := hinv b n M C T o hst
        have hno : ¬ m_or T1 := fun q => g1 ((c_tok_word q1.2.1 (w := 13) rfl).mpr q)
        exact ⟨T1, o1, q1, by omega, q3, hno, fun S r hS h => q4 S r hS (fun J hJ => m_Jgo hJ hS q3 hno h)⟩
set_option maxHeartbeats 4000000 in
theorem xn_one_6 (hE : z_EX EX) : x_Ok EX l zTB zNT kc D vwCl xb nTY ad yP0 65 13 (xr_rd 6) (xo_one 6) := by
  refine x_loop (ct := x_ctl [(109, 0, xr_sign, xo_isSign), (106, 0, xr_ref, xo_ref), (100, 1, xr_adv, xo_adv), (110, 2, xr_ts, xo_ts), (56, 0, xr_as, xo_as), (66, 3, xr_say, xo_say), (63, 12, xr_rd 7, xo_cond 7), (65, 10, xr_rd 7, xo_one 7)]) (M := ym_X8_readOne) hE y_prog 80 rfl (by decide) (x_ctl_cons (xn_isSign hE) (x_ctl_cons (xn_ref hE) (x_ctl_cons (xn_adv hE) (x_ctl_cons (xn_ts hE) (x_ctl_cons (xn_as hE) (x_ctl_cons (xn_say hE) (x_ctl_cons (xn_cond_7 hE) (x_ctl_cons (xn_one_7 hE) x_ctl_nil)))))))) (fun za I L ⟨h, _⟩ => by subst h; exact (by decide : 2 ≤ 4)) (x_cut1 46) (sc_oneI 6) (fun za I L ⟨h, b, n, M, C, T, o, hst⟩ => ?_) (fun za I L ⟨_, b, n, M, C, T, o, hst⟩ m pc lv sv I' L' hc hi => ?_)
  · subst h
    refine And.intro ⟨40, rfl⟩ ?_
    rintro rv I1 L1 ⟨rfl, rfl, x, hx, ⟨g1, g2, rfl⟩ | ⟨g1, rfl⟩⟩
    · cases hx
      refine And.intro (fun _ => ?_) (fun q => absurd q (by decide))
      exact ⟨0, [(0, xR 127), (1, .inl 6), (2, .inl 1)], ⟨rfl, rfl, rfl, trivial⟩, rfl, rfl, rfl, rfl, rfl, 1, rfl, Or.inl ⟨rfl, g1, g2⟩⟩
    · cases hx
      refine And.intro (fun q => absurd rfl q) (fun _ => ?_)
      have hbad : ¬ (I1 1 6 = 2 ∧ 15 ≤ I1 1 7) → xo_one 6 [xR 127, .inl 6] I1 L1 (some (.inl 0)) (x_bad I1 1) L1 := fun hn b n M C T o hst => by
        refine Or.inl ⟨rfl, fun S => ?_⟩
        have h9 : I1 1 4 = T.2.1 := hst.2.1.1
        show m_ans b n M C (false, T, o, 6, S) (.inl (I1 1 4, 1))
        rw [h9]
        refine m_bad1 (fun q => ?_)
        rcases q with q | q
        · have hs := c_tok_sign hst.2.1
          have h8 := hs.1.mpr q.1
          exact g1 ⟨h8, (hs.2 h8).trans q.2⟩
        · obtain ⟨w, w1, w2⟩ := sc_W1 _ q.2
          have h8 := (c_tok_word hst.2.1 w2).mpr ⟨q.1, rfl⟩
          exact hn ⟨h8.1, by omega⟩
      intro k (hk : k = I1 1 6) _
      refine And.intro ?_ ?_
      · intro t1
        refine And.intro ⟨1, rfl, by decide, by decide⟩ ?_
        rintro rv I2 L2 ⟨f, hf, rfl, rfl, rfl⟩
        cases hf
        exact ⟨by decide, hbad (by omega)⟩
      · intro t1 v (hv : v = I1 1 7) _
        refine And.intro ?_ ?_
        · intro t2
          have h23 : I1 1 7 ≤ 23 := by
            rcases hst.2.1.2.2 with ⟨q1, q2⟩ | ⟨q1, q2⟩ | ⟨q1, q2, q3⟩ | ⟨q1, q2, q3⟩ | ⟨q1, q2, q3⟩
            · omega
            · omega
            · rcases q3 with ⟨w, w1, w2, w3⟩ | ⟨w1, w2⟩
              · have : w < 24 := (List.getElem?_eq_some_iff.mp w1).1
                omega
              · omega
            · omega
            · omega
          exact ⟨0, [(0, xR 127), (1, .inl 6), (2, .inl 0)], ⟨rfl, rfl, rfl, trivial⟩, rfl, rfl, rfl, rfl, rfl, 0, rfl, Or.inr ⟨rfl, by omega, by omega, h23⟩⟩
        · intro t2
          refine And.intro ⟨1, rfl, by decide, by decide⟩ ?_
          rintro rv I2 L2 ⟨f, hf, rfl, rfl, rfl⟩
          cases hf
          exact ⟨by decide, hbad (by omega)⟩
  · obtain ⟨rfl, rfl, rfl, rfl, rfl, br, rfl, hbr⟩ := hi
    have hone : ∀ {b : Nat → Int} {n : Int} {M C : List Int} {T : pT} {o : Int}, sc_st b n M C T o I' L' → m_one T := fun {b n M C T o} hst => by
      rcases hbr with ⟨_, q1, q2⟩ | ⟨_, q1, q2, q3⟩
      · have hs := c_tok_sign hst.2.1
        exact Or.inl ⟨hs.1.mp q1, by rw [← hs.2 q1]; exact q2⟩
      · obtain ⟨s, s1, s2⟩ := sc_W2 ⟨(I' 1 7).toNat, by omega⟩ (show 15 ≤ (I' 1 7).toNat by omega)
        have h8 := (c_tok_word hst.2.1 s2).mp ⟨q1, by dsimp only; omega⟩
        exact Or.inr ⟨h8.1, by rw [h8.2]; exact s1⟩
    intro z (hz : z = I' 127 5) (bz : 0 ≤ z ∧ z ≤ 20)
    have hzo : ∀ {b : Nat → Int} {n : Int} {M C : List Int} {T : pT} {o : Int}, sc_st b n M C T o I' L' → o = z := fun {b n M C T o} hst => by
      have := hst.2.2.2.2.1
      omega
    have hmany : (20 ≤ z ∨ (8 : Int) < 6) → xo_one 6 [xR 127, .inl 6] I' L' (some (.inl 0)) (x_bad I' 4) L' := fun hn b n M C T o hst => by
      refine Or.inl ⟨rfl, fun S => ?_⟩
      have h9 : I' 1 4 = T.2.1 := hst.2.1.1
      show m_ans b n M C (false, T, o, 6, S) (.inl (I' 1 4, 4))
      rw [h9]
      exact m_bad4 (hone hst) (by rw [hzo hst]; exact hn)
    refine And.intro ?_ ?_
    · intro t1
      refine And.intro ⟨4, rfl, by decide, by decide⟩ ?_
      rintro rv I2 L2 ⟨f, hf, rfl, rfl, rfl⟩
      cases hf
      exact ⟨by decide, hmany (Or.inl t1)⟩
    · intro t1
      refine And.intro ?_ ?_
      · intro t2
        have hno : ∀ {b : Nat → Int} {n : Int} {M C : List Int} {T : pT} {o : Int}, sc_st b n M C T o I' L' → ¬ (20 ≤ o ∨ (8 : Int) < 6) := fun {b n M C T o} hst => by
          have := hzo hst
          omega
        have hk2 : ∀ {b : Nat → Int} {n : Int} {M C : List Int} {T : pT} {o : Int}, sc_st b n M C T o I' L' → 2 ≤ T.1 := fun {b n M C T o} hst => by
          rcases hone hst with q | q <;> omega
        intro z3 (hz3 : z3 = I' 127 5) _
        refine Or.inl ⟨by omega, ?_⟩
        refine And.intro (show 0 ≤ z3 + 1 ∧ z3 + 1 ≤ 20 by omega) ?_
        intro w (hw : w = I' 1 7) _
        refine And.intro ⟨rfl, (show x_bh I' from sc_bh hst (hk2 hst))⟩ ?_
        intro rv I2 L2 hadv
        have h9 := hadv.1
        subst h9
        have hnx : ∀ {b : Nat → Int} {n : Int} {M C : List Int} {T : pT} {o : Int}, sc_st b n M C T o I' L' → sc_st b n M C (m_nx b n T) (o + 1) I2 L2 := fun {b n M C T o} hst => sc_adv (hk2 hst) (sc_ones hst (z := z3) (by have := hzo hst; omega) (by have := hzo hst; omega)) hadv
        refine And.intro ?_ ?_
        · intro t3
          rcases hbr with ⟨q, _⟩ | ⟨_, q1, q2, q3⟩
          · omega
          obtain ⟨s, hs⟩ : ∃ s, x_W32[w.toNat]? = some s := ⟨_, List.getElem?_eq_getElem (show w.toNat < x_W32.length by
            have : x_W32.length = 24 := rfl
            omega)⟩
          have hTs : ∀ {b : Nat → Int} {n : Int} {M C : List Int} {T : pT} {o : Int}, sc_st b n M C T o I' L' → T.1 = 2 ∧ T.2.2.2 = s := fun {b n M C T o} hst => (c_tok_word hst.2.1 hs).mp ⟨q1, by omega⟩
          refine And.intro ?_ ?_
          · intro t4
            have hsW : s ∈ m_W ∧ s ≠ 14836 := by
              have hv : w.toNat = 16 ∨ w.toNat = 17 ∨ w.toNat = 18 ∨ w.toNat = 19 ∨ w.toNat = 20 ∨ w.toNat = 21 ∨ w.toNat = 22 ∨ w.toNat = 23 := by omega
              rcases hv with hv | hv | hv | hv | hv | hv | hv | hv <;> (rw [hv] at hs; have h8 := Option.some.inj hs; subst h8; decide)
            have hza : ([xR 127, .inl w] : List xV) = [xR 127, .inl ((w.toNat : Nat) : Int)] := by rw [show ((w.toNat : Nat) : Int) = w by omega]
            refine And.intro ⟨w.toNat, hza, ⟨by omega, by omega⟩, _, _, _, _, _, _, hnx hst⟩ ?_
            intro rv I3 L3 hp
            obtain ⟨nu, _, rfl⟩ := hp w.toNat hza s hs _ _ _ _ _ _ (hnx hst)
            refine ⟨by split <;> decide, fun b n M C T o hst => ?_⟩
            obtain ⟨nu2, hlf2, e2⟩ := hp w.toNat hza s hs _ _ _ _ _ _ (hnx hst)
            have hT := hTs hst
            have hmf := fun (S : List Nat) => m_lf (b := b) (n := n) (M := M) (C := C) (T := T) (o := o) (d := 6) (S := S) (show T.1 = 2 ∧ T.2.2.2 ∈ m_W ∧ T.2.2.2 ≠ 14836 from ⟨hT.1, by rw [hT.2]; exact hsW.1, by rw [hT.2]; exact hsW.2⟩) (hno hst)
            rcases hr : m_leaf b n M C s (m_nx b n T) with ⟨at0, f⟩ | T'
            · rw [hr] at hlf2
              obtain ⟨l0, l1, l2⟩ := hlf2
              refine Or.inl ⟨by rw [e2, if_pos l0], fun S => ?_⟩
              rw [l1, l2]
              exact (hmf S).1 _ (by rw [hT.2]; exact hr)
            · rw [hr] at hlf2
              obtain ⟨l0, l1, l2⟩ := hlf2
              exact Or.inr ⟨by rw [e2, if_neg (by omega)], T', o + 1, l2, Int.le_refl _, fun S r h => (hmf S).2 T' r (by rw [hT.2]; exact hr) h⟩
          · intro t4
            have hs15 : s = 14836 := by
              have hv : w.toNat = 15 := by omega
              rw [hv] at hs
              exact (Option.some.inj hs).symm
            refine Or.inl ⟨by decide, ?_⟩
            refine And.intro ⟨rfl, _, _, _, _, _, _, hnx hst⟩ ?_
            intro rv I3 L3 hp
            rcases hp _ _ _ _ _ _ (hnx hst) with ⟨rfl, _⟩ | ⟨rfl, _⟩
            · refine And.intro (fun q => absurd rfl q) (fun _ => ?_)
              refine ⟨by decide, fun b n M C T o hst => Or.inl ⟨rfl, fun S => ?_⟩⟩
              rcases hp _ _ _ _ _ _ (hnx hst) with ⟨_, h9⟩ | ⟨h9, _⟩
              · exact m_nt (hno hst) ⟨(hTs hst).1, (hTs hst).2.trans hs15⟩ (h9 (20 :: S))
              · exact (sc_01 h9).elim
            · refine And.intro (fun _ => ?_) (fun q => absurd q (by decide))
              refine And.intro ⟨15, 0, 0, rfl, by decide, by decide, by decide⟩ ?_
              rintro rv I4 L4 ⟨rfl, rfl, hf⟩
              refine ⟨by decide, fun b n M C T o hst => Or.inr ⟨rfl, ?_⟩⟩
              rcases hp _ _ _ _ _ _ (hnx hst) with ⟨h9, _⟩ | ⟨_, T3, o3, p1, p2, p3⟩
              · exact (sc_10 h9).elim
              · exact ⟨T3, o3, sc_step p1 hf, by omega, fun S r h => m_nt (hno hst) ⟨(hTs hst).1, (hTs hst).2.trans hs15⟩ (p3 (20 :: S) r (m_not h))⟩
        · intro t3
          rcases hbr with ⟨_, q1, q2⟩ | ⟨q, _⟩
          rotate_left
          · exact absurd q t3
          have hTs : ∀ {b : Nat → Int} {n : Int} {M C : List Int} {T : pT} {o : Int}, sc_st b n M C T o I' L' → T.1 = 5 := fun {b n M C T o} hst => (c_tok_sign hst.2.1).1.mp q1
          refine Or.inl ⟨by decide, ?_⟩
          refine And.intro ⟨rfl, _, _, _, _, _, _, hnx hst⟩ ?_
          intro rv I3 L3 hp
          rcases hp _ _ _ _ _ _ (hnx hst) with ⟨rfl, _⟩ | ⟨rfl, T0, o0, hst0, _⟩
          · refine And.intro (fun _ => ?_) (fun q => absurd rfl q)
            refine ⟨by decide, fun b n M C T o hst => Or.inl ⟨rfl, fun S => ?_⟩⟩
            rcases hp _ _ _ _ _ _ (hnx hst) with ⟨_, h9⟩ | ⟨h9, _⟩
            · exact m_open (hone hst) (hno hst) (hTs hst) (h9 (23 :: S) (Or.inr ⟨S, rfl⟩))
            · exact (sc_01 h9).elim
          · refine And.intro (fun q => absurd q (by decide)) (fun _ => ?_)
            refine And.intro ⟨41, rfl, fun q => sc_bh hst0 (by have := (c_tok_sign hst0.2.1).1.mp q; omega)⟩ ?_
            rintro rv I4 L4 ⟨x, hx, ⟨g1, g2, rfl, hadv4⟩ | ⟨g1, rfl, g3, g4⟩⟩
            · cases hx
              refine And.intro (fun q => absurd q (by decide)) (fun _ => ?_)
              refine ⟨by decide, fun b n M C T o hst => Or.inr ⟨rfl, ?_⟩⟩
              rcases hp _ _ _ _ _ _ (hnx hst) with ⟨h9, _⟩ | ⟨_, T3, o3, p1, p2, p3, p4, p5⟩
              · exact (sc_10 h9).elim
              · have hs := c_tok_sign p1.2.1
                exact ⟨m_nx b n T3, o3, sc_adv (by have := hs.1.mp g1; omega) p1 hadv4, by omega, fun S r h => m_open (hone hst) (hno hst) (hTs hst) (p5 (23 :: S) r (Or.inr ⟨S, rfl⟩) (m_close ⟨hs.1.mp g1, (hs.2 g1).symm.trans g2⟩ h))⟩
            · cases hx
              subst g3
              subst g4
              refine And.intro (fun _ => ?_) (fun q => absurd rfl q)
              refine ⟨by decide, fun b n M C T o hst => Or.inl ⟨rfl, fun S => ?_⟩⟩
              rcases hp _ _ _ _ _ _ (hnx hst) with ⟨h9, _⟩ | ⟨_, T3, o3, p1, p2, p3, p4, p5⟩
              · exact (sc_10 h9).elim
              · have hs := c_tok_sign p1.2.1
                have h9 : I3 1 4 = T3.2.1 := p1.2.1.1
                show m_ans b n M C (false, T, o, 6, S) (.inl (I3 1 4, 1))
                rw [h9]
                exact m_open (hone hst) (hno hst) (hTs hst) (p5 (23 :: S) _ (Or.inr ⟨S, rfl⟩) (m_noclose p3 p4 (fun q => g1 ⟨hs.1.mpr q.1, (hs.2 (hs.1.mpr q.1)).trans q.2⟩)))
      · intro t2
        refine And.intro ⟨4, rfl, by decide, by decide⟩ ?_
        rintro rv I2 L2 ⟨f, hf, rfl, rfl, rfl⟩
        cases hf
        exact ⟨by decide, hmany (Or.inr t2)⟩
set_option maxHeartbeats 4000000 in
theorem xn_all_6 (hE : z_EX EX) : x_Ok EX l zTB zNT kc D vwCl xb nTY ad yP0 64 14 (xr_rd 6) (xo_all 6) := by
  refine x_loop (ct := x_ctl [(65, 13, xr_rd 6, xo_one 6), (108, 0, xr_sign, xo_isWord), (100, 1, xr_adv, xo_adv), (56, 0, xr_as, xo_as)]) (M := ym_X8_readAll) hE y_prog 60 rfl (by decide) (x_ctl_cons (xn_one_6 hE) (x_ctl_cons (xn_isWord hE) (x_ctl_cons (xn_adv hE) (x_ctl_cons (xn_as hE) x_ctl_nil)))) (fun za I L ⟨h, _⟩ => by subst h; exact (by decide : 2 ≤ 3)) (x_cut1 12) (sc_allI 6) (fun za I L ⟨h, b, n, M, C, T, o, hst⟩ => ?_) (fun za I L ⟨_, b, n, M, C, T, o, hst⟩ m pc lv sv I' L' hc hi => ?_)
  · subst h
    refine And.intro ⟨rfl, b, n, M, C, T, o, hst⟩ ?_
    intro rv I1 L1 hp
    rcases hp b n M C T o hst with ⟨rfl, _⟩ | ⟨rfl, _⟩
    · refine And.intro (fun q => absurd rfl q) (fun _ => ?_)
      refine ⟨by decide, fun b n M C T o hst => Or.inl ⟨rfl, fun S hS => ?_⟩⟩
      rcases hp b n M C T o hst with ⟨_, h9⟩ | ⟨h9, _⟩
      · exact h9 S
      · exact (sc_01 h9).elim
    · refine And.intro (fun _ => ?_) (fun q => absurd q (by decide))
      refine ⟨20, [(0, xR 127), (1, .inl 6), (2, .inl ((0 : Nat) : Int))], ⟨rfl, rfl, rfl, trivial⟩, rfl, rfl, 0, by omega, rfl, rfl, fun b n M C T o hst => ?_⟩
      rcases hp b n M C T o hst with ⟨h9, _⟩ | ⟨_, T1, o1, g1, g2, g3⟩
      · exact (sc_10 h9).elim
      · exact ⟨T1, o1, g1, by omega, fun S r _ h1 _ => g3 S r h1⟩
  · obtain ⟨rfl, rfl, k, hk, rfl, rfl, hinv⟩ := hi
    obtain ⟨T0, o0, hst0, ho0, _⟩ := hinv b n M C T o hst
    have ho := hst.2.2.2.2.2.1
    have ho20 := hst0.2.2.2.2.2.2
    refine And.intro ?_ ?_
    · intro t1
      exfalso
      omega
    · intro t1
      refine And.intro ⟨14, rfl⟩ ?_
      rintro rv I1 L1 ⟨rfl, rfl, x, hx, ⟨g1, g2, rfl⟩ | ⟨g1, rfl⟩⟩
      · cases hx
        refine And.intro (fun q => absurd q (by decide)) (fun _ => ?_)
        have hbw : ∀ {b : Nat → Int} {n : Int} {M C : List Int} {T : pT} {o : Int}, sc_st b n M C T o I1 L1 → m_and T := fun h => (c_tok_word h.2.1 (w := 14) rfl).mp ⟨g1, g2⟩
        refine And.intro ⟨rfl, sc_bh hst0 (by have := (hbw hst0).1; omega)⟩ ?_
        intro rv I2 L2 hadv
        have h9 := hadv.1
        subst h9
        have hnx : ∀ {b : Nat → Int} {n : Int} {M C : List Int} {T : pT} {o : Int}, sc_st b n M C T o I1 L1 → sc_st b n M C (m_nx b n T) o I2 L2 := fun h => sc_adv (by have := (hbw h).1; omega) h hadv
        refine And.intro ⟨rfl, _, _, _, _, _, _, hnx hst0⟩ ?_
        intro rv I3 L3 hp
        rcases hp _ _ _ _ _ _ (hnx hst0) with ⟨rfl, _⟩ | ⟨rfl, _⟩
        · refine And.intro (fun q => absurd rfl q) (fun _ => ?_)
          refine ⟨by decide, fun b n M C T o hst => Or.inl ⟨rfl, fun S hS => ?_⟩⟩
          obtain ⟨T1, o1, q1, q2, q3⟩ := hinv b n M C T o hst
          rcases hp _ _ _ _ _ _ (hnx q1) with ⟨_, h9⟩ | ⟨h9, _⟩
          · have h8 := m_and_go hS (hbw q1) (h9 (21 :: S))
            exact q3 S _ hS h8.1 h8.2
          · exact (sc_01 h9).elim
        · refine And.intro (fun _ => ?_) (fun q => absurd q (by decide))
          refine And.intro ⟨14, 0, 0, rfl, by decide, by decide, by decide⟩ ?_
          rintro rv I4 L4 ⟨rfl, rfl, hf⟩
          refine Or.inl ⟨by omega, 20 - (k + 1), [(0, xR 127), (1, .inl 6), (2, .inl ((k + 1 : Nat) : Int))], by omega, ⟨rfl, rfl, rfl, trivial⟩, rfl, rfl, k + 1, by omega, rfl, rfl, fun b n M C T o hst => ?_⟩
          obtain ⟨T1, o1, q1, q2, q3⟩ := hinv b n M C T o hst
          rcases hp _ _ _ _ _ _ (hnx q1) with ⟨h9, _⟩ | ⟨_, T3, o3, p1, p2, p3⟩
          · exact (sc_10 h9).elim
          · refine ⟨T3, o3, sc_step p1 hf, by omega, fun S r hS r1 r2 => ?_⟩
            have h8 := m_and_go hS (hbw q1) (p3 (21 :: S) r r2)
            exact q3 S r hS h8.1 h8.2
      · cases hx
        refine And.intro (fun _ => ?_) (fun q => absurd rfl q)
        refine ⟨by decide, fun b n M C T o hst => Or.inr ⟨rfl, ?_⟩⟩
        obtain ⟨T1, o1, q1, q2, q3⟩ := hinv b n M C T o hst
        exact ⟨T1, o1, q1, by omega, fun q => g1 ((c_tok_word q1.2.1 (w := 14) rfl).mpr q), q3⟩
set_option maxHeartbeats 4000000 in
theorem xn_cond_6 (hE : z_EX EX) : x_Ok EX l zTB zNT kc D vwCl xb nTY ad yP0 63 15 (xr_rd 6) (xo_cond 6) := by
  refine x_loop (ct := x_ctl [(64, 14, xr_rd 6, xo_all 6), (108, 0, xr_sign, xo_isWord), (100, 1, xr_adv, xo_adv), (56, 0, xr_as, xo_as)]) (M := ym_X8_readCond) hE y_prog 60 rfl (by decide) (x_ctl_cons (xn_all_6 hE) (x_ctl_cons (xn_isWord hE) (x_ctl_cons (xn_adv hE) (x_ctl_cons (xn_as hE) x_ctl_nil)))) (fun za I L ⟨h, _⟩ => by subst h; exact (by decide : 2 ≤ 3)) (x_cut1 12) (sc_condI 6) (fun za I L ⟨h, b, n, M, C, T, o, hst⟩ => ?_) (fun za I L ⟨_, b, n, M, C, T, o, hst⟩ m pc lv sv I' L' hc hi => ?_)
  · subst h
    refine And.intro ⟨rfl, b, n, M, C, T, o, hst⟩ ?_
    intro rv I1 L1 hp
    rcases hp b n M C T o hst with ⟨rfl, _⟩ | ⟨rfl, _⟩
    · refine And.intro (fun q => absurd rfl q) (fun _ => ?_)
      refine ⟨by decide, fun b n M C T o hst => Or.inl ⟨rfl, fun S hS => ?_⟩⟩
      rcases hp b n M C T o hst with ⟨_, h9⟩ | ⟨h9, _⟩
      · exact h9 S (Or.inl hS)
      · exact (sc_01 h9).elim
    · refine And.intro (fun _ => ?_) (fun q => absurd q (by decide))
      refine ⟨20, [(0, xR 127), (1, .inl 6), (2, .inl ((0 : Nat) : Int))], ⟨rfl, rfl, rfl, trivial⟩, rfl, rfl, 0, by omega, rfl, rfl, fun b n M C T o hst => ?_⟩
      rcases hp b n M C T o hst with ⟨h9, _⟩ | ⟨_, T1, o1, g1, g2, g3, g4⟩
      · exact (sc_10 h9).elim
      · exact ⟨T1, o1, g1, by omega, g3, fun S r hS hJ => g4 S r (Or.inl hS) (hJ [] (Or.inl rfl)) (hJ [21] (Or.inr (Or.inl rfl)))⟩
  · obtain ⟨rfl, rfl, k, hk, rfl, rfl, hinv⟩ := hi
    obtain ⟨T0, o0, hst0, ho0, _⟩ := hinv b n M C T o hst
    have ho := hst.2.2.2.2.2.1
    have ho20 := hst0.2.2.2.2.2.2
    refine And.intro ?_ ?_
    · intro t1
      exfalso
      omega
    · intro t1
      refine And.intro ⟨13, rfl⟩ ?_
      rintro rv I1 L1 ⟨rfl, rfl, x, hx, ⟨g1, g2, rfl⟩ | ⟨g1, rfl⟩⟩
      · cases hx
        refine And.intro (fun q => absurd q (by decide)) (fun _ => ?_)
        have hbw : ∀ {b : Nat → Int} {n : Int} {M C : List Int} {T : pT} {o : Int}, sc_st b n M C T o I1 L1 → m_or T := fun h => (c_tok_word h.2.1 (w := 13) rfl).mp ⟨g1, g2⟩
        refine And.intro ⟨rfl, sc_bh hst0 (by have := (hbw hst0).1; omega)⟩ ?_
        intro rv I2 L2 hadv
        have h9 := hadv.1
        subst h9
        have hnx : ∀ {b : Nat → Int} {n : Int} {M C : List Int} {T : pT} {o : Int}, sc_st b n M C T o I1 L1 → sc_st b n M C (m_nx b n T) o I2 L2 := fun h => sc_adv (by have := (hbw h).1; omega) h hadv
        refine And.intro ⟨rfl, _, _, _, _, _, _, hnx hst0⟩ ?_
        intro rv I3 L3 hp
        rcases hp _ _ _ _ _ _ (hnx hst0) with ⟨rfl, _⟩ | ⟨rfl, _⟩
        · refine And.intro (fun q => absurd rfl q) (fun _ => ?_)
          refine ⟨by decide, fun b n M C T o hst => Or.inl ⟨rfl, fun S hS => ?_⟩⟩
          obtain ⟨T1, o1, q1, q2, q3, q4⟩ := hinv b n M C T o hst
          rcases hp _ _ _ _ _ _ (hnx q1) with ⟨_, h9⟩ | ⟨h9, _⟩
          · exact q4 S _ hS (fun J hJ => m_or_go hJ hS (hbw q1) (h9 (22 :: S) (Or.inr ⟨S, rfl⟩)))
          · exact (sc_01 h9).elim
        · refine And.intro (fun _ => ?_) (fun q => absurd q (by decide))
          refine And.intro ⟨13, 0, 0, rfl, by decide, by decide, by decide⟩ ?_
          rintro rv I4 L4 ⟨rfl, rfl, hf⟩
          refine Or.inl ⟨by omega, 20 - (k + 1), [(0, xR 127), (1, .inl 6), (2, .inl ((k + 1 : Nat) : Int))], by omega, ⟨rfl, rfl, rfl, trivial⟩, rfl, rfl, k + 1, by omega, rfl, rfl, fun b n M C T o hst => ?_⟩
          obtain ⟨T1, o1, q1, q2, q3, q4⟩ := hinv b n M C T o hst
          rcases hp _ _ _ _ _ _ (hnx q1) with ⟨h9, _⟩ | ⟨_, T3, o3, p1, p2, p3, p4⟩
          · exact (sc_10 h9).elim
          · exact ⟨T3, o3, sc_step p1 hf, by omega, p3, fun S r hS hJ3 => q4 S r hS (fun J hJ => m_or_go hJ hS (hbw q1) (p4 (22 :: S) r (Or.inr ⟨S, rfl⟩) (hJ3 [22] (Or.inr (Or.inr (Or.inl rfl)))) (hJ3 [21, 22] (Or.inr (Or.inr (Or.inr rfl))))))⟩
      · cases hx
        refine And.intro (fun _ => ?_) (fun q => absurd rfl q)
        refine ⟨by decide, fun b n M C T o hst => Or.inr ⟨rfl, ?_⟩⟩
        obtain ⟨T1, o1, q1, q2, q3, q4⟩ := hinv b n M C T o hst
        have hno : ¬ m_or T1 := fun q => g1 ((c_tok_word q1.2.1 (w := 13) rfl).mpr q)
        exact ⟨T1, o1, q1, by omega, q3, hno, fun S r hS h => q4 S r hS (fun J hJ => m_Jgo hJ hS q3 hno h)⟩
set_option maxHeartbeats 4000000 in
theorem xn_one_5 (hE : z_EX EX) : x_Ok EX l zTB zNT kc D vwCl xb nTY ad yP0 65 16 (xr_rd 5) (xo_one 5) := by
  refine x_loop (ct := x_ctl [(109, 0, xr_sign, xo_isSign), (106, 0, xr_ref, xo_ref), (100, 1, xr_adv, xo_adv), (110, 2, xr_ts, xo_ts), (56, 0, xr_as, xo_as), (66, 3, xr_say, xo_say), (63, 15, xr_rd 6, xo_cond 6), (65, 13, xr_rd 6, xo_one 6)]) (M := ym_X8_readOne) hE y_prog 80 rfl (by decide) (x_ctl_cons (xn_isSign hE) (x_ctl_cons (xn_ref hE) (x_ctl_cons (xn_adv hE) (x_ctl_cons (xn_ts hE) (x_ctl_cons (xn_as hE) (x_ctl_cons (xn_say hE) (x_ctl_cons (xn_cond_6 hE) (x_ctl_cons (xn_one_6 hE) x_ctl_nil)))))))) (fun za I L ⟨h, _⟩ => by subst h; exact (by decide : 2 ≤ 4)) (x_cut1 46) (sc_oneI 5) (fun za I L ⟨h, b, n, M, C, T, o, hst⟩ => ?_) (fun za I L ⟨_, b, n, M, C, T, o, hst⟩ m pc lv sv I' L' hc hi => ?_)
  · subst h
    refine And.intro ⟨40, rfl⟩ ?_
    rintro rv I1 L1 ⟨rfl, rfl, x, hx, ⟨g1, g2, rfl⟩ | ⟨g1, rfl⟩⟩
    · cases hx
      refine And.intro (fun _ => ?_) (fun q => absurd q (by decide))
      exact ⟨0, [(0, xR 127), (1, .inl 5), (2, .inl 1)], ⟨rfl, rfl, rfl, trivial⟩, rfl, rfl, rfl, rfl, rfl, 1, rfl, Or.inl ⟨rfl, g1, g2⟩⟩
    · cases hx
      refine And.intro (fun q => absurd rfl q) (fun _ => ?_)
      have hbad : ¬ (I1 1 6 = 2 ∧ 15 ≤ I1 1 7) → xo_one 5 [xR 127, .inl 5] I1 L1 (some (.inl 0)) (x_bad I1 1) L1 := fun hn b n M C T o hst => by
        refine Or.inl ⟨rfl, fun S => ?_⟩
        have h9 : I1 1 4 = T.2.1 := hst.2.1.1
        show m_ans b n M C (false, T, o, 5, S) (.inl (I1 1 4, 1))
        rw [h9]
        refine m_bad1 (fun q => ?_)
        rcases q with q | q
        · have hs := c_tok_sign hst.2.1
          have h8 := hs.1.mpr q.1
          exact g1 ⟨h8, (hs.2 h8).trans q.2⟩
        · obtain ⟨w, w1, w2⟩ := sc_W1 _ q.2
          have h8 := (c_tok_word hst.2.1 w2).mpr ⟨q.1, rfl⟩
          exact hn ⟨h8.1, by omega⟩
      intro k (hk : k = I1 1 6) _
      refine And.intro ?_ ?_
      · intro t1
        refine And.intro ⟨1, rfl, by decide, by decide⟩ ?_
        rintro rv I2 L2 ⟨f, hf, rfl, rfl, rfl⟩
        cases hf
        exact ⟨by decide, hbad (by omega)⟩
      · intro t1 v (hv : v = I1 1 7) _
        refine And.intro ?_ ?_
        · intro t2
          have h23 : I1 1 7 ≤ 23 := by
            rcases hst.2.1.2.2 with ⟨q1, q2⟩ | ⟨q1, q2⟩ | ⟨q1, q2, q3⟩ | ⟨q1, q2, q3⟩ | ⟨q1, q2, q3⟩
            · omega
            · omega
            · rcases q3 with ⟨w, w1, w2, w3⟩ | ⟨w1, w2⟩
              · have : w < 24 := (List.getElem?_eq_some_iff.mp w1).1
                omega
              · omega
            · omega
            · omega
          exact ⟨0, [(0, xR 127), (1, .inl 5), (2, .inl 0)], ⟨rfl, rfl, rfl, trivial⟩, rfl, rfl, rfl, rfl, rfl, 0, rfl, Or.inr ⟨rfl, by omega, by omega, h23⟩⟩
        · intro t2
          refine And.intro ⟨1, rfl, by decide, by decide⟩ ?_
          rintro rv I2 L2 ⟨f, hf, rfl, rfl, rfl⟩
          cases hf
          exact ⟨by decide, hbad (by omega)⟩
  · obtain ⟨rfl, rfl, rfl, rfl, rfl, br, rfl, hbr⟩ := hi
    have hone : ∀ {b : Nat → Int} {n : Int} {M C : List Int} {T : pT} {o : Int}, sc_st b n M C T o I' L' → m_one T := fun {b n M C T o} hst => by
      rcases hbr with ⟨_, q1, q2⟩ | ⟨_, q1, q2, q3⟩
      · have hs := c_tok_sign hst.2.1
        exact Or.inl ⟨hs.1.mp q1, by rw [← hs.2 q1]; exact q2⟩
      · obtain ⟨s, s1, s2⟩ := sc_W2 ⟨(I' 1 7).toNat, by omega⟩ (show 15 ≤ (I' 1 7).toNat by omega)
        have h8 := (c_tok_word hst.2.1 s2).mp ⟨q1, by dsimp only; omega⟩
        exact Or.inr ⟨h8.1, by rw [h8.2]; exact s1⟩
    intro z (hz : z = I' 127 5) (bz : 0 ≤ z ∧ z ≤ 20)
    have hzo : ∀ {b : Nat → Int} {n : Int} {M C : List Int} {T : pT} {o : Int}, sc_st b n M C T o I' L' → o = z := fun {b n M C T o} hst => by
      have := hst.2.2.2.2.1
      omega
    have hmany : (20 ≤ z ∨ (8 : Int) < 5) → xo_one 5 [xR 127, .inl 5] I' L' (some (.inl 0)) (x_bad I' 4) L' := fun hn b n M C T o hst => by
      refine Or.inl ⟨rfl, fun S => ?_⟩
      have h9 : I' 1 4 = T.2.1 := hst.2.1.1
      show m_ans b n M C (false, T, o, 5, S) (.inl (I' 1 4, 4))
      rw [h9]
      exact m_bad4 (hone hst) (by rw [hzo hst]; exact hn)
    refine And.intro ?_ ?_
    · intro t1
      refine And.intro ⟨4, rfl, by decide, by decide⟩ ?_
      rintro rv I2 L2 ⟨f, hf, rfl, rfl, rfl⟩
      cases hf
      exact ⟨by decide, hmany (Or.inl t1)⟩
    · intro t1
      refine And.intro ?_ ?_
      · intro t2
        have hno : ∀ {b : Nat → Int} {n : Int} {M C : List Int} {T : pT} {o : Int}, sc_st b n M C T o I' L' → ¬ (20 ≤ o ∨ (8 : Int) < 5) := fun {b n M C T o} hst => by
          have := hzo hst
          omega
        have hk2 : ∀ {b : Nat → Int} {n : Int} {M C : List Int} {T : pT} {o : Int}, sc_st b n M C T o I' L' → 2 ≤ T.1 := fun {b n M C T o} hst => by
          rcases hone hst with q | q <;> omega
        intro z3 (hz3 : z3 = I' 127 5) _
        refine Or.inl ⟨by omega, ?_⟩
        refine And.intro (show 0 ≤ z3 + 1 ∧ z3 + 1 ≤ 20 by omega) ?_
        intro w (hw : w = I' 1 7) _
        refine And.intro ⟨rfl, (show x_bh I' from sc_bh hst (hk2 hst))⟩ ?_
        intro rv I2 L2 hadv
        have h9 := hadv.1
        subst h9
        have hnx : ∀ {b : Nat → Int} {n : Int} {M C : List Int} {T : pT} {o : Int}, sc_st b n M C T o I' L' → sc_st b n M C (m_nx b n T) (o + 1) I2 L2 := fun {b n M C T o} hst => sc_adv (hk2 hst) (sc_ones hst (z := z3) (by have := hzo hst; omega) (by have := hzo hst; omega)) hadv
        refine And.intro ?_ ?_
        · intro t3
          rcases hbr with ⟨q, _⟩ | ⟨_, q1, q2, q3⟩
          · omega
          obtain ⟨s, hs⟩ : ∃ s, x_W32[w.toNat]? = some s := ⟨_, List.getElem?_eq_getElem (show w.toNat < x_W32.length by
            have : x_W32.length = 24 := rfl
            omega)⟩
          have hTs : ∀ {b : Nat → Int} {n : Int} {M C : List Int} {T : pT} {o : Int}, sc_st b n M C T o I' L' → T.1 = 2 ∧ T.2.2.2 = s := fun {b n M C T o} hst => (c_tok_word hst.2.1 hs).mp ⟨q1, by omega⟩
          refine And.intro ?_ ?_
          · intro t4
            have hsW : s ∈ m_W ∧ s ≠ 14836 := by
              have hv : w.toNat = 16 ∨ w.toNat = 17 ∨ w.toNat = 18 ∨ w.toNat = 19 ∨ w.toNat = 20 ∨ w.toNat = 21 ∨ w.toNat = 22 ∨ w.toNat = 23 := by omega
              rcases hv with hv | hv | hv | hv | hv | hv | hv | hv <;> (rw [hv] at hs; have h8 := Option.some.inj hs; subst h8; decide)
            have hza : ([xR 127, .inl w] : List xV) = [xR 127, .inl ((w.toNat : Nat) : Int)] := by rw [show ((w.toNat : Nat) : Int) = w by omega]
            refine And.intro ⟨w.toNat, hza, ⟨by omega, by omega⟩, _, _, _, _, _, _, hnx hst⟩ ?_
            intro rv I3 L3 hp
            obtain ⟨nu, _, rfl⟩ := hp w.toNat hza s hs _ _ _ _ _ _ (hnx hst)
            refine ⟨by split <;> decide, fun b n M C T o hst => ?_⟩
            obtain ⟨nu2, hlf2, e2⟩ := hp w.toNat hza s hs _ _ _ _ _ _ (hnx hst)
            have hT := hTs hst
            have hmf := fun (S : List Nat) => m_lf (b := b) (n := n) (M := M) (C := C) (T := T) (o := o) (d := 5) (S := S) (show T.1 = 2 ∧ T.2.2.2 ∈ m_W ∧ T.2.2.2 ≠ 14836 from ⟨hT.1, by rw [hT.2]; exact hsW.1, by rw [hT.2]; exact hsW.2⟩) (hno hst)
            rcases hr : m_leaf b n M C s (m_nx b n T) with ⟨at0, f⟩ | T'
            · rw [hr] at hlf2
              obtain ⟨l0, l1, l2⟩ := hlf2
              refine Or.inl ⟨by rw [e2, if_pos l0], fun S => ?_⟩
              rw [l1, l2]
              exact (hmf S).1 _ (by rw [hT.2]; exact hr)
            · rw [hr] at hlf2
              obtain ⟨l0, l1, l2⟩ := hlf2
              exact Or.inr ⟨by rw [e2, if_neg (by omega)], T', o + 1, l2, Int.le_refl _, fun S r h => (hmf S).2 T' r (by rw [hT.2]; exact hr) h⟩
          · intro t4
            have hs15 : s = 14836 := by
              have hv : w.toNat = 15 := by omega
              rw [hv] at hs
              exact (Option.some.inj hs).symm
            refine Or.inl ⟨by decide, ?_⟩
            refine And.intro ⟨rfl, _, _, _, _, _, _, hnx hst⟩ ?_
            intro rv I3 L3 hp
            rcases hp _ _ _ _ _ _ (hnx hst) with ⟨rfl, _⟩ | ⟨rfl, _⟩
            · refine And.intro (fun q => absurd rfl q) (fun _ => ?_)
              refine ⟨by decide, fun b n M C T o hst => Or.inl ⟨rfl, fun S => ?_⟩⟩
              rcases hp _ _ _ _ _ _ (hnx hst) with ⟨_, h9⟩ | ⟨h9, _⟩
              · exact m_nt (hno hst) ⟨(hTs hst).1, (hTs hst).2.trans hs15⟩ (h9 (20 :: S))
              · exact (sc_01 h9).elim
            · refine And.intro (fun _ => ?_) (fun q => absurd q (by decide))
              refine And.intro ⟨15, 0, 0, rfl, by decide, by decide, by decide⟩ ?_
              rintro rv I4 L4 ⟨rfl, rfl, hf⟩
              refine ⟨by decide, fun b n M C T o hst => Or.inr ⟨rfl, ?_⟩⟩
              rcases hp _ _ _ _ _ _ (hnx hst) with ⟨h9, _⟩ | ⟨_, T3, o3, p1, p2, p3⟩
              · exact (sc_10 h9).elim
              · exact ⟨T3, o3, sc_step p1 hf, by omega, fun S r h => m_nt (hno hst) ⟨(hTs hst).1, (hTs hst).2.trans hs15⟩ (p3 (20 :: S) r (m_not h))⟩
        · intro t3
          rcases hbr with ⟨_, q1, q2⟩ | ⟨q, _⟩
          rotate_left
          · exact absurd q t3
          have hTs : ∀ {b : Nat → Int} {n : Int} {M C : List Int} {T : pT} {o : Int}, sc_st b n M C T o I' L' → T.1 = 5 := fun {b n M C T o} hst => (c_tok_sign hst.2.1).1.mp q1
          refine Or.inl ⟨by decide, ?_⟩
          refine And.intro ⟨rfl, _, _, _, _, _, _, hnx hst⟩ ?_
          intro rv I3 L3 hp
          rcases hp _ _ _ _ _ _ (hnx hst) with ⟨rfl, _⟩ | ⟨rfl, T0, o0, hst0, _⟩
          · refine And.intro (fun _ => ?_) (fun q => absurd rfl q)
            refine ⟨by decide, fun b n M C T o hst => Or.inl ⟨rfl, fun S => ?_⟩⟩
            rcases hp _ _ _ _ _ _ (hnx hst) with ⟨_, h9⟩ | ⟨h9, _⟩
            · exact m_open (hone hst) (hno hst) (hTs hst) (h9 (23 :: S) (Or.inr ⟨S, rfl⟩))
            · exact (sc_01 h9).elim
          · refine And.intro (fun q => absurd q (by decide)) (fun _ => ?_)
            refine And.intro ⟨41, rfl, fun q => sc_bh hst0 (by have := (c_tok_sign hst0.2.1).1.mp q; omega)⟩ ?_
            rintro rv I4 L4 ⟨x, hx, ⟨g1, g2, rfl, hadv4⟩ | ⟨g1, rfl, g3, g4⟩⟩
            · cases hx
              refine And.intro (fun q => absurd q (by decide)) (fun _ => ?_)
              refine ⟨by decide, fun b n M C T o hst => Or.inr ⟨rfl, ?_⟩⟩
              rcases hp _ _ _ _ _ _ (hnx hst) with ⟨h9, _⟩ | ⟨_, T3, o3, p1, p2, p3, p4, p5⟩
              · exact (sc_10 h9).elim
              · have hs := c_tok_sign p1.2.1
                exact ⟨m_nx b n T3, o3, sc_adv (by have := hs.1.mp g1; omega) p1 hadv4, by omega, fun S r h => m_open (hone hst) (hno hst) (hTs hst) (p5 (23 :: S) r (Or.inr ⟨S, rfl⟩) (m_close ⟨hs.1.mp g1, (hs.2 g1).symm.trans g2⟩ h))⟩
            · cases hx
              subst g3
              subst g4
              refine And.intro (fun _ => ?_) (fun q => absurd rfl q)
              refine ⟨by decide, fun b n M C T o hst => Or.inl ⟨rfl, fun S => ?_⟩⟩
              rcases hp _ _ _ _ _ _ (hnx hst) with ⟨h9, _⟩ | ⟨_, T3, o3, p1, p2, p3, p4, p5⟩
              · exact (sc_10 h9).elim
              · have hs := c_tok_sign p1.2.1
                have h9 : I3 1 4 = T3.2.1 := p1.2.1.1
                show m_ans b n M C (false, T, o, 5, S) (.inl (I3 1 4, 1))
                rw [h9]
                exact m_open (hone hst) (hno hst) (hTs hst) (p5 (23 :: S) _ (Or.inr ⟨S, rfl⟩) (m_noclose p3 p4 (fun q => g1 ⟨hs.1.mpr q.1, (hs.2 (hs.1.mpr q.1)).trans q.2⟩)))
      · intro t2
        refine And.intro ⟨4, rfl, by decide, by decide⟩ ?_
        rintro rv I2 L2 ⟨f, hf, rfl, rfl, rfl⟩
        cases hf
        exact ⟨by decide, hmany (Or.inr t2)⟩
set_option maxHeartbeats 4000000 in
theorem xn_all_5 (hE : z_EX EX) : x_Ok EX l zTB zNT kc D vwCl xb nTY ad yP0 64 17 (xr_rd 5) (xo_all 5) := by
  refine x_loop (ct := x_ctl [(65, 16, xr_rd 5, xo_one 5), (108, 0, xr_sign, xo_isWord), (100, 1, xr_adv, xo_adv), (56, 0, xr_as, xo_as)]) (M := ym_X8_readAll) hE y_prog 60 rfl (by decide) (x_ctl_cons (xn_one_5 hE) (x_ctl_cons (xn_isWord hE) (x_ctl_cons (xn_adv hE) (x_ctl_cons (xn_as hE) x_ctl_nil)))) (fun za I L ⟨h, _⟩ => by subst h; exact (by decide : 2 ≤ 3)) (x_cut1 12) (sc_allI 5) (fun za I L ⟨h, b, n, M, C, T, o, hst⟩ => ?_) (fun za I L ⟨_, b, n, M, C, T, o, hst⟩ m pc lv sv I' L' hc hi => ?_)
  · subst h
    refine And.intro ⟨rfl, b, n, M, C, T, o, hst⟩ ?_
    intro rv I1 L1 hp
    rcases hp b n M C T o hst with ⟨rfl, _⟩ | ⟨rfl, _⟩
    · refine And.intro (fun q => absurd rfl q) (fun _ => ?_)
      refine ⟨by decide, fun b n M C T o hst => Or.inl ⟨rfl, fun S hS => ?_⟩⟩
      rcases hp b n M C T o hst with ⟨_, h9⟩ | ⟨h9, _⟩
      · exact h9 S
      · exact (sc_01 h9).elim
    · refine And.intro (fun _ => ?_) (fun q => absurd q (by decide))
      refine ⟨20, [(0, xR 127), (1, .inl 5), (2, .inl ((0 : Nat) : Int))], ⟨rfl, rfl, rfl, trivial⟩, rfl, rfl, 0, by omega, rfl, rfl, fun b n M C T o hst => ?_⟩
      rcases hp b n M C T o hst with ⟨h9, _⟩ | ⟨_, T1, o1, g1, g2, g3⟩
      · exact (sc_10 h9).elim
      · exact ⟨T1, o1, g1, by omega, fun S r _ h1 _ => g3 S r h1⟩
  · obtain ⟨rfl, rfl, k, hk, rfl, rfl, hinv⟩ := hi
    obtain ⟨T0, o0, hst0, ho0, _⟩ := hinv b n M C T o hst
    have ho := hst.2.2.2.2.2.1
    have ho20 := hst0.2.2.2.2.2.2
    refine And.intro ?_ ?_
    · intro t1
      exfalso
      omega
    · intro t1
      refine And.intro ⟨14, rfl⟩ ?_
      rintro rv I1 L1 ⟨rfl, rfl, x, hx, ⟨g1, g2, rfl⟩ | ⟨g1, rfl⟩⟩
      · cases hx
        refine And.intro (fun q => absurd q (by decide)) (fun _ => ?_)
        have hbw : ∀ {b : Nat → Int} {n : Int} {M C : List Int} {T : pT} {o : Int}, sc_st b n M C T o I1 L1 → m_and T := fun h => (c_tok_word h.2.1 (w := 14) rfl).mp ⟨g1, g2⟩
        refine And.intro ⟨rfl, sc_bh hst0 (by have := (hbw hst0).1; omega)⟩ ?_
        intro rv I2 L2 hadv
        have h9 := hadv.1
        subst h9
        have hnx : ∀ {b : Nat → Int} {n : Int} {M C : List Int} {T : pT} {o : Int}, sc_st b n M C T o I1 L1 → sc_st b n M C (m_nx b n T) o I2 L2 := fun h => sc_adv (by have := (hbw h).1; omega) h hadv
        refine And.intro ⟨rfl, _, _, _, _, _, _, hnx hst0⟩ ?_
        intro rv I3 L3 hp
        rcases hp _ _ _ _ _ _ (hnx hst0) with ⟨rfl, _⟩ | ⟨rfl, _⟩
        · refine And.intro (fun q => absurd rfl q) (fun _ => ?_)
          refine ⟨by decide, fun b n M C T o hst => Or.inl ⟨rfl, fun S hS => ?_⟩⟩
          obtain ⟨T1, o1, q1, q2, q3⟩ := hinv b n M C T o hst
          rcases hp _ _ _ _ _ _ (hnx q1) with ⟨_, h9⟩ | ⟨h9, _⟩
          · have h8 := m_and_go hS (hbw q1) (h9 (21 :: S))
            exact q3 S _ hS h8.1 h8.2
          · exact (sc_01 h9).elim
        · refine And.intro (fun _ => ?_) (fun q => absurd q (by decide))
          refine And.intro ⟨14, 0, 0, rfl, by decide, by decide, by decide⟩ ?_
          rintro rv I4 L4 ⟨rfl, rfl, hf⟩
          refine Or.inl ⟨by omega, 20 - (k + 1), [(0, xR 127), (1, .inl 5), (2, .inl ((k + 1 : Nat) : Int))], by omega, ⟨rfl, rfl, rfl, trivial⟩, rfl, rfl, k + 1, by omega, rfl, rfl, fun b n M C T o hst => ?_⟩
          obtain ⟨T1, o1, q1, q2, q3⟩ := hinv b n M C T o hst
          rcases hp _ _ _ _ _ _ (hnx q1) with ⟨h9, _⟩ | ⟨_, T3, o3, p1, p2, p3⟩
          · exact (sc_10 h9).elim
          · refine ⟨T3, o3, sc_step p1 hf, by omega, fun S r hS r1 r2 => ?_⟩
            have h8 := m_and_go hS (hbw q1) (p3 (21 :: S) r r2)
            exact q3 S r hS h8.1 h8.2
      · cases hx
        refine And.intro (fun _ => ?_) (fun q => absurd rfl q)
        refine ⟨by decide, fun b n M C T o hst => Or.inr ⟨rfl, ?_⟩⟩
        obtain ⟨T1, o1, q1, q2, q3⟩ := hinv b n M C T o hst
        exact ⟨T1, o1, q1, by omega, fun q => g1 ((c_tok_word q1.2.1 (w := 14) rfl).mpr q), q3⟩
set_option maxHeartbeats 4000000 in
theorem xn_cond_5 (hE : z_EX EX) : x_Ok EX l zTB zNT kc D vwCl xb nTY ad yP0 63 18 (xr_rd 5) (xo_cond 5) := by
  refine x_loop (ct := x_ctl [(64, 17, xr_rd 5, xo_all 5), (108, 0, xr_sign, xo_isWord), (100, 1, xr_adv, xo_adv), (56, 0, xr_as, xo_as)]) (M := ym_X8_readCond) hE y_prog 60 rfl (by decide) (x_ctl_cons (xn_all_5 hE) (x_ctl_cons (xn_isWord hE) (x_ctl_cons (xn_adv hE) (x_ctl_cons (xn_as hE) x_ctl_nil)))) (fun za I L ⟨h, _⟩ => by subst h; exact (by decide : 2 ≤ 3)) (x_cut1 12) (sc_condI 5) (fun za I L ⟨h, b, n, M, C, T, o, hst⟩ => ?_) (fun za I L ⟨_, b, n, M, C, T, o, hst⟩ m pc lv sv I' L' hc hi => ?_)
  · subst h
    refine And.intro ⟨rfl, b, n, M, C, T, o, hst⟩ ?_
    intro rv I1 L1 hp
    rcases hp b n M C T o hst with ⟨rfl, _⟩ | ⟨rfl, _⟩
    · refine And.intro (fun q => absurd rfl q) (fun _ => ?_)
      refine ⟨by decide, fun b n M C T o hst => Or.inl ⟨rfl, fun S hS => ?_⟩⟩
      rcases hp b n M C T o hst with ⟨_, h9⟩ | ⟨h9, _⟩
      · exact h9 S (Or.inl hS)
      · exact (sc_01 h9).elim
    · refine And.intro (fun _ => ?_) (fun q => absurd q (by decide))
      refine ⟨20, [(0, xR 127), (1, .inl 5), (2, .inl ((0 : Nat) : Int))], ⟨rfl, rfl, rfl, trivial⟩, rfl, rfl, 0, by omega, rfl, rfl, fun b n M C T o hst => ?_⟩
      rcases hp b n M C T o hst with ⟨h9, _⟩ | ⟨_, T1, o1, g1, g2, g3, g4⟩
      · exact (sc_10 h9).elim
      · exact ⟨T1, o1, g1, by omega, g3, fun S r hS hJ => g4 S r (Or.inl hS) (hJ [] (Or.inl rfl)) (hJ [21] (Or.inr (Or.inl rfl)))⟩
  · obtain ⟨rfl, rfl, k, hk, rfl, rfl, hinv⟩ := hi
    obtain ⟨T0, o0, hst0, ho0, _⟩ := hinv b n M C T o hst
    have ho := hst.2.2.2.2.2.1
    have ho20 := hst0.2.2.2.2.2.2
    refine And.intro ?_ ?_
    · intro t1
      exfalso
      omega
    · intro t1
      refine And.intro ⟨13, rfl⟩ ?_
      rintro rv I1 L1 ⟨rfl, rfl, x, hx, ⟨g1, g2, rfl⟩ | ⟨g1, rfl⟩⟩
      · cases hx
        refine And.intro (fun q => absurd q (by decide)) (fun _ => ?_)
        have hbw : ∀ {b : Nat → Int} {n : Int} {M C : List Int} {T : pT} {o : Int}, sc_st b n M C T o I1 L1 → m_or T := fun h => (c_tok_word h.2.1 (w := 13) rfl).mp ⟨g1, g2⟩
        refine And.intro ⟨rfl, sc_bh hst0 (by have := (hbw hst0).1; omega)⟩ ?_
        intro rv I2 L2 hadv
        have h9 := hadv.1
        subst h9
        have hnx : ∀ {b : Nat → Int} {n : Int} {M C : List Int} {T : pT} {o : Int}, sc_st b n M C T o I1 L1 → sc_st b n M C (m_nx b n T) o I2 L2 := fun h => sc_adv (by have := (hbw h).1; omega) h hadv
        refine And.intro ⟨rfl, _, _, _, _, _, _, hnx hst0⟩ ?_
        intro rv I3 L3 hp
        rcases hp _ _ _ _ _ _ (hnx hst0) with ⟨rfl, _⟩ | ⟨rfl, _⟩
        · refine And.intro (fun q => absurd rfl q) (fun _ => ?_)
          refine ⟨by decide, fun b n M C T o hst => Or.inl ⟨rfl, fun S hS => ?_⟩⟩
          obtain ⟨T1, o1, q1, q2, q3, q4⟩ := hinv b n M C T o hst
          rcases hp _ _ _ _ _ _ (hnx q1) with ⟨_, h9⟩ | ⟨h9, _⟩
          · exact q4 S _ hS (fun J hJ => m_or_go hJ hS (hbw q1) (h9 (22 :: S) (Or.inr ⟨S, rfl⟩)))
          · exact (sc_01 h9).elim
        · refine And.intro (fun _ => ?_) (fun q => absurd q (by decide))
          refine And.intro ⟨13, 0, 0, rfl, by decide, by decide, by decide⟩ ?_
          rintro rv I4 L4 ⟨rfl, rfl, hf⟩
          refine Or.inl ⟨by omega, 20 - (k + 1), [(0, xR 127), (1, .inl 5), (2, .inl ((k + 1 : Nat) : Int))], by omega, ⟨rfl, rfl, rfl, trivial⟩, rfl, rfl, k + 1, by omega, rfl, rfl, fun b n M C T o hst => ?_⟩
          obtain ⟨T1, o1, q1, q2, q3, q4⟩ := hinv b n M C T o hst
          rcases hp _ _ _ _ _ _ (hnx q1) with ⟨h9, _⟩ | ⟨_, T3, o3, p1, p2, p3, p4⟩
          · exact (sc_10 h9).elim
          · exact ⟨T3, o3, sc_step p1 hf, by omega, p3, fun S r hS hJ3 => q4 S r hS (fun J hJ => m_or_go hJ hS (hbw q1) (p4 (22 :: S) r (Or.inr ⟨S, rfl⟩) (hJ3 [22] (Or.inr (Or.inr (Or.inl rfl)))) (hJ3 [21, 22] (Or.inr (Or.inr (Or.inr rfl))))))⟩
      · cases hx
        refine And.intro (fun _ => ?_) (fun q => absurd rfl q)
        refine ⟨by decide, fun b n M C T o hst => Or.inr ⟨rfl, ?_⟩⟩
        obtain ⟨T1, o1, q1, q2, q3, q4⟩ := hinv b n M C T o hst
        have hno : ¬ m_or T1 := fun q => g1 ((c_tok_word q1.2.1 (w := 13) rfl).mpr q)
        exact ⟨T1, o1, q1, by omega, q3, hno, fun S r hS h => q4 S r hS (fun J hJ => m_Jgo hJ hS q3 hno h)⟩
set_option maxHeartbeats 4000000 in
theorem xn_one_4 (hE : z_EX EX) : x_Ok EX l zTB zNT kc D vwCl xb nTY ad yP0 65 19 (xr_rd 4) (xo_one 4) := by
  refine x_loop (ct := x_ctl [(109, 0, xr_sign, xo_isSign), (106, 0, xr_ref, xo_ref), (100, 1, xr_adv, xo_adv), (110, 2, xr_ts, xo_ts), (56, 0, xr_as, xo_as), (66, 3, xr_say, xo_say), (63, 18, xr_rd 5, xo_cond 5), (65, 16, xr_rd 5, xo_one 5)]) (M := ym_X8_readOne) hE y_prog 80 rfl (by decide) (x_ctl_cons (xn_isSign hE) (x_ctl_cons (xn_ref hE) (x_ctl_cons (xn_adv hE) (x_ctl_cons (xn_ts hE) (x_ctl_cons (xn_as hE) (x_ctl_cons (xn_say hE) (x_ctl_cons (xn_cond_5 hE) (x_ctl_cons (xn_one_5 hE) x_ctl_nil)))))))) (fun za I L ⟨h, _⟩ => by subst h; exact (by decide : 2 ≤ 4)) (x_cut1 46) (sc_oneI 4) (fun za I L ⟨h, b, n, M, C, T, o, hst⟩ => ?_) (fun za I L ⟨_, b, n, M, C, T, o, hst⟩ m pc lv sv I' L' hc hi => ?_)
  · subst h
    refine And.intro ⟨40, rfl⟩ ?_
    rintro rv I1 L1 ⟨rfl, rfl, x, hx, ⟨g1, g2, rfl⟩ | ⟨g1, rfl⟩⟩
    · cases hx
      refine And.intro (fun _ => ?_) (fun q => absurd q (by decide))
      exact ⟨0, [(0, xR 127), (1, .inl 4), (2, .inl 1)], ⟨rfl, rfl, rfl, trivial⟩, rfl, rfl, rfl, rfl, rfl, 1, rfl, Or.inl ⟨rfl, g1, g2⟩⟩
    · cases hx
      refine And.intro (fun q => absurd rfl q) (fun _ => ?_)
      have hbad : ¬ (I1 1 6 = 2 ∧ 15 ≤ I1 1 7) → xo_one 4 [xR 127, .inl 4] I1 L1 (some (.inl 0)) (x_bad I1 1) L1 := fun hn b n M C T o hst => by
        refine Or.inl ⟨rfl, fun S => ?_⟩
        have h9 : I1 1 4 = T.2.1 := hst.2.1.1
        show m_ans b n M C (false, T, o, 4, S) (.inl (I1 1 4, 1))
        rw [h9]
        refine m_bad1 (fun q => ?_)
        rcases q with q | q
        · have hs := c_tok_sign hst.2.1
          have h8 := hs.1.mpr q.1
          exact g1 ⟨h8, (hs.2 h8).trans q.2⟩
        · obtain ⟨w, w1, w2⟩ := sc_W1 _ q.2
          have h8 := (c_tok_word hst.2.1 w2).mpr ⟨q.1, rfl⟩
          exact hn ⟨h8.1, by omega⟩
      intro k (hk : k = I1 1 6) _
      refine And.intro ?_ ?_
      · intro t1
        refine And.intro ⟨1, rfl, by decide, by decide⟩ ?_
        rintro rv I2 L2 ⟨f, hf, rfl, rfl, rfl⟩
        cases hf
        exact ⟨by decide, hbad (by omega)⟩
      · intro t1 v (hv : v = I1 1 7) _
        refine And.intro ?_ ?_
        · intro t2
          have h23 : I1 1 7 ≤ 23 := by
            rcases hst.2.1.2.2 with ⟨q1, q2⟩ | ⟨q1, q2⟩ | ⟨q1, q2, q3⟩ | ⟨q1, q2, q3⟩ | ⟨q1, q2, q3⟩
            · omega
            · omega
            · rcases q3 with ⟨w, w1, w2, w3⟩ | ⟨w1, w2⟩
              · have : w < 24 := (List.getElem?_eq_some_iff.mp w1).1
                omega
              · omega
            · omega
            · omega
          exact ⟨0, [(0, xR 127), (1, .inl 4), (2, .inl 0)], ⟨rfl, rfl, rfl, trivial⟩, rfl, rfl, rfl, rfl, rfl, 0, rfl, Or.inr ⟨rfl, by omega, by omega, h23⟩⟩
        · intro t2
          refine And.intro ⟨1, rfl, by decide, by decide⟩ ?_
          rintro rv I2 L2 ⟨f, hf, rfl, rfl, rfl⟩
          cases hf
          exact ⟨by decide, hbad (by omega)⟩
  · obtain ⟨rfl, rfl, rfl, rfl, rfl, br, rfl, hbr⟩ := hi
    have hone : ∀ {b : Nat → Int} {n : Int} {M C : List Int} {T : pT} {o : Int}, sc_st b n M C T o I' L' → m_one T := fun {b n M C T o} hst => by
      rcases hbr with ⟨_, q1, q2⟩ | ⟨_, q1, q2, q3⟩
      · have hs := c_tok_sign hst.2.1
        exact Or.inl ⟨hs.1.mp q1, by rw [← hs.2 q1]; exact q2⟩
      · obtain ⟨s, s1, s2⟩ := sc_W2 ⟨(I' 1 7).toNat, by omega⟩ (show 15 ≤ (I' 1 7).toNat by omega)
        have h8 := (c_tok_word hst.2.1 s2).mp ⟨q1, by dsimp only; omega⟩
        exact Or.inr ⟨h8.1, by rw [h8.2]; exact s1⟩
    intro z (hz : z = I' 127 5) (bz : 0 ≤ z ∧ z ≤ 20)
    have hzo : ∀ {b : Nat → Int} {n : Int} {M C : List Int} {T : pT} {o : Int}, sc_st b n M C T o I' L' → o = z := fun {b n M C T o} hst => by
      have := hst.2.2.2.2.1
      omega
    have hmany : (20 ≤ z ∨ (8 : Int) < 4) → xo_one 4 [xR 127, .inl 4] I' L' (some (.inl 0)) (x_bad I' 4) L' := fun hn b n M C T o hst => by
      refine Or.inl ⟨rfl, fun S => ?_⟩
      have h9 : I' 1 4 = T.2.1 := hst.2.1.1
      show m_ans b n M C (false, T, o, 4, S) (.inl (I' 1 4, 4))
      rw [h9]
      exact m_bad4 (hone hst) (by rw [hzo hst]; exact hn)
    refine And.intro ?_ ?_
    · intro t1
      refine And.intro ⟨4, rfl, by decide, by decide⟩ ?_
      rintro rv I2 L2 ⟨f, hf, rfl, rfl, rfl⟩
      cases hf
      exact ⟨by decide, hmany (Or.inl t1)⟩
    · intro t1
      refine And.intro ?_ ?_
      · intro t2
        have hno : ∀ {b : Nat → Int} {n : Int} {M C : List Int} {T : pT} {o : Int}, sc_st b n M C T o I' L' → ¬ (20 ≤ o ∨ (8 : Int) < 4) := fun {b n M C T o} hst => by
          have := hzo hst
          omega
        have hk2 : ∀ {b : Nat → Int} {n : Int} {M C : List Int} {T : pT} {o : Int}, sc_st b n M C T o I' L' → 2 ≤ T.1 := fun {b n M C T o} hst => by
          rcases hone hst with q | q <;> omega
        intro z3 (hz3 : z3 = I' 127 5) _
        refine Or.inl ⟨by omega, ?_⟩
        refine And.intro (show 0 ≤ z3 + 1 ∧ z3 + 1 ≤ 20 by omega) ?_
        intro w (hw : w = I' 1 7) _
        refine And.intro ⟨rfl, (show x_bh I' from sc_bh hst (hk2 hst))⟩ ?_
        intro rv I2 L2 hadv
        have h9 := hadv.1
        subst h9
        have hnx : ∀ {b : Nat → Int} {n : Int} {M C : List Int} {T : pT} {o : Int}, sc_st b n M C T o I' L' → sc_st b n M C (m_nx b n T) (o + 1) I2 L2 := fun {b n M C T o} hst => sc_adv (hk2 hst) (sc_ones hst (z := z3) (by have := hzo hst; omega) (by have := hzo hst; omega)) hadv
        refine And.intro ?_ ?_
        · intro t3
          rcases hbr with ⟨q, _⟩ | ⟨_, q1, q2, q3⟩
          · omega
          obtain ⟨s, hs⟩ : ∃ s, x_W32[w.toNat]? = some s := ⟨_, List.getElem?_eq_getElem (show w.toNat < x_W32.length by
            have : x_W32.length = 24 := rfl
            omega)⟩
          have hTs : ∀ {b : Nat → Int} {n : Int} {M C : List Int} {T : pT} {o : Int}, sc_st b n M C T o I' L' → T.1 = 2 ∧ T.2.2.2 = s := fun {b n M C T o} hst => (c_tok_word hst.2.1 hs).mp ⟨q1, by omega⟩
          refine And.intro ?_ ?_
          · intro t4
            have hsW : s ∈ m_W ∧ s ≠ 14836 := by
              have hv : w.toNat = 16 ∨ w.toNat = 17 ∨ w.toNat = 18 ∨ w.toNat = 19 ∨ w.toNat = 20 ∨ w.toNat = 21 ∨ w.toNat = 22 ∨ w.toNat = 23 := by omega
              rcases hv with hv | hv | hv | hv | hv | hv | hv | hv <;> (rw [hv] at hs; have h8 := Option.some.inj hs; subst h8; decide)
            have hza : ([xR 127, .inl w] : List xV) = [xR 127, .inl ((w.toNat : Nat) : Int)] := by rw [show ((w.toNat : Nat) : Int) = w by omega]
            refine And.intro ⟨w.toNat, hza, ⟨by omega, by omega⟩, _, _, _, _, _, _, hnx hst⟩ ?_
            intro rv I3 L3 hp
            obtain ⟨nu, _, rfl⟩ := hp w.toNat hza s hs _ _ _ _ _ _ (hnx hst)
            refine ⟨by split <;> decide, fun b n M C T o hst => ?_⟩
            obtain ⟨nu2, hlf2, e2⟩ := hp w.toNat hza s hs _ _ _ _ _ _ (hnx hst)
            have hT := hTs hst
            have hmf := fun (S : List Nat) => m_lf (b := b) (n := n) (M := M) (C := C) (T := T) (o := o) (d := 4) (S := S) (show T.1 = 2 ∧ T.2.2.2 ∈ m_W ∧ T.2.2.2 ≠ 14836 from ⟨hT.1, by rw [hT.2]; exact hsW.1, by rw [hT.2]; exact hsW.2⟩) (hno hst)
            rcases hr : m_leaf b n M C s (m_nx b n T) with ⟨at0, f⟩ | T'
            · rw [hr] at hlf2
              obtain ⟨l0, l1, l2⟩ := hlf2
              refine Or.inl ⟨by rw [e2, if_pos l0], fun S => ?_⟩
              rw [l1, l2]
              exact (hmf S).1 _ (by rw [hT.2]; exact hr)
            · rw [hr] at hlf2
              obtain ⟨l0, l1, l2⟩ := hlf2
              exact Or.inr ⟨by rw [e2, if_neg (by omega)], T', o + 1, l2, Int.le_refl _, fun S r h => (hmf S).2 T' r (by rw [hT.2]; exact hr) h⟩
          · intro t4
            have hs15 : s = 14836 := by
              have hv : w.toNat = 15 := by omega
              rw [hv] at hs
              exact (Option.some.inj hs).symm
            refine Or.inl ⟨by decide, ?_⟩
            refine And.intro ⟨rfl, _, _, _, _, _, _, hnx hst⟩ ?_
            intro rv I3 L3 hp
            rcases hp _ _ _ _ _ _ (hnx hst) with ⟨rfl, _⟩ | ⟨rfl, _⟩
            · refine And.intro (fun q => absurd rfl q) (fun _ => ?_)
              refine ⟨by decide, fun b n M C T o hst => Or.inl ⟨rfl, fun S => ?_⟩⟩
              rcases hp _ _ _ _ _ _ (hnx hst) with ⟨_, h9⟩ | ⟨h9, _⟩
              · exact m_nt (hno hst) ⟨(hTs hst).1, (hTs hst).2.trans hs15⟩ (h9 (20 :: S))
              · exact (sc_01 h9).elim
            · refine And.intro (fun _ => ?_) (fun q => absurd q (by decide))
              refine And.intro ⟨15, 0, 0, rfl, by decide, by decide, by decide⟩ ?_
              rintro rv I4 L4 ⟨rfl, rfl, hf⟩
              refine ⟨by decide, fun b n M C T o hst => Or.inr ⟨rfl, ?_⟩⟩
              rcases hp _ _ _ _ _ _ (hnx hst) with ⟨h9, _⟩ | ⟨_, T3, o3, p1, p2, p3⟩
              · exact (sc_10 h9).elim
              · exact ⟨T3, o3, sc_step p1 hf, by omega, fun S r h => m_nt (hno hst) ⟨(hTs hst).1, (hTs hst).2.trans hs15⟩ (p3 (20 :: S) r (m_not h))⟩
        · intro t3
          rcases hbr with ⟨_, q1, q2⟩ | ⟨q, _⟩
          rotate_left
          · exact absurd q t3
          have hTs : ∀ {b : Nat → Int} {n : Int} {M C : List Int} {T : pT} {o : Int}, sc_st b n M C T o I' L' → T.1 = 5 := fun {b n M C T o} hst => (c_tok_sign hst.2.1).1.mp q1
          refine Or.inl ⟨by decide, ?_⟩
          refine And.intro ⟨rfl, _, _, _, _, _, _, hnx hst⟩ ?_
          intro rv I3 L3 hp
          rcases hp _ _ _ _ _ _ (hnx hst) with ⟨rfl, _⟩ | ⟨rfl, T0, o0, hst0, _⟩
          · refine And.intro (fun _ => ?_) (fun q => absurd rfl q)
            refine ⟨by decide, fun b n M C T o hst => Or.inl ⟨rfl, fun S => ?_⟩⟩
            rcases hp _ _ _ _ _ _ (hnx hst) with ⟨_, h9⟩ | ⟨h9, _⟩
            · exact m_open (hone hst) (hno hst) (hTs hst) (h9 (23 :: S) (Or.inr ⟨S, rfl⟩))
            · exact (sc_01 h9).elim
          · refine And.intro (fun q => absurd q (by decide)) (fun _ => ?_)
            refine And.intro ⟨41, rfl, fun q => sc_bh hst0 (by have := (c_tok_sign hst0.2.1).1.mp q; omega)⟩ ?_
            rintro rv I4 L4 ⟨x, hx, ⟨g1, g2, rfl, hadv4⟩ | ⟨g1, rfl, g3, g4⟩⟩
            · cases hx
              refine And.intro (fun q => absurd q (by decide)) (fun _ => ?_)
              refine ⟨by decide, fun b n M C T o hst => Or.inr ⟨rfl, ?_⟩⟩
              rcases hp _ _ _ _ _ _ (hnx hst) with ⟨h9, _⟩ | ⟨_, T3, o3, p1, p2, p3, p4, p5⟩
              · exact (sc_10 h9).elim
              · have hs := c_tok_sign p1.2.1
                exact ⟨m_nx b n T3, o3, sc_adv (by have := hs.1.mp g1; omega) p1 hadv4, by omega, fun S r h => m_open (hone hst) (hno hst) (hTs hst) (p5 (23 :: S) r (Or.inr ⟨S, rfl⟩) (m_close ⟨hs.1.mp g1, (hs.2 g1).symm.trans g2⟩ h))⟩
            · cases hx
              subst g3
              subst g4
              refine And.intro (fun _ => ?_) (fun q => absurd rfl q)
              refine ⟨by decide, fun b n M C T o hst => Or.inl ⟨rfl, fun S => ?_⟩⟩
              rcases hp _ _ _ _ _ _ (hnx hst) with ⟨h9, _⟩ | ⟨_, T3, o3, p1, p2, p3, p4, p5⟩
              · exact (sc_10 h9).elim
              · have hs := c_tok_sign p1.2.1
                have h9 : I3 1 4 = T3.2.1 := p1.2.1.1
                show m_ans b n M C (false, T, o, 4, S) (.inl (I3 1 4, 1))
                rw [h9]
                exact m_open (hone hst) (hno hst) (hTs hst) (p5 (23 :: S) _ (Or.inr ⟨S, rfl⟩) (m_noclose p3 p4 (fun q => g1 ⟨hs.1.mpr q.1, (hs.2 (hs.1.mpr q.1)).trans q.2⟩)))
      · intro t2
        refine And.intro ⟨4, rfl, by decide, by decide⟩ ?_
        rintro rv I2 L2 ⟨f, hf, rfl, rfl, rfl⟩
        cases hf
        exact ⟨by decide, hmany (Or.inr t2)⟩
set_option maxHeartbeats 4000000 in
theorem xn_all_4 (hE : z_EX EX) : x_Ok EX l zTB zNT kc D vwCl xb nTY ad yP0 64 20 (xr_rd 4) (xo_all 4) := by
  refine x_loop (ct := x_ctl [(65, 19, xr_rd 4, xo_one 4), (108, 0, xr_sign, xo_isWord), (100, 1, xr_adv, xo_adv), (56, 0, xr_as, xo_as)]) (M := ym_X8_readAll) hE y_prog 60 rfl (by decide) (x_ctl_cons (xn_one_4 hE) (x_ctl_cons (xn_isWord hE) (x_ctl_cons (xn_adv hE) (x_ctl_cons (xn_as hE) x_ctl_nil)))) (fun za I L ⟨h, _⟩ => by subst h; exact (by decide : 2 ≤ 3)) (x_cut1 12) (sc_allI 4) (fun za I L ⟨h, b, n, M, C, T, o, hst⟩ => ?_) (fun za I L ⟨_, b, n, M, C, T, o, hst⟩ m pc lv sv I' L' hc hi => ?_)
  · subst h
    refine And.intro ⟨rfl, b, n, M, C, T, o, hst⟩ ?_
    intro rv I1 L1 hp
    rcases hp b n M C T o hst with ⟨rfl, _⟩ | ⟨rfl, _⟩
    · refine And.intro (fun q => absurd rfl q) (fun _ => ?_)
      refine ⟨by decide, fun b n M C T o hst => Or.inl ⟨rfl, fun S hS => ?_⟩⟩
      rcases hp b n M C T o hst with ⟨_, h9⟩ | ⟨h9, _⟩
      · exact h9 S
      · exact (sc_01 h9).elim
    · refine And.intro (fun _ => ?_) (fun q => absurd q (by decide))
      refine ⟨20, [(0, xR 127), (1, .inl 4), (2, .inl ((0 : Nat) : Int))], ⟨rfl, rfl, rfl, trivial⟩, rfl, rfl, 0, by omega, rfl, rfl, fun b n M C T o hst => ?_⟩
      rcases hp b n M C T o hst with ⟨h9, _⟩ | ⟨_, T1, o1, g1, g2, g3⟩
      · exact (sc_10 h9).elim
      · exact ⟨T1, o1, g1, by omega, fun S r _ h1 _ => g3 S r h1⟩
  · obtain ⟨rfl, rfl, k, hk, rfl, rfl, hinv⟩ := hi
    obtain ⟨T0, o0, hst0, ho0, _⟩ := hinv b n M C T o hst
    have ho := hst.2.2.2.2.2.1
    have ho20 := hst0.2.2.2.2.2.2
    refine And.intro ?_ ?_
    · intro t1
      exfalso
      omega
    · intro t1
      refine And.intro ⟨14, rfl⟩ ?_
      rintro rv I1 L1 ⟨rfl, rfl, x, hx, ⟨g1, g2, rfl⟩ | ⟨g1, rfl⟩⟩
      · cases hx
        refine And.intro (fun q => absurd q (by decide)) (fun _ => ?_)
        have hbw : ∀ {b : Nat → Int} {n : Int} {M C : List Int} {T : pT} {o : Int}, sc_st b n M C T o I1 L1 → m_and T := fun h => (c_tok_word h.2.1 (w := 14) rfl).mp ⟨g1, g2⟩
        refine And.intro ⟨rfl, sc_bh hst0 (by have := (hbw hst0).1; omega)⟩ ?_
        intro rv I2 L2 hadv
        have h9 := hadv.1
        subst h9
        have hnx : ∀ {b : Nat → Int} {n : Int} {M C : List Int} {T : pT} {o : Int}, sc_st b n M C T o I1 L1 → sc_st b n M C (m_nx b n T) o I2 L2 := fun h => sc_adv (by have := (hbw h).1; omega) h hadv
        refine And.intro ⟨rfl, _, _, _, _, _, _, hnx hst0⟩ ?_
        intro rv I3 L3 hp
        rcases hp _ _ _ _ _ _ (hnx hst0) with ⟨rfl, _⟩ | ⟨rfl, _⟩
        · refine And.intro (fun q => absurd rfl q) (fun _ => ?_)
          refine ⟨by decide, fun b n M C T o hst => Or.inl ⟨rfl, fun S hS => ?_⟩⟩
          obtain ⟨T1, o1, q1, q2, q3⟩ := hinv b n M C T o hst
          rcases hp _ _ _ _ _ _ (hnx q1) with ⟨_, h9⟩ | ⟨h9, _⟩
          · have h8 := m_and_go hS (hbw q1) (h9 (21 :: S))
            exact q3 S _ hS h8.1 h8.2
          · exact (sc_01 h9).elim
        · refine And.intro (fun _ => ?_) (fun q => absurd q (by decide))
          refine And.intro ⟨14, 0, 0, rfl, by decide, by decide, by decide⟩ ?_
          rintro rv I4 L4 ⟨rfl, rfl, hf⟩
          refine Or.inl ⟨by omega, 20 - (k + 1), [(0, xR 127), (1, .inl 4), (2, .inl ((k + 1 : Nat) : Int))], by omega, ⟨rfl, rfl, rfl, trivial⟩, rfl, rfl, k + 1, by omega, rfl, rfl, fun b n M C T o hst => ?_⟩
          obtain ⟨T1, o1, q1, q2, q3⟩ := hinv b n M C T o hst
          rcases hp _ _ _ _ _ _ (hnx q1) with ⟨h9, _⟩ | ⟨_, T3, o3, p1, p2, p3⟩
          · exact (sc_10 h9).elim
          · refine ⟨T3, o3, sc_step p1 hf, by omega, fun S r hS r1 r2 => ?_⟩
            have h8 := m_and_go hS (hbw q1) (p3 (21 :: S) r r2)
            exact q3 S r hS h8.1 h8.2
      · cases hx
        refine And.intro (fun _ => ?_) (fun q => absurd rfl q)
        refine ⟨by decide, fun b n M C T o hst => Or.inr ⟨rfl, ?_⟩⟩
        obtain ⟨T1, o1, q1, q2, q3⟩ := hinv b n M C T o hst
        exact ⟨T1, o1, q1, by omega, fun q => g1 ((c_tok_word q1.2.1 (w := 14) rfl).mpr q), q3⟩
set_option maxHeartbeats 4000000 in
theorem xn_cond_4 (hE : z_EX EX) : x_Ok EX l zTB zNT kc D vwCl xb nTY ad yP0 63 21 (xr_rd 4) (xo_cond 4) := by
  refine x_loop (ct := x_ctl [(64, 20, xr_rd 4, xo_all 4), (108, 0, xr_sign, xo_isWord), (100, 1, xr_adv, xo_adv), (56, 0, xr_as, xo_as)]) (M := ym_X8_readCond) hE y_prog 60 rfl (by decide) (x_ctl_cons (xn_all_4 hE) (x_ctl_cons (xn_isWord hE) (x_ctl_cons (xn_adv hE) (x_ctl_cons (xn_as hE) x_ctl_nil)))) (fun za I L ⟨h, _⟩ => by subst h; exact (by decide : 2 ≤ 3)) (x_cut1 12) (sc_condI 4) (fun za I L ⟨h, b, n, M, C, T, o, hst⟩ => ?_) (fun za I L ⟨_, b, n, M, C, T, o, hst⟩ m pc lv sv I' L' hc hi => ?_)
  · subst h
    refine And.intro ⟨rfl, b, n, M, C, T, o, hst⟩ ?_
    intro rv I1 L1 hp
    rcases hp b n M C T o hst with ⟨rfl, _⟩ | ⟨rfl, _⟩
    · refine And.intro (fun q => absurd rfl q) (fun _ => ?_)
      refine ⟨by decide, fun b n M C T o hst => Or.inl ⟨rfl, fun S hS => ?_⟩⟩
      rcases hp b n M C T o hst with ⟨_, h9⟩ | ⟨h9, _⟩
      · exact h9 S (Or.inl hS)
      · exact (sc_01 h9).elim
    · refine And.intro (fun _ => ?_) (fun q => absurd q (by decide))
      refine ⟨20, [(0, xR 127), (1, .inl 4), (2, .inl ((0 : Nat) : Int))], ⟨rfl, rfl, rfl, trivial⟩, rfl, rfl, 0, by omega, rfl, rfl, fun b n M C T o hst => ?_⟩
      rcases hp b n M C T o hst with ⟨h9, _⟩ | ⟨_, T1, o1, g1, g2, g3, g4⟩
      · exact (sc_10 h9).elim
      · exact ⟨T1, o1, g1, by omega, g3, fun S r hS hJ => g4 S r (Or.inl hS) (hJ [] (Or.inl rfl)) (hJ [21] (Or.inr (Or.inl rfl)))⟩
  · obtain ⟨rfl, rfl, k, hk, rfl, rfl, hinv⟩ := hi
    obtain ⟨T0, o0, hst0, ho0, _⟩ := hinv b n M C T o hst
    have ho := hst.2.2.2.2.2.1
    have ho20 := hst0.2.2.2.2.2.2
    refine And.intro ?_ ?_
    · intro t1
      exfalso
      omega
    · intro t1
      refine And.intro ⟨13, rfl⟩ ?_
      rintro rv I1 L1 ⟨rfl, rfl, x, hx, ⟨g1, g2, rfl⟩ | ⟨g1, rfl⟩⟩
      · cases hx
        refine And.intro (fun q => absurd q (by decide)) (fun _ => ?_)
        have hbw : ∀ {b : Nat → Int} {n : Int} {M C : List Int} {T : pT} {o : Int}, sc_st b n M C T o I1 L1 → m_or T := fun h => (c_tok_word h.2.1 (w := 13) rfl).mp ⟨g1, g2⟩
        refine And.intro ⟨rfl, sc_bh hst0 (by have := (hbw hst0).1; omega)⟩ ?_
        intro rv I2 L2 hadv
        have h9 := hadv.1
        subst h9
        have hnx : ∀ {b : Nat → Int} {n : Int} {M C : List Int} {T : pT} {o : Int}, sc_st b n M C T o I1 L1 → sc_st b n M C (m_nx b n T) o I2 L2 := fun h => sc_adv (by have := (hbw h).1; omega) h hadv
        refine And.intro ⟨rfl, _, _, _, _, _, _, hnx hst0⟩ ?_
        intro rv I3 L3 hp
        rcases hp _ _ _ _ _ _ (hnx hst0) with ⟨rfl, _⟩ | ⟨rfl, _⟩
        · refine And.intro (fun q => absurd rfl q) (fun _ => ?_)
          refine ⟨by decide, fun b n M C T o hst => Or.inl ⟨rfl, fun S hS => ?_⟩⟩
          obtain ⟨T1, o1, q1, q2, q3, q4⟩ := hinv b n M C T o hst
          rcases hp _ _ _ _ _ _ (hnx q1) with ⟨_, h9⟩ | ⟨h9, _⟩
          · exact q4 S _ hS (fun J hJ => m_or_go hJ hS (hbw q1) (h9 (22 :: S) (Or.inr ⟨S, rfl⟩)))
          · exact (sc_01 h9).elim
        · refine And.intro (fun _ => ?_) (fun q => absurd q (by decide))
          refine And.intro ⟨13, 0, 0, rfl, by decide, by decide, by decide⟩ ?_
          rintro rv I4 L4 ⟨rfl, rfl, hf⟩
          refine Or.inl ⟨by omega, 20 - (k + 1), [(0, xR 127), (1, .inl 4), (2, .inl ((k + 1 : Nat) : Int))], by omega, ⟨rfl, rfl, rfl, trivial⟩, rfl, rfl, k + 1, by omega, rfl, rfl, fun b n M C T o hst => ?_⟩
          obtain ⟨T1, o1, q1, q2, q3, q4⟩ := hinv b n M C T o hst
          rcases hp _ _ _ _ _ _ (hnx q1) with ⟨h9, _⟩ | ⟨_, T3, o3, p1, p2, p3, p4⟩
          · exact (sc_10 h9).elim
          · exact ⟨T3, o3, sc_step p1 hf, by omega, p3, fun S r hS hJ3 => q4 S r hS (fun J hJ => m_or_go hJ hS (hbw q1) (p4 (22 :: S) r (Or.inr ⟨S, rfl⟩) (hJ3 [22] (Or.inr (Or.inr (Or.inl rfl)))) (hJ3 [21, 22] (Or.inr (Or.inr (Or.inr rfl))))))⟩
      · cases hx
        refine And.intro (fun _ => ?_) (fun q => absurd rfl q)
        refine ⟨by decide, fun b n M C T o hst => Or.inr ⟨rfl, ?_⟩⟩
        obtain ⟨T1, o1, q1, q2, q3, q4⟩ := hinv b n M C T o hst
        have hno : ¬ m_or T1 := fun q => g1 ((c_tok_word q1.2.1 (w := 13) rfl).mpr q)
        exact ⟨T1, o1, q1, by omega, q3, hno, fun S r hS h => q4 S r hS (fun J hJ => m_Jgo hJ hS q3 hno h)⟩
set_option maxHeartbeats 4000000 in
theorem xn_one_3 (hE : z_EX EX) : x_Ok EX l zTB zNT kc D vwCl xb nTY ad yP0 65 22 (xr_rd 3) (xo_one 3) := by
  refine x_loop (ct := x_ctl [(109, 0, xr_sign, xo_isSign), (106, 0, xr_ref, xo_ref), (100, 1, xr_adv, xo_adv), (110, 2, xr_ts, xo_ts), (56, 0, xr_as, xo_as), (66, 3, xr_say, xo_say), (63, 21, xr_rd 4, xo_cond 4), (65, 19, xr_rd 4, xo_one 4)]) (M := ym_X8_readOne) hE y_prog 80 rfl (by decide) (x_ctl_cons (xn_isSign hE) (x_ctl_cons (xn_ref hE) (x_ctl_cons (xn_adv hE) (x_ctl_cons (xn_ts hE) (x_ctl_cons (xn_as hE) (x_ctl_cons (xn_say hE) (x_ctl_cons (xn_cond_4 hE) (x_ctl_cons (xn_one_4 hE) x_ctl_nil)))))))) (fun za I L ⟨h, _⟩ => by subst h; exact (by decide : 2 ≤ 4)) (x_cut1 46) (sc_oneI 3) (fun za I L ⟨h, b, n, M, C, T, o, hst⟩ => ?_) (fun za I L ⟨_, b, n, M, C, T, o, hst⟩ m pc lv sv I' L' hc hi => ?_)
  · subst h
    refine And.intro ⟨40, rfl⟩ ?_
    rintro rv I1 L1 ⟨rfl, rfl, x, hx, ⟨g1, g2, rfl⟩ | ⟨g1, rfl⟩⟩
    · cases hx
      refine And.intro (fun _ => ?_) (fun q => absurd q (by decide))
      exact ⟨0, [(0, xR 127), (1, .inl 3), (2, .inl 1)], ⟨rfl, rfl, rfl, trivial⟩, rfl, rfl, rfl, rfl, rfl, 1, rfl, Or.inl ⟨rfl, g1, g2⟩⟩
    · cases hx
      refine And.intro (fun q => absurd rfl q) (fun _ => ?_)
      have hbad : ¬ (I1 1 6 = 2 ∧ 15 ≤ I1 1 7) → xo_one 3 [xR 127, .inl 3] I1 L1 (some (.inl 0)) (x_bad I1 1) L1 := fun hn b n M C T o hst => by
        refine Or.inl ⟨rfl, fun S => ?_⟩
        have h9 : I1 1 4 = T.2.1 := hst.2.1.1
        show m_ans b n M C (false, T, o, 3, S) (.inl (I1 1 4, 1))
        rw [h9]
        refine m_bad1 (fun q => ?_)
        rcases q with q | q
        · have hs := c_tok_sign hst.2.1
          have h8 := hs.1.mpr q.1
          exact g1 ⟨h8, (hs.2 h8).trans q.2⟩
        · obtain ⟨w, w1, w2⟩ := sc_W1 _ q.2
          have h8 := (c_tok_word hst.2.1 w2).mpr ⟨q.1, rfl⟩
          exact hn ⟨h8.1, by omega⟩
      intro k (hk : k = I1 1 6) _
      refine And.intro ?_ ?_
      · intro t1
        refine And.intro ⟨1, rfl, by decide, by decide⟩ ?_
        rintro rv I2 L2 ⟨f, hf, rfl, rfl, rfl⟩
        cases hf
        exact ⟨by decide, hbad (by omega)⟩
      · intro t1 v (hv : v = I1 1 7) _
        refine And.intro ?_ ?_
        · intro t2
          have h23 : I1 1 7 ≤ 23 := by
            rcases hst.2.1.2.2 with ⟨q1, q2⟩ | ⟨q1, q2⟩ | ⟨q1, q2, q3⟩ | ⟨q1, q2, q3⟩ | ⟨q1, q2, q3⟩
            · omega
            · omega
            · rcases q3 with ⟨w, w1, w2, w3⟩ | ⟨w1, w2⟩
              · have : w < 24 := (List.getElem?_eq_some_iff.mp w1).1
                omega
              · omega
            · omega
            · omega
          exact ⟨0, [(0, xR 127), (1, .inl 3), (2, .inl 0)], ⟨rfl, rfl, rfl, trivial⟩, rfl, rfl, rfl, rfl, rfl, 0, rfl, Or.inr ⟨rfl, by omega, by omega, h23⟩⟩
        · intro t2
          refine And.intro ⟨1, rfl, by decide, by decide⟩ ?_
          rintro rv I2 L2 ⟨f, hf, rfl, rfl, rfl⟩
          cases hf
          exact ⟨by decide, hbad (by omega)⟩
  · obtain ⟨rfl, rfl, rfl, rfl, rfl, br, rfl, hbr⟩ := hi
    have hone : ∀ {b : Nat → Int} {n : Int} {M C : List Int} {T : pT} {o : Int}, sc_st b n M C T o I' L' → m_one T := fun {b n M C T o} hst => by
      rcases hbr with ⟨_, q1, q2⟩ | ⟨_, q1, q2, q3⟩
      · have hs := c_tok_sign hst.2.1
        exact Or.inl ⟨hs.1.mp q1, by rw [← hs.2 q1]; exact q2⟩
      · obtain ⟨s, s1, s2⟩ := sc_W2 ⟨(I' 1 7).toNat, by omega⟩ (show 15 ≤ (I' 1 7).toNat by omega)
        have h8 := (c_tok_word hst.2.1 s2).mp ⟨q1, by dsimp only; omega⟩
        exact Or.inr ⟨h8.1, by rw [h8.2]; exact s1⟩
    intro z (hz : z = I' 127 5) (bz : 0 ≤ z ∧ z ≤ 20)
    have hzo : ∀ {b : Nat → Int} {n : Int} {M C : List Int} {T : pT} {o : Int}, sc_st b n M C T o I' L' → o = z := fun {b n M C T o} hst => by
      have := hst.2.2.2.2.1
      omega
    have hmany : (20 ≤ z ∨ (8 : Int) < 3) → xo_one 3 [xR 127, .inl 3] I' L' (some (.inl 0)) (x_bad I' 4) L' := fun hn b n M C T o hst => by
      refine Or.inl ⟨rfl, fun S => ?_⟩
      have h9 : I' 1 4 = T.2.1 := hst.2.1.1
      show m_ans b n M C (false, T, o, 3, S) (.inl (I' 1 4, 4))
      rw [h9]
      exact m_bad4 (hone hst) (by rw [hzo hst]; exact hn)
    refine And.intro ?_ ?_
    · intro t1
      refine And.intro ⟨4, rfl, by decide, by decide⟩ ?_
      rintro rv I2 L2 ⟨f, hf, rfl, rfl, rfl⟩
      cases hf
      exact ⟨by decide, hmany (Or.inl t1)⟩
    · intro t1
      refine And.intro ?_ ?_
      · intro t2
        have hno : ∀ {b : Nat → Int} {n : Int} {M C : List Int} {T : pT} {o : Int}, sc_st b n M C T o I' L' → ¬ (20 ≤ o ∨ (8 : Int) < 3) := fun {b n M C T o} hst => by
          have := hzo hst
          omega
        have hk2 : ∀ {b : Nat → Int} {n : Int} {M C : List Int} {T : pT} {o : Int}, sc_st b n M C T o I' L' → 2 ≤ T.1 := fun {b n M C T o} hst => by
          rcases hone hst with q | q <;> omega
        intro z3 (hz3 : z3 = I' 127 5) _
        refine Or.inl ⟨by omega, ?_⟩
        refine And.intro (show 0 ≤ z3 + 1 ∧ z3 + 1 ≤ 20 by omega) ?_
        intro w (hw : w = I' 1 7) _
        refine And.intro ⟨rfl, (show x_bh I' from sc_bh hst (hk2 hst))⟩ ?_
        intro rv I2 L2 hadv
        have h9 := hadv.1
        subst h9
        have hnx : ∀ {b : Nat → Int} {n : Int} {M C : List Int} {T : pT} {o : Int}, sc_st b n M C T o I' L' → sc_st b n M C (m_nx b n T) (o + 1) I2 L2 := fun {b n M C T o} hst => sc_adv (hk2 hst) (sc_ones hst (z := z3) (by have := hzo hst; omega) (by have := hzo hst; omega)) hadv
        refine And.intro ?_ ?_
        · intro t3
          rcases hbr with ⟨q, _⟩ | ⟨_, q1, q2, q3⟩
          · omega
          obtain ⟨s, hs⟩ : ∃ s, x_W32[w.toNat]? = some s := ⟨_, List.getElem?_eq_getElem (show w.toNat < x_W32.length by
            have : x_W32.length = 24 := rfl
            omega)⟩
          have hTs : ∀ {b : Nat → Int} {n : Int} {M C : List Int} {T : pT} {o : Int}, sc_st b n M C T o I' L' → T.1 = 2 ∧ T.2.2.2 = s := fun {b n M C T o} hst => (c_tok_word hst.2.1 hs).mp ⟨q1, by omega⟩
          refine And.intro ?_ ?_
          · intro t4
            have hsW : s ∈ m_W ∧ s ≠ 14836 := by
              have hv : w.toNat = 16 ∨ w.toNat = 17 ∨ w.toNat = 18 ∨ w.toNat = 19 ∨ w.toNat = 20 ∨ w.toNat = 21 ∨ w.toNat = 22 ∨ w.toNat = 23 := by omega
              rcases hv with hv | hv | hv | hv | hv | hv | hv | hv <;> (rw [hv] at hs; have h8 := Option.some.inj hs; subst h8; decide)
            have hza : ([xR 127, .inl w] : List xV) = [xR 127, .inl ((w.toNat : Nat) : Int)] := by rw [show ((w.toNat : Nat) : Int) = w by omega]
            refine And.intro ⟨w.toNat, hza, ⟨by omega, by omega⟩, _, _, _, _, _, _, hnx hst⟩ ?_
            intro rv I3 L3 hp
            obtain ⟨nu, _, rfl⟩ := hp w.toNat hza s hs _ _ _ _ _ _ (hnx hst)
            refine ⟨by split <;> decide, fun b n M C T o hst => ?_⟩
            obtain ⟨nu2, hlf2, e2⟩ := hp w.toNat hza s hs _ _ _ _ _ _ (hnx hst)
            have hT := hTs hst
            have hmf := fun (S : List Nat) => m_lf (b := b) (n := n) (M := M) (C := C) (T := T) (o := o) (d := 3) (S := S) (show T.1 = 2 ∧ T.2.2.2 ∈ m_W ∧ T.2.2.2 ≠ 14836 from ⟨hT.1, by rw [hT.2]; exact hsW.1, by rw [hT.2]; exact hsW.2⟩) (hno hst)
            rcases hr : m_leaf b n M C s (m_nx b n T) with ⟨at0, f⟩ | T'
            · rw [hr] at hlf2
              obtain ⟨l0, l1, l2⟩ := hlf2
              refine Or.inl ⟨by rw [e2, if_pos l0], fun S => ?_⟩
              rw [l1, l2]
              exact (hmf S).1 _ (by rw [hT.2]; exact hr)
            · rw [hr] at hlf2
              obtain ⟨l0, l1, l2⟩ := hlf2
              exact Or.inr ⟨by rw [e2, if_neg (by omega)], T', o + 1, l2, Int.le_refl _, fun S r h => (hmf S).2 T' r (by rw [hT.2]; exact hr) h⟩
          · intro t4
            have hs15 : s = 14836 := by
              have hv : w.toNat = 15 := by omega
              rw [hv] at hs
              exact (Option.some.inj hs).symm
            refine Or.inl ⟨by decide, ?_⟩
            refine And.intro ⟨rfl, _, _, _, _, _, _, hnx hst⟩ ?_
            intro rv I3 L3 hp
            rcases hp _ _ _ _ _ _ (hnx hst) with ⟨rfl, _⟩ | ⟨rfl, _⟩
            · refine And.intro (fun q => absurd rfl q) (fun _ => ?_)
              refine ⟨by decide, fun b n M C T o hst => Or.inl ⟨rfl, fun S => ?_⟩⟩
              rcases hp _ _ _ _ _ _ (hnx hst) with ⟨_, h9⟩ | ⟨h9, _⟩
              · exact m_nt (hno hst) ⟨(hTs hst).1, (hTs hst).2.trans hs15⟩ (h9 (20 :: S))
              · exact (sc_01 h9).elim
            · refine And.intro (fun _ => ?_) (fun q => absurd q (by decide))
              refine And.intro ⟨15, 0, 0, rfl, by decide, by decide, by decide⟩ ?_
              rintro rv I4 L4 ⟨rfl, rfl, hf⟩
              refine ⟨by decide, fun b n M C T o hst => Or.inr ⟨rfl, ?_⟩⟩
              rcases hp _ _ _ _ _ _ (hnx hst) with ⟨h9, _⟩ | ⟨_, T3, o3, p1, p2, p3⟩
              · exact (sc_10 h9).elim
              · exact ⟨T3, o3, sc_step p1 hf, by omega, fun S r h => m_nt (hno hst) ⟨(hTs hst).1, (hTs hst).2.trans hs15⟩ (p3 (20 :: S) r (m_not h))⟩
        · intro t3
          rcases hbr with ⟨_, q1, q2⟩ | ⟨q, _⟩
          rotate_left
          · exact absurd q t3
          have hTs : ∀ {b : Nat → Int} {n : Int} {M C : List Int} {T : pT} {o : Int}, sc_st b n M C T o I' L' → T.1 = 5 := fun {b n M C T o} hst => (c_tok_sign hst.2.1).1.mp q1
          refine Or.inl ⟨by decide, ?_⟩
          refine And.intro ⟨rfl, _, _, _, _, _, _, hnx hst⟩ ?_
          intro rv I3 L3 hp
          rcases hp _ _ _ _ _ _ (hnx hst) with ⟨rfl, _⟩ | ⟨rfl, T0, o0, hst0, _⟩
          · refine And.intro (fun _ => ?_) (fun q => absurd rfl q)
            refine ⟨by decide, fun b n M C T o hst => Or.inl ⟨rfl, fun S => ?_⟩⟩
            rcases hp _ _ _ _ _ _ (hnx hst) with ⟨_, h9⟩ | ⟨h9, _⟩
            · exact m_open (hone hst) (hno hst) (hTs hst) (h9 (23 :: S) (Or.inr ⟨S, rfl⟩))
            · exact (sc_01 h9).elim
          · refine And.intro (fun q => absurd q (by decide)) (fun _ => ?_)
            refine And.intro ⟨41, rfl, fun q => sc_bh hst0 (by have := (c_tok_sign hst0.2.1).1.mp q; omega)⟩ ?_
            rintro rv I4 L4 ⟨x, hx, ⟨g1, g2, rfl, hadv4⟩ | ⟨g1, rfl, g3, g4⟩⟩
            · cases hx
              refine And.intro (fun q => absurd q (by decide)) (fun _ => ?_)
              refine ⟨by decide, fun b n M C T o hst => Or.inr ⟨rfl, ?_⟩⟩
              rcases hp _ _ _ _ _ _ (hnx hst) with ⟨h9, _⟩ | ⟨_, T3, o3, p1, p2, p3, p4, p5⟩
              · exact (sc_10 h9).elim
              · have hs := c_tok_sign p1.2.1
                exact ⟨m_nx b n T3, o3, sc_adv (by have := hs.1.mp g1; omega) p1 hadv4, by omega, fun S r h => m_open (hone hst) (hno hst) (hTs hst) (p5 (23 :: S) r (Or.inr ⟨S, rfl⟩) (m_close ⟨hs.1.mp g1, (hs.2 g1).symm.trans g2⟩ h))⟩
            · cases hx
              subst g3
              subst g4
              refine And.intro (fun _ => ?_) (fun q => absurd rfl q)
              refine ⟨by decide, fun b n M C T o hst => Or.inl ⟨rfl, fun S => ?_⟩⟩
              rcases hp _ _ _ _ _ _ (hnx hst) with ⟨h9, _⟩ | ⟨_, T3, o3, p1, p2, p3, p4, p5⟩
              · exact (sc_10 h9).elim
              · have hs := c_tok_sign p1.2.1
                have h9 : I3 1 4 = T3.2.1 := p1.2.1.1
                show m_ans b n M C (false, T, o, 3, S) (.inl (I3 1 4, 1))
                rw [h9]
                exact m_open (hone hst) (hno hst) (hTs hst) (p5 (23 :: S) _ (Or.inr ⟨S, rfl⟩) (m_noclose p3 p4 (fun q => g1 ⟨hs.1.mpr q.1, (hs.2 (hs.1.mpr q.1)).trans q.2⟩)))
      · intro t2
        refine And.intro ⟨4, rfl, by decide, by decide⟩ ?_
        rintro rv I2 L2 ⟨f, hf, rfl, rfl, rfl⟩
        cases hf
        exact ⟨by decide, hmany (Or.inr t2)⟩
set_option maxHeartbeats 4000000 in
theorem xn_all_3 (hE : z_EX EX) : x_Ok EX l zTB zNT kc D vwCl xb nTY ad yP0 64 23 (xr_rd 3) (xo_all 3) := by
  refine x_loop (ct := x_ctl [(65, 22, xr_rd 3, xo_one 3), (108, 0, xr_sign, xo_isWord), (100, 1, xr_adv, xo_adv), (56, 0, xr_as, xo_as)]) (M := ym_X8_readAll) hE y_prog 60 rfl (by decide) (x_ctl_cons (xn_one_3 hE) (x_ctl_cons (xn_isWord hE) (x_ctl_cons (xn_adv hE) (x_ctl_cons (xn_as hE) x_ctl_nil)))) (fun za I L ⟨h, _⟩ => by subst h; exact (by decide : 2 ≤ 3)) (x_cut1 12) (sc_allI 3) (fun za I L ⟨h, b, n, M, C, T, o, hst⟩ => ?_) (fun za I L ⟨_, b, n, M, C, T, o, hst⟩ m pc lv sv I' L' hc hi => ?_)
  · subst h
    refine And.intro ⟨rfl, b, n, M, C, T, o, hst⟩ ?_
    intro rv I1 L1 hp
    rcases hp b n M C T o hst with ⟨rfl, _⟩ | ⟨rfl, _⟩
    · refine And.intro (fun q => absurd rfl q) (fun _ => ?_)
      refine ⟨by decide, fun b n M C T o hst => Or.inl ⟨rfl, fun S hS => ?_⟩⟩
      rcases hp b n M C T o hst with ⟨_, h9⟩ | ⟨h9, _⟩
      · exact h9 S
      · exact (sc_01 h9).elim
    · refine And.intro (fun _ => ?_) (fun q => absurd q (by decide))
      refine ⟨20, [(0, xR 127), (1, .inl 3), (2, .inl ((0 : Nat) : Int))], ⟨rfl, rfl, rfl, trivial⟩, rfl, rfl, 0, by omega, rfl, rfl, fun b n M C T o hst => ?_⟩
      rcases hp b n M C T o hst with ⟨h9, _⟩ | ⟨_, T1, o1, g1, g2, g3⟩
      · exact (sc_10 h9).elim
      · exact ⟨T1, o1, g1, by omega, fun S r _ h1 _ => g3 S r h1⟩
  · obtain ⟨rfl, rfl, k, hk, rfl, rfl, hinv⟩ := hi
    obtain ⟨T0, o0, hst0, ho0, _⟩ := hinv b n M C T o hst
    have ho := hst.2.2.2.2.2.1
    have ho20 := hst0.2.2.2.2.2.2
    refine And.intro ?_ ?_
    · intro t1
      exfalso
      omega
    · intro t1
      refine And.intro ⟨14, rfl⟩ ?_
      rintro rv I1 L1 ⟨rfl, rfl, x, hx, ⟨g1, g2, rfl⟩ | ⟨g1, rfl⟩⟩
      · cases hx
        refine And.intro (fun q => absurd q (by decide)) (fun _ => ?_)
        have hbw : ∀ {b : Nat → Int} {n : Int} {M C : List Int} {T : pT} {o : Int}, sc_st b n M C T o I1 L1 → m_and T := fun h => (c_tok_word h.2.1 (w := 14) rfl).mp ⟨g1, g2⟩
        refine And.intro ⟨rfl, sc_bh hst0 (by have := (hbw hst0).1; omega)⟩ ?_
        intro rv I2 L2 hadv
        have h9 := hadv.1
        subst h9
        have hnx : ∀ {b : Nat → Int} {n : Int} {M C : List Int} {T : pT} {o : Int}, sc_st b n M C T o I1 L1 → sc_st b n M C (m_nx b n T) o I2 L2 := fun h => sc_adv (by have := (hbw h).1; omega) h hadv
        refine And.intro ⟨rfl, _, _, _, _, _, _, hnx hst0⟩ ?_
        intro rv I3 L3 hp
        rcases hp _ _ _ _ _ _ (hnx hst0) with ⟨rfl, _⟩ | ⟨rfl, _⟩
        · refine And.intro (fun q => absurd rfl q) (fun _ => ?_)
          refine ⟨by decide, fun b n M C T o hst => Or.inl ⟨rfl, fun S hS => ?_⟩⟩
          obtain ⟨T1, o1, q1, q2, q3⟩ := hinv b n M C T o hst
          rcases hp _ _ _ _ _ _ (hnx q1) with ⟨_, h9⟩ | ⟨h9, _⟩
          · have h8 := m_and_go hS (hbw q1) (h9 (21 :: S))
            exact q3 S _ hS h8.1 h8.2
          · exact (sc_01 h9).elim
        · refine And.intro (fun _ => ?_) (fun q => absurd q (by decide))
          refine And.intro ⟨14, 0, 0, rfl, by decide, by decide, by decide⟩ ?_
          rintro rv I4 L4 ⟨rfl, rfl, hf⟩
          refine Or.inl ⟨by omega, 20 - (k + 1), [(0, xR 127), (1, .inl 3), (2, .inl ((k + 1 : Nat) : Int))], by omega, ⟨rfl, rfl, rfl, trivial⟩, rfl, rfl, k + 1, by omega, rfl, rfl, fun b n M C T o hst => ?_⟩
          obtain ⟨T1, o1, q1, q2, q3⟩ := hinv b n M C T o hst
          rcases hp _ _ _ _ _ _ (hnx q1) with ⟨h9, _⟩ | ⟨_, T3, o3, p1, p2, p3⟩
          · exact (sc_10 h9).elim
          · refine ⟨T3, o3, sc_step p1 hf, by omega, fun S r hS r1 r2 => ?_⟩
            have h8 := m_and_go hS (hbw q1) (p3 (21 :: S) r r2)
            exact q3 S r hS h8.1 h8.2
      · cases hx
        refine And.intro (fun _ => ?_) (fun q => absurd rfl q)
        refine ⟨by decide, fun b n M C T o hst => Or.inr ⟨rfl, ?_⟩⟩
        obtain ⟨T1, o1, q1, q2, q3⟩ := hinv b n M C T o hst
        exact ⟨T1, o1, q1, by omega, fun q => g1 ((c_tok_word q1.2.1 (w := 14) rfl).mpr q), q3⟩
set_option maxHeartbeats 4000000 in
theorem xn_cond_3 (hE : z_EX EX) : x_Ok EX l zTB zNT kc D vwCl xb nTY ad yP0 63 24 (xr_rd 3) (xo_cond 3) := by
  refine x_loop (ct := x_ctl [(64, 23, xr_rd 3, xo_all 3), (108, 0, xr_sign, xo_isWord), (100, 1, xr_adv, xo_adv), (56, 0, xr_as, xo_as)]) (M := ym_X8_readCond) hE y_prog 60 rfl (by decide) (x_ctl_cons (xn_all_3 hE) (x_ctl_cons (xn_isWord hE) (x_ctl_cons (xn_adv hE) (x_ctl_cons (xn_as hE) x_ctl_nil)))) (fun za I L ⟨h, _⟩ => by subst h; exact (by decide : 2 ≤ 3)) (x_cut1 12) (sc_condI 3) (fun za I L ⟨h, b, n, M, C, T, o, hst⟩ => ?_) (fun za I L ⟨_, b, n, M, C, T, o, hst⟩ m pc lv sv I' L' hc hi => ?_)
  · subst h
    refine And.intro ⟨rfl, b, n, M, C, T, o, hst⟩ ?_
    intro rv I1 L1 hp
    rcases hp b n M C T o hst with ⟨rfl, _⟩ | ⟨rfl, _⟩
    · refine And.intro (fun q => absurd rfl q) (fun _ => ?_)
      refine ⟨by decide, fun b n M C T o hst => Or.inl ⟨rfl, fun S hS => ?_⟩⟩
      rcases hp b n M C T o hst with ⟨_, h9⟩ | ⟨h9, _⟩
      · exact h9 S (Or.inl hS)
      · exact (sc_01 h9).elim
    · refine And.intro (fun _ => ?_) (fun q => absurd q (by decide))
      refine ⟨20, [(0, xR 127), (1, .inl 3), (2, .inl ((0 : Nat) : Int))], ⟨rfl, rfl, rfl, trivial⟩, rfl, rfl, 0, by omega, rfl, rfl, fun b n M C T o hst => ?_⟩
      rcases hp b n M C T o hst with ⟨h9, _⟩ | ⟨_, T1, o1, g1, g2, g3, g4⟩
      · exact (sc_10 h9).elim
      · exact ⟨T1, o1, g1, by omega, g3, fun S r hS hJ => g4 S r (Or.inl hS) (hJ [] (Or.inl rfl)) (hJ [21] (Or.inr (Or.inl rfl)))⟩
  · obtain ⟨rfl, rfl, k, hk, rfl, rfl, hinv⟩ := hi
    obtain ⟨T0, o0, hst0, ho0, _⟩ := hinv b n M C T o hst
    have ho := hst.2.2.2.2.2.1
    have ho20 := hst0.2.2.2.2.2.2
    refine And.intro ?_ ?_
    · intro t1
      exfalso
      omega
    · intro t1
      refine And.intro ⟨13, rfl⟩ ?_
      rintro rv I1 L1 ⟨rfl, rfl, x, hx, ⟨g1, g2, rfl⟩ | ⟨g1, rfl⟩⟩
      · cases hx
        refine And.intro (fun q => absurd q (by decide)) (fun _ => ?_)
        have hbw : ∀ {b : Nat → Int} {n : Int} {M C : List Int} {T : pT} {o : Int}, sc_st b n M C T o I1 L1 → m_or T := fun h => (c_tok_word h.2.1 (w := 13) rfl).mp ⟨g1, g2⟩
        refine And.intro ⟨rfl, sc_bh hst0 (by have := (hbw hst0).1; omega)⟩ ?_
        intro rv I2 L2 hadv
        have h9 := hadv.1
        subst h9
        have hnx : ∀ {b : Nat → Int} {n : Int} {M C : List Int} {T : pT} {o : Int}, sc_st b n M C T o I1 L1 → sc_st b n M C (m_nx b n T) o I2 L2 := fun h => sc_adv (by have := (hbw h).1; omega) h hadv
        refine And.intro ⟨rfl, _, _, _, _, _, _, hnx hst0⟩ ?_
        intro rv I3 L3 hp
        rcases hp _ _ _ _ _ _ (hnx hst0) with ⟨rfl, _⟩ | ⟨rfl, _⟩
        · refine And.intro (fun q => absurd rfl q) (fun _ => ?_)
          refine ⟨by decide, fun b n M C T o hst => Or.inl ⟨rfl, fun S hS => ?_⟩⟩
          obtain ⟨T1, o1, q1, q2, q3, q4⟩ := hinv b n M C T o hst
          rcases hp _ _ _ _ _ _ (hnx q1) with ⟨_, h9⟩ | ⟨h9, _⟩
          · exact q4 S _ hS (fun J hJ => m_or_go hJ hS (hbw q1) (h9 (22 :: S) (Or.inr ⟨S, rfl⟩)))
          · exact (sc_01 h9).elim
        · refine And.intro (fun _ => ?_) (fun q => absurd q (by decide))
          refine And.intro ⟨13, 0, 0, rfl, by decide, by decide, by decide⟩ ?_
          rintro rv I4 L4 ⟨rfl, rfl, hf⟩
          refine Or.inl ⟨by omega, 20 - (k + 1), [(0, xR 127), (1, .inl 3), (2, .inl ((k + 1 : Nat) : Int))], by omega, ⟨rfl, rfl, rfl, trivial⟩, rfl, rfl, k + 1, by omega, rfl, rfl, fun b n M C T o hst => ?_⟩
          obtain ⟨T1, o1, q1, q2, q3, q4⟩ := hinv b n M C T o hst
          rcases hp _ _ _ _ _ _ (hnx q1) with ⟨h9, _⟩ | ⟨_, T3, o3, p1, p2, p3, p4⟩
          · exact (sc_10 h9).elim
          · exact ⟨T3, o3, sc_step p1 hf, by omega, p3, fun S r hS hJ3 => q4 S r hS (fun J hJ => m_or_go hJ hS (hbw q1) (p4 (22 :: S) r (Or.inr ⟨S, rfl⟩) (hJ3 [22] (Or.inr (Or.inr (Or.inl rfl)))) (hJ3 [21, 22] (Or.inr (Or.inr (Or.inr rfl))))))⟩
      · cases hx
        refine And.intro (fun _ => ?_) (fun q => absurd rfl q)
        refine ⟨by decide, fun b n M C T o hst => Or.inr ⟨rfl, ?_⟩⟩
        obtain ⟨T1, o1, q1, q2, q3, q4⟩ := hinv b n M C T o hst
        have hno : ¬ m_or T1 := fun q => g1 ((c_tok_word q1.2.1 (w := 13) rfl).mpr q)
        exact ⟨T1, o1, q1, by omega, q3, hno, fun S r hS h => q4 S r hS (fun J hJ => m_Jgo hJ hS q3 hno h)⟩
set_option maxHeartbeats 4000000 in
theorem xn_one_2 (hE : z_EX EX) : x_Ok EX l zTB zNT kc D vwCl xb nTY ad yP0 65 25 (xr_rd 2) (xo_one 2) := by
  refine x_loop (ct := x_ctl [(109, 0, xr_sign, xo_isSign), (106, 0, xr_ref, xo_ref), (100, 1, xr_adv, xo_adv), (110, 2, xr_ts, xo_ts), (56, 0, xr_as, xo_as), (66, 3, xr_say, xo_say), (63, 24, xr_rd 3, xo_cond 3), (65, 22, xr_rd 3, xo_one 3)]) (M := ym_X8_readOne) hE y_prog 80 rfl (by decide) (x_ctl_cons (xn_isSign hE) (x_ctl_cons (xn_ref hE) (x_ctl_cons (xn_adv hE) (x_ctl_cons (xn_ts hE) (x_ctl_cons (xn_as hE) (x_ctl_cons (xn_say hE) (x_ctl_cons (xn_cond_3 hE) (x_ctl_cons (xn_one_3 hE) x_ctl_nil)))))))) (fun za I L ⟨h, _⟩ => by subst h; exact (by decide : 2 ≤ 4)) (x_cut1 46) (sc_oneI 2) (fun za I L ⟨h, b, n, M, C, T, o, hst⟩ => ?_) (fun za I L ⟨_, b, n, M, C, T, o, hst⟩ m pc lv sv I' L' hc hi => ?_)
  · subst h
    refine And.intro ⟨40, rfl⟩ ?_
    rintro rv I1 L1 ⟨rfl, rfl, x, hx, ⟨g1, g2, rfl⟩ | ⟨g1, rfl⟩⟩
    · cases hx
      refine And.intro (fun _ => ?_) (fun q => absurd q (by decide))
      exact ⟨0, [(0, xR 127), (1, .inl 2), (2, .inl 1)], ⟨rfl, rfl, rfl, trivial⟩, rfl, rfl, rfl, rfl, rfl, 1, rfl, Or.inl ⟨rfl, g1, g2⟩⟩
    · cases hx
      refine And.intro (fun q => absurd rfl q) (fun _ => ?_)
      have hbad : ¬ (I1 1 6 = 2 ∧ 15 ≤ I1 1 7) → xo_one 2 [xR 127, .inl 2] I1 L1 (some (.inl 0)) (x_bad I1 1) L1 := fun hn b n M C T o hst => by
        refine Or.inl ⟨rfl, fun S => ?_⟩
        have h9 : I1 1 4 = T.2.1 := hst.2.1.1
        show m_ans b n M C (false, T, o, 2, S) (.inl (I1 1 4, 1))
        rw [h9]
        refine m_bad1 (fun q => ?_)
        rcases q with q | q
        · have hs := c_tok_sign hst.2.1
          have h8 := hs.1.mpr q.1
          exact g1 ⟨h8, (hs.2 h8).trans q.2⟩
        · obtain ⟨w, w1, w2⟩ := sc_W1 _ q.2
          have h8 := (c_tok_word hst.2.1 w2).mpr ⟨q.1, rfl⟩
          exact hn ⟨h8.1, by omega⟩
      intro k (hk : k = I1 1 6) _
      refine And.intro ?_ ?_
      · intro t1
        refine And.intro ⟨1, rfl, by decide, by decide⟩ ?_
        rintro rv I2 L2 ⟨f, hf, rfl, rfl, rfl⟩
        cases hf
        exact ⟨by decide, hbad (by omega)⟩
      · intro t1 v (hv : v = I1 1 7) _
        refine And.intro ?_ ?_
        · intro t2
          have h23 : I1 1 7 ≤ 23 := by
            rcases hst.2.1.2.2 with ⟨q1, q2⟩ | ⟨q1, q2⟩ | ⟨q1, q2, q3⟩ | ⟨q1, q2, q3⟩ | ⟨q1, q2, q3⟩
            · omega
            · omega
            · rcases q3 with ⟨w, w1, w2, w3⟩ | ⟨w1, w2⟩
              · have : w < 24 := (List.getElem?_eq_some_iff.mp w1).1
                omega
              · omega
            · omega
            · omega
          exact ⟨0, [(0, xR 127), (1, .inl 2), (2, .inl 0)], ⟨rfl, rfl, rfl, trivial⟩, rfl, rfl, rfl, rfl, rfl, 0, rfl, Or.inr ⟨rfl, by omega, by omega, h23⟩⟩
        · intro t2
          refine And.intro ⟨1, rfl, by decide, by decide⟩ ?_
          rintro rv I2 L2 ⟨f, hf, rfl, rfl, rfl⟩
          cases hf
          exact ⟨by decide, hbad (by omega)⟩
  · obtain ⟨rfl, rfl, rfl, rfl, rfl, br, rfl, hbr⟩ := hi
    have hone : ∀ {b : Nat → Int} {n : Int} {M C : List Int} {T : pT} {o : Int}, sc_st b n M C T o I' L' → m_one T := fun {b n M C T o} hst => by
      rcases hbr with ⟨_, q1, q2⟩ | ⟨_, q1, q2, q3⟩
      · have hs := c_tok_sign hst.2.1
        exact Or.inl ⟨hs.1.mp q1, by rw [← hs.2 q1]; exact q2⟩
      · obtain ⟨s, s1, s2⟩ := sc_W2 ⟨(I' 1 7).toNat, by omega⟩ (show 15 ≤ (I' 1 7).toNat by omega)
        have h8 := (c_tok_word hst.2.1 s2).mp ⟨q1, by dsimp only; omega⟩
        exact Or.inr ⟨h8.1, by rw [h8.2]; exact s1⟩
    intro z (hz : z = I' 127 5) (bz : 0 ≤ z ∧ z ≤ 20)
    have hzo : ∀ {b : Nat → Int} {n : Int} {M C : List Int} {T : pT} {o : Int}, sc_st b n M C T o I' L' → o = z := fun {b n M C T o} hst => by
      have := hst.2.2.2.2.1
      omega
    have hmany : (20 ≤ z ∨ (8 : Int) < 2) → xo_one 2 [xR 127, .inl 2] I' L' (some (.inl 0)) (x_bad I' 4) L' := fun hn b n M C T o hst => by
      refine Or.inl ⟨rfl, fun S => ?_⟩
      have h9 : I' 1 4 = T.2.1 := hst.2.1.1
      show m_ans b n M C (false, T, o, 2, S) (.inl (I' 1 4, 4))
      rw [h9]
      exact m_bad4 (hone hst) (by rw [hzo hst]; exact hn)
    refine And.intro ?_ ?_
    · intro t1
      refine And.intro ⟨4, rfl, by decide, by decide⟩ ?_
      rintro rv I2 L2 ⟨f, hf, rfl, rfl, rfl⟩
      cases hf
      exact ⟨by decide, hmany (Or.inl t1)⟩
    · intro t1
      refine And.intro ?_ ?_
      · intro t2
        have hno : ∀ {b : Nat → Int} {n : Int} {M C : List Int} {T : pT} {o : Int}, sc_st b n M C T o I' L' → ¬ (20 ≤ o ∨ (8 : Int) < 2) := fun {b n M C T o} hst => by
          have := hzo hst
          omega
        have hk2 : ∀ {b : Nat → Int} {n : Int} {M C : List Int} {T : pT} {o : Int}, sc_st b n M C T o I' L' → 2 ≤ T.1 := fun {b n M C T o} hst => by
          rcases hone hst with q | q <;> omega
        intro z3 (hz3 : z3 = I' 127 5) _
        refine Or.inl ⟨by omega, ?_⟩
        refine And.intro (show 0 ≤ z3 + 1 ∧ z3 + 1 ≤ 20 by omega) ?_
        intro w (hw : w = I' 1 7) _
        refine And.intro ⟨rfl, (show x_bh I' from sc_bh hst (hk2 hst))⟩ ?_
        intro rv I2 L2 hadv
        have h9 := hadv.1
        subst h9
        have hnx : ∀ {b : Nat → Int} {n : Int} {M C : List Int} {T : pT} {o : Int}, sc_st b n M C T o I' L' → sc_st b n M C (m_nx b n T) (o + 1) I2 L2 := fun {b n M C T o} hst => sc_adv (hk2 hst) (sc_ones hst (z := z3) (by have := hzo hst; omega) (by have := hzo hst; omega)) hadv
        refine And.intro ?_ ?_
        · intro t3
          rcases hbr with ⟨q, _⟩ | ⟨_, q1, q2, q3⟩
          · omega
          obtain ⟨s, hs⟩ : ∃ s, x_W32[w.toNat]? = some s := ⟨_, List.getElem?_eq_getElem (show w.toNat < x_W32.length by
            have : x_W32.length = 24 := rfl
            omega)⟩
          have hTs : ∀ {b : Nat → Int} {n : Int} {M C : List Int} {T : pT} {o : Int}, sc_st b n M C T o I' L' → T.1 = 2 ∧ T.2.2.2 = s := fun {b n M C T o} hst => (c_tok_word hst.2.1 hs).mp ⟨q1, by omega⟩
          refine And.intro ?_ ?_
          · intro t4
            have hsW : s ∈ m_W ∧ s ≠ 14836 := by
              have hv : w.toNat = 16 ∨ w.toNat = 17 ∨ w.toNat = 18 ∨ w.toNat = 19 ∨ w.toNat = 20 ∨ w.toNat = 21 ∨ w.toNat = 22 ∨ w.toNat = 23 := by omega
              rcases hv with hv | hv | hv | hv | hv | hv | hv | hv <;> (rw [hv] at hs; have h8 := Option.some.inj hs; subst h8; decide)
            have hza : ([xR 127, .inl w] : List xV) = [xR 127, .inl ((w.toNat : Nat) : Int)] := by rw [show ((w.toNat : Nat) : Int) = w by omega]
            refine And.intro ⟨w.toNat, hza, ⟨by omega, by omega⟩, _, _, _, _, _, _, hnx hst⟩ ?_
            intro rv I3 L3 hp
            obtain ⟨nu, _, rfl⟩ := hp w.toNat hza s hs _ _ _ _ _ _ (hnx hst)
            refine ⟨by split <;> decide, fun b n M C T o hst => ?_⟩
            obtain ⟨nu2, hlf2, e2⟩ := hp w.toNat hza s hs _ _ _ _ _ _ (hnx hst)
            have hT := hTs hst
            have hmf := fun (S : List Nat) => m_lf (b := b) (n := n) (M := M) (C := C) (T := T) (o := o) (d := 2) (S := S) (show T.1 = 2 ∧ T.2.2.2 ∈ m_W ∧ T.2.2.2 ≠ 14836 from ⟨hT.1, by rw [hT.2]; exact hsW.1, by rw [hT.2]; exact hsW.2⟩) (hno hst)
            rcases hr : m_leaf b n M C s (m_nx b n T) with ⟨at0, f⟩ | T'
            · rw [hr] at hlf2
              obtain ⟨l0, l1, l2⟩ := hlf2
              refine Or.inl ⟨by rw [e2, if_pos l0], fun S => ?_⟩
              rw [l1, l2]
              exact (hmf S).1 _ (by rw [hT.2]; exact hr)
            · rw [hr] at hlf2
              obtain ⟨l0, l1, l2⟩ := hlf2
              exact Or.inr ⟨by rw [e2, if_neg (by omega)], T', o + 1, l2, Int.le_refl _, fun S r h => (hmf S).2 T' r (by rw [hT.2]; exact hr) h⟩
          · intro t4
            have hs15 : s = 14836 := by
              have hv : w.toNat = 15 := by omega
              rw [hv] at hs
              exact (Option.some.inj hs).symm
            refine Or.inl ⟨by decide, ?_⟩
            refine And.intro ⟨rfl, _, _, _, _, _, _, hnx hst⟩ ?_
            intro rv I3 L3 hp
            rcases hp _ _ _ _ _ _ (hnx hst) with ⟨rfl, _⟩ | ⟨rfl, _⟩
            · refine And.intro (fun q => absurd rfl q) (fun _ => ?_)
              refine ⟨by decide, fun b n M C T o hst => Or.inl ⟨rfl, fun S => ?_⟩⟩
              rcases hp _ _ _ _ _ _ (hnx hst) with ⟨_, h9⟩ | ⟨h9, _⟩
              · exact m_nt (hno hst) ⟨(hTs hst).1, (hTs hst).2.trans hs15⟩ (h9 (20 :: S))
              · exact (sc_01 h9).elim
            · refine And.intro (fun _ => ?_) (fun q => absurd q (by decide))
              refine And.intro ⟨15, 0, 0, rfl, by decide, by decide, by decide⟩ ?_
              rintro rv I4 L4 ⟨rfl, rfl, hf⟩
              refine ⟨by decide, fun b n M C T o hst => Or.inr ⟨rfl, ?_⟩⟩
              rcases hp _ _ _ _ _ _ (hnx hst) with ⟨h9, _⟩ | ⟨_, T3, o3, p1, p2, p3⟩
              · exact (sc_10 h9).elim
              · exact ⟨T3, o3, sc_step p1 hf, by omega, fun S r h => m_nt (hno hst) ⟨(hTs hst).1, (hTs hst).2.trans hs15⟩ (p3 (20 :: S) r (m_not h))⟩
        · intro t3
          rcases hbr with ⟨_, q1, q2⟩ | ⟨q, _⟩
          rotate_left
          · exact absurd q t3
          have hTs : ∀ {b : Nat → Int} {n : Int} {M C : List Int} {T : pT} {o : Int}, sc_st b n M C T o I' L' → T.1 = 5 := fun {b n M C T o} hst => (c_tok_sign hst.2.1).1.mp q1
          refine Or.inl ⟨by decide, ?_⟩
          refine And.intro ⟨rfl, _, _, _, _, _, _, hnx hst⟩ ?_
          intro rv I3 L3 hp
          rcases hp _ _ _ _ _ _ (hnx hst) with ⟨rfl, _⟩ | ⟨rfl, T0, o0, hst0, _⟩
          · refine And.intro (fun _ => ?_) (fun q => absurd rfl q)
            refine ⟨by decide, fun b n M C T o hst => Or.inl ⟨rfl, fun S => ?_⟩⟩
            rcases hp _ _ _ _ _ _ (hnx hst) with ⟨_, h9⟩ | ⟨h9, _⟩
            · exact m_open (hone hst) (hno hst) (hTs hst) (h9 (23 :: S) (Or.inr ⟨S, rfl⟩))
            · exact (sc_01 h9).elim
          · refine And.intro (fun q => absurd q (by decide)) (fun _ => ?_)
            refine And.intro ⟨41, rfl, fun q => sc_bh hst0 (by have := (c_tok_sign hst0.2.1).1.mp q; omega)⟩ ?_
            rintro rv I4 L4 ⟨x, hx, ⟨g1, g2, rfl, hadv4⟩ | ⟨g1, rfl, g3, g4⟩⟩
            · cases hx
              refine And.intro (fun q => absurd q (by decide)) (fun _ => ?_)
              refine ⟨by decide, fun b n M C T o hst => Or.inr ⟨rfl, ?_⟩⟩
              rcases hp _ _ _ _ _ _ (hnx hst) with ⟨h9, _⟩ | ⟨_, T3, o3, p1, p2, p3, p4, p5⟩
              · exact (sc_10 h9).elim
              · have hs := c_tok_sign p1.2.1
                exact ⟨m_nx b n T3, o3, sc_adv (by have := hs.1.mp g1; omega) p1 hadv4, by omega, fun S r h => m_open (hone hst) (hno hst) (hTs hst) (p5 (23 :: S) r (Or.inr ⟨S, rfl⟩) (m_close ⟨hs.1.mp g1, (hs.2 g1).symm.trans g2⟩ h))⟩
            · cases hx
              subst g3
              subst g4
              refine And.intro (fun _ => ?_) (fun q => absurd rfl q)
              refine ⟨by decide, fun b n M C T o hst => Or.inl ⟨rfl, fun S => ?_⟩⟩
              rcases hp _ _ _ _ _ _ (hnx hst) with ⟨h9, _⟩ | ⟨_, T3, o3, p1, p2, p3, p4, p5⟩
              · exact (sc_10 h9).elim
              · have hs := c_tok_sign p1.2.1
                have h9 : I3 1 4 = T3.2.1 := p1.2.1.1
                show m_ans b n M C (false, T, o, 2, S) (.inl (I3 1 4, 1))
                rw [h9]
                exact m_open (hone hst) (hno hst) (hTs hst) (p5 (23 :: S) _ (Or.inr ⟨S, rfl⟩) (m_noclose p3 p4 (fun q => g1 ⟨hs.1.mpr q.1, (hs.2 (hs.1.mpr q.1)).trans q.2⟩)))
      · intro t2
        refine And.intro ⟨4, rfl, by decide, by decide⟩ ?_
        rintro rv I2 L2 ⟨f, hf, rfl, rfl, rfl⟩
        cases hf
        exact ⟨by decide, hmany (Or.inr t2)⟩
set_option maxHeartbeats 4000000 in
theorem xn_all_2 (hE : z_EX EX) : x_Ok EX l zTB zNT kc D vwCl xb nTY ad yP0 64 26 (xr_rd 2) (xo_all 2) := by
  refine x_loop (ct := x_ctl [(65, 25, xr_rd 2, xo_one 2), (108, 0, xr_sign, xo_isWord), (100, 1, xr_adv, xo_adv), (56, 0, xr_as, xo_as)]) (M := ym_X8_readAll) hE y_prog 60 rfl (by decide) (x_ctl_cons (xn_one_2 hE) (x_ctl_cons (xn_isWord hE) (x_ctl_cons (xn_adv hE) (x_ctl_cons (xn_as hE) x_ctl_nil)))) (fun za I L ⟨h, _⟩ => by subst h; exact (by decide : 2 ≤ 3)) (x_cut1 12) (sc_allI 2) (fun za I L ⟨h, b, n, M, C, T, o, hst⟩ => ?_) (fun za I L ⟨_, b, n, M, C, T, o, hst⟩ m pc lv sv I' L' hc hi => ?_)
  · subst h
    refine And.intro ⟨rfl, b, n, M, C, T, o, hst⟩ ?_
    intro rv I1 L1 hp
    rcases hp b n M C T o hst with ⟨rfl, _⟩ | ⟨rfl, _⟩
    · refine And.intro (fun q => absurd rfl q) (fun _ => ?_)
      refine ⟨by decide, fun b n M C T o hst => Or.inl ⟨rfl, fun S hS => ?_⟩⟩
      rcases hp b n M C T o hst with ⟨_, h9⟩ | ⟨h9, _⟩
      · exact h9 S
      · exact (sc_01 h9).elim
    · refine And.intro (fun _ => ?_) (fun q => absurd q (by decide))
      refine ⟨20, [(0, xR 127), (1, .inl 2), (2, .inl ((0 : Nat) : Int))], ⟨rfl, rfl, rfl, trivial⟩, rfl, rfl, 0, by omega, rfl, rfl, fun b n M C T o hst => ?_⟩
      rcases hp b n M C T o hst with ⟨h9, _⟩ | ⟨_, T1, o1, g1, g2, g3⟩
      · exact (sc_10 h9).elim
      · exact ⟨T1, o1, g1, by omega, fun S r _ h1 _ => g3 S r h1⟩
  · obtain ⟨rfl, rfl, k, hk, rfl, rfl, hinv⟩ := hi
    obtain ⟨T0, o0, hst0, ho0, _⟩ := hinv b n M C T o hst
    have ho := hst.2.2.2.2.2.1
    have ho20 := hst0.2.2.2.2.2.2
    refine And.intro ?_ ?_
    · intro t1
      exfalso
      omega
    · intro t1
      refine And.intro ⟨14, rfl⟩ ?_
      rintro rv I1 L1 ⟨rfl, rfl, x, hx, ⟨g1, g2, rfl⟩ | ⟨g1, rfl⟩⟩
      · cases hx
        refine And.intro (fun q => absurd q (by decide)) (fun _ => ?_)
        have hbw : ∀ {b : Nat → Int} {n : Int} {M C : List Int} {T : pT} {o : Int}, sc_st b n M C T o I1 L1 → m_and T := fun h => (c_tok_word h.2.1 (w := 14) rfl).mp ⟨g1, g2⟩
        refine And.intro ⟨rfl, sc_bh hst0 (by have := (hbw hst0).1; omega)⟩ ?_
        intro rv I2 L2 hadv
        have h9 := hadv.1
        subst h9
        have hnx : ∀ {b : Nat → Int} {n : Int} {M C : List Int} {T : pT} {o : Int}, sc_st b n M C T o I1 L1 → sc_st b n M C (m_nx b n T) o I2 L2 := fun h => sc_adv (by have := (hbw h).1; omega) h hadv
        refine And.intro ⟨rfl, _, _, _, _, _, _, hnx hst0⟩ ?_
        intro rv I3 L3 hp
        rcases hp _ _ _ _ _ _ (hnx hst0) with ⟨rfl, _⟩ | ⟨rfl, _⟩
        · refine And.intro (fun q => absurd rfl q) (fun _ => ?_)
          refine ⟨by decide, fun b n M C T o hst => Or.inl ⟨rfl, fun S hS => ?_⟩⟩
          obtain ⟨T1, o1, q1, q2, q3⟩ := hinv b n M C T o hst
          rcases hp _ _ _ _ _ _ (hnx q1) with ⟨_, h9⟩ | ⟨h9, _⟩
          · have h8 := m_and_go hS (hbw q1) (h9 (21 :: S))
            exact q3 S _ hS h8.1 h8.2
          · exact (sc_01 h9).elim
        · refine And.intro (fun _ => ?_) (fun q => absurd q (by decide))
          refine And.intro ⟨14, 0, 0, rfl, by decide, by decide, by decide⟩ ?_
          rintro rv I4 L4 ⟨rfl, rfl, hf⟩
          refine Or.inl ⟨by omega, 20 - (k + 1), [(0, xR 127), (1, .inl 2), (2, .inl ((k + 1 : Nat) : Int))], by omega, ⟨rfl, rfl, rfl, trivial⟩, rfl, rfl, k + 1, by omega, rfl, rfl, fun b n M C T o hst => ?_⟩
          obtain ⟨T1, o1, q1, q2, q3⟩ := hinv b n M C T o hst
          rcases hp _ _ _ _ _ _ (hnx q1) with ⟨h9, _⟩ | ⟨_, T3, o3, p1, p2, p3⟩
          · exact (sc_10 h9).elim
          · refine ⟨T3, o3, sc_step p1 hf, by omega, fun S r hS r1 r2 => ?_⟩
            have h8 := m_and_go hS (hbw q1) (p3 (21 :: S) r r2)
            exact q3 S r hS h8.1 h8.2
      · cases hx
        refine And.intro (fun _ => ?_) (fun q => absurd rfl q)
        refine ⟨by decide, fun b n M C T o hst => Or.inr ⟨rfl, ?_⟩⟩
        obtain ⟨T1, o1, q1, q2, q3⟩ := hinv b n M C T o hst
        exact ⟨T1, o1, q1, by omega, fun q => g1 ((c_tok_word q1.2.1 (w := 14) rfl).mpr q), q3⟩
set_option maxHeartbeats 4000000 in
theorem xn_cond_2 (hE : z_EX EX) : x_Ok EX l zTB zNT kc D vwCl xb nTY ad yP0 63 27 (xr_rd 2) (xo_cond 2) := by
  refine x_loop (ct := x_ctl [(64, 26, xr_rd 2, xo_all 2), (108, 0, xr_sign, xo_isWord), (100, 1, xr_adv, xo_adv), (56, 0, xr_as, xo_as)]) (M := ym_X8_readCond) hE y_prog 60 rfl (by decide) (x_ctl_cons (xn_all_2 hE) (x_ctl_cons (xn_isWord hE) (x_ctl_cons (xn_adv hE) (x_ctl_cons (xn_as hE) x_ctl_nil)))) (fun za I L ⟨h, _⟩ => by subst h; exact (by decide : 2 ≤ 3)) (x_cut1 12) (sc_condI 2) (fun za I L ⟨h, b, n, M, C, T, o, hst⟩ => ?_) (fun za I L ⟨_, b, n, M, C, T, o, hst⟩ m pc lv sv I' L' hc hi => ?_)
  · subst h
    refine And.intro ⟨rfl, b, n, M, C, T, o, hst⟩ ?_
    intro rv I1 L1 hp
    rcases hp b n M C T o hst with ⟨rfl, _⟩ | ⟨rfl, _⟩
    · refine And.intro (fun q => absurd rfl q) (fun _ => ?_)
      refine ⟨by decide, fun b n M C T o hst => Or.inl ⟨rfl, fun S hS => ?_⟩⟩
      rcases hp b n M C T o hst with ⟨_, h9⟩ | ⟨h9, _⟩
      · exact h9 S (Or.inl hS)
      · exact (sc_01 h9).elim
    · refine And.intro (fun _ => ?_) (fun q => absurd q (by decide))
      refine ⟨20, [(0, xR 127), (1, .inl 2), (2, .inl ((0 : Nat) : Int))], ⟨rfl, rfl, rfl, trivial⟩, rfl, rfl, 0, by omega, rfl, rfl, fun b n M C T o hst => ?_⟩
      rcases hp b n M C T o hst with ⟨h9, _⟩ | ⟨_, T1, o1, g1, g2, g3, g4⟩
      · exact (sc_10 h9).elim
      · exact ⟨T1, o1, g1, by omega, g3, fun S r hS hJ => g4 S r (Or.inl hS) (hJ [] (Or.inl rfl)) (hJ [21] (Or.inr (Or.inl rfl)))⟩
  · obtain ⟨rfl, rfl, k, hk, rfl, rfl, hinv⟩ := hi
    obtain ⟨T0, o0, hst0, ho0, _⟩ := hinv b n M C T o hst
    have ho := hst.2.2.2.2.2.1
    have ho20 := hst0.2.2.2.2.2.2
    refine And.intro ?_ ?_
    · intro t1
      exfalso
      omega
    · intro t1
      refine And.intro ⟨13, rfl⟩ ?_
      rintro rv I1 L1 ⟨rfl, rfl, x, hx, ⟨g1, g2, rfl⟩ | ⟨g1, rfl⟩⟩
      · cases hx
        refine And.intro (fun q => absurd q (by decide)) (fun _ => ?_)
        have hbw : ∀ {b : Nat → Int} {n : Int} {M C : List Int} {T : pT} {o : Int}, sc_st b n M C T o I1 L1 → m_or T := fun h => (c_tok_word h.2.1 (w := 13) rfl).mp ⟨g1, g2⟩
        refine And.intro ⟨rfl, sc_bh hst0 (by have := (hbw hst0).1; omega)⟩ ?_
        intro rv I2 L2 hadv
        have h9 := hadv.1
        subst h9
        have hnx : ∀ {b : Nat → Int} {n : Int} {M C : List Int} {T : pT} {o : Int}, sc_st b n M C T o I1 L1 → sc_st b n M C (m_nx b n T) o I2 L2 := fun h => sc_adv (by have := (hbw h).1; omega) h hadv
        refine And.intro ⟨rfl, _, _, _, _, _, _, hnx hst0⟩ ?_
        intro rv I3 L3 hp
        rcases hp _ _ _ _ _ _ (hnx hst0) with ⟨rfl, _⟩ | ⟨rfl, _⟩
        · refine And.intro (fun q => absurd rfl q) (fun _ => ?_)
          refine ⟨by decide, fun b n M C T o hst => Or.inl ⟨rfl, fun S hS => ?_⟩⟩
          obtain ⟨T1, o1, q1, q2, q3, q4⟩ := hinv b n M C T o hst
          rcases hp _ _ _ _ _ _ (hnx q1) with ⟨_, h9⟩ | ⟨h9, _⟩
          · exact q4 S _ hS (fun J hJ => m_or_go hJ hS (hbw q1) (h9 (22 :: S) (Or.inr ⟨S, rfl⟩)))
          · exact (sc_01 h9).elim
        · refine And.intro (fun _ => ?_) (fun q => absurd q (by decide))
          refine And.intro ⟨13, 0, 0, rfl, by decide, by decide, by decide⟩ ?_
          rintro rv I4 L4 ⟨rfl, rfl, hf⟩
          refine Or.inl ⟨by omega, 20 - (k + 1), [(0, xR 127), (1, .inl 2), (2, .inl ((k + 1 : Nat) : Int))], by omega, ⟨rfl, rfl, rfl, trivial⟩, rfl, rfl, k + 1, by omega, rfl, rfl, fun b n M C T o hst => ?_⟩
          obtain ⟨T1, o1, q1, q2, q3, q4⟩ := hinv b n M C T o hst
          rcases hp _ _ _ _ _ _ (hnx q1) with ⟨h9, _⟩ | ⟨_, T3, o3, p1, p2, p3, p4⟩
          · exact (sc_10 h9).elim
          · exact ⟨T3, o3, sc_step p1 hf, by omega, p3, fun S r hS hJ3 => q4 S r hS (fun J hJ => m_or_go hJ hS (hbw q1) (p4 (22 :: S) r (Or.inr ⟨S, rfl⟩) (hJ3 [22] (Or.inr (Or.inr (Or.inl rfl)))) (hJ3 [21, 22] (Or.inr (Or.inr (Or.inr rfl))))))⟩
      · cases hx
        refine And.intro (fun _ => ?_) (fun q => absurd rfl q)
        refine ⟨by decide, fun b n M C T o hst => Or.inr ⟨rfl, ?_⟩⟩
        obtain ⟨T1, o1, q1, q2, q3, q4⟩ := hinv b n M C T o hst
        have hno : ¬ m_or T1 := fun q => g1 ((c_tok_word q1.2.1 (w := 13) rfl).mpr q)
        exact ⟨T1, o1, q1, by omega, q3, hno, fun S r hS h => q4 S r hS (fun J hJ => m_Jgo hJ hS q3 hno h)⟩
set_option maxHeartbeats 4000000 in
theorem xn_one_1 (hE : z_EX EX) : x_Ok EX l zTB zNT kc D vwCl xb nTY ad yP0 65 28 (xr_rd 1) (xo_one 1) := by
  refine x_loop (ct := x_ctl [(109, 0, xr_sign, xo_isSign), (106, 0, xr_ref, xo_ref), (100, 1, xr_adv, xo_adv), (110, 2, xr_ts, xo_ts), (56, 0, xr_as, xo_as), (66, 3, xr_say, xo_say), (63, 27, xr_rd 2, xo_cond 2), (65, 25, xr_rd 2, xo_one 2)]) (M := ym_X8_readOne) hE y_prog 80 rfl (by decide) (x_ctl_cons (xn_isSign hE) (x_ctl_cons (xn_ref hE) (x_ctl_cons (xn_adv hE) (x_ctl_cons (xn_ts hE) (x_ctl_cons (xn_as hE) (x_ctl_cons (xn_say hE) (x_ctl_cons (xn_cond_2 hE) (x_ctl_cons (xn_one_2 hE) x_ctl_nil)))))))) (fun za I L ⟨h, _⟩ => by subst h; exact (by decide : 2 ≤ 4)) (x_cut1 46) (sc_oneI 1) (fun za I L ⟨h, b, n, M, C, T, o, hst⟩ => ?_) (fun za I L ⟨_, b, n, M, C, T, o, hst⟩ m pc lv sv I' L' hc hi => ?_)
  · subst h
    refine And.intro ⟨40, rfl⟩ ?_
    rintro rv I1 L1 ⟨rfl, rfl, x, hx, ⟨g1, g2, rfl⟩ | ⟨g1, rfl⟩⟩
    · cases hx
      refine And.intro (fun _ => ?_) (fun q => absurd q (by decide))
      exact ⟨0, [(0, xR 127), (1, .inl 1), (2, .inl 1)], ⟨rfl, rfl, rfl, trivial⟩, rfl, rfl, rfl, rfl, rfl, 1, rfl, Or.inl ⟨rfl, g1, g2⟩⟩
    · cases hx
      refine And.intro (fun q => absurd rfl q) (fun _ => ?_)
      have hbad : ¬ (I1 1 6 = 2 ∧ 15 ≤ I1 1 7) → xo_one 1 [xR 127, .inl 1] I1 L1 (some (.inl 0)) (x_bad I1 1) L1 := fun hn b n M C T o hst => by
        refine Or.inl ⟨rfl, fun S => ?_⟩
        have h9 : I1 1 4 = T.2.1 := hst.2.1.1
        show m_ans b n M C (false, T, o, 1, S) (.inl (I1 1 4, 1))
        rw [h9]
        refine m_bad1 (fun q => ?_)
        rcases q with q | q
        · have hs := c_tok_sign hst.2.1
          have h8 := hs.1.mpr q.1
          exact g1 ⟨h8, (hs.2 h8).trans q.2⟩
        · obtain ⟨w, w1, w2⟩ := sc_W1 _ q.2
          have h8 := (c_tok_word hst.2.1 w2).mpr ⟨q.1, rfl⟩
          exact hn ⟨h8.1, by omega⟩
      intro k (hk : k = I1 1 6) _
      refine And.intro ?_ ?_
      · intro t1
        refine And.intro ⟨1, rfl, by decide, by decide⟩ ?_
        rintro rv I2 L2 ⟨f, hf, rfl, rfl, rfl⟩
        cases hf
        exact ⟨by decide, hbad (by omega)⟩
      · intro t1 v (hv : v = I1 1 7) _
        refine And.intro ?_ ?_
        · intro t2
          have h23 : I1 1 7 ≤ 23 := by
            rcases hst.2.1.2.2 with ⟨q1, q2⟩ | ⟨q1, q2⟩ | ⟨q1, q2, q3⟩ | ⟨q1, q2, q3⟩ | ⟨q1, q2, q3⟩
            · omega
            · omega
            · rcases q3 with ⟨w, w1, w2, w3⟩ | ⟨w1, w2⟩
              · have : w < 24 := (List.getElem?_eq_some_iff.mp w1).1
                omega
              · omega
            · omega
            · omega
          exact ⟨0, [(0, xR 127), (1, .inl 1), (2, .inl 0)], ⟨rfl, rfl, rfl, trivial⟩, rfl, rfl, rfl, rfl, rfl, 0, rfl, Or.inr ⟨rfl, by omega, by omega, h23⟩⟩
        · intro t2
          refine And.intro ⟨1, rfl, by decide, by decide⟩ ?_
          rintro rv I2 L2 ⟨f, hf, rfl, rfl, rfl⟩
          cases hf
          exact ⟨by decide, hbad (by omega)⟩
  · obtain ⟨rfl, rfl, rfl, rfl, rfl, br, rfl, hbr⟩ := hi
    have hone : ∀ {b : Nat → Int} {n : Int} {M C : List Int} {T : pT} {o : Int}, sc_st b n M C T o I' L' → m_one T := fun {b n M C T o} hst => by
      rcases hbr with ⟨_, q1, q2⟩ | ⟨_, q1, q2, q3⟩
      · have hs := c_tok_sign hst.2.1
        exact Or.inl ⟨hs.1.mp q1, by rw [← hs.2 q1]; exact q2⟩
      · obtain ⟨s, s1, s2⟩ := sc_W2 ⟨(I' 1 7).toNat, by omega⟩ (show 15 ≤ (I' 1 7).toNat by omega)
        have h8 := (c_tok_word hst.2.1 s2).mp ⟨q1, by dsimp only; omega⟩
        exact Or.inr ⟨h8.1, by rw [h8.2]; exact s1⟩
    intro z (hz : z = I' 127 5) (bz : 0 ≤ z ∧ z ≤ 20)
    have hzo : ∀ {b : Nat → Int} {n : Int} {M C : List Int} {T : pT} {o : Int}, sc_st b n M C T o I' L' → o = z := fun {b n M C T o} hst => by
      have := hst.2.2.2.2.1
      omega
    have hmany : (20 ≤ z ∨ (8 : Int) < 1) → xo_one 1 [xR 127, .inl 1] I' L' (some (.inl 0)) (x_bad I' 4) L' := fun hn b n M C T o hst => by
      refine Or.inl ⟨rfl, fun S => ?_⟩
      have h9 : I' 1 4 = T.2.1 := hst.2.1.1
      show m_ans b n M C (false, T, o, 1, S) (.inl (I' 1 4, 4))
      rw [h9]
      exact m_bad4 (hone hst) (by rw [hzo hst]; exact hn)
    refine And.intro ?_ ?_
    · intro t1
      refine And.intro ⟨4, rfl, by decide, by decide⟩ ?_
      rintro rv I2 L2 ⟨f, hf, rfl, rfl, rfl⟩
      cases hf
      exact ⟨by decide, hmany (Or.inl t1)⟩
    · intro t1
      refine And.intro ?_ ?_
      · intro t2
        have hno : ∀ {b : Nat → Int} {n : Int} {M C : List Int} {T : pT} {o : Int}, sc_st b n M C T o I' L' → ¬ (20 ≤ o ∨ (8 : Int) < 1) := fun {b n M C T o} hst => by
          have := hzo hst
          omega
        have hk2 : ∀ {b : Nat → Int} {n : Int} {M C : List Int} {T : pT} {o : Int}, sc_st b n M C T o I' L' → 2 ≤ T.1 := fun {b n M C T o} hst => by
          rcases hone hst with q | q <;> omega
        intro z3 (hz3 : z3 = I' 127 5) _
        refine Or.inl ⟨by omega, ?_⟩
        refine And.intro (show 0 ≤ z3 + 1 ∧ z3 + 1 ≤ 20 by omega) ?_
        intro w (hw : w = I' 1 7) _
        refine And.intro ⟨rfl, (show x_bh I' from sc_bh hst (hk2 hst))⟩ ?_
        intro rv I2 L2 hadv
        have h9 := hadv.1
        subst h9
        have hnx : ∀ {b : Nat → Int} {n : Int} {M C : List Int} {T : pT} {o : Int}, sc_st b n M C T o I' L' → sc_st b n M C (m_nx b n T) (o + 1) I2 L2 := fun {b n M C T o} hst => sc_adv (hk2 hst) (sc_ones hst (z := z3) (by have := hzo hst; omega) (by have := hzo hst; omega)) hadv
        refine And.intro ?_ ?_
        · intro t3
          rcases hbr with ⟨q, _⟩ | ⟨_, q1, q2, q3⟩
          · omega
          obtain ⟨s, hs⟩ : ∃ s, x_W32[w.toNat]? = some s := ⟨_, List.getElem?_eq_getElem (show w.toNat < x_W32.length by
            have : x_W32.length = 24 := rfl
            omega)⟩
          have hTs : ∀ {b : Nat → Int} {n : Int} {M C : List Int} {T : pT} {o : Int}, sc_st b n M C T o I' L' → T.1 = 2 ∧ T.2.2.2 = s := fun {b n M C T o} hst => (c_tok_word hst.2.1 hs).mp ⟨q1, by omega⟩
          refine And.intro ?_ ?_
          · intro t4
            have hsW : s ∈ m_W ∧ s ≠ 14836 := by
              have hv : w.toNat = 16 ∨ w.toNat = 17 ∨ w.toNat = 18 ∨ w.toNat = 19 ∨ w.toNat = 20 ∨ w.toNat = 21 ∨ w.toNat = 22 ∨ w.toNat = 23 := by omega
              rcases hv with hv | hv | hv | hv | hv | hv | hv | hv <;> (rw [hv] at hs; have h8 := Option.some.inj hs; subst h8; decide)
            have hza : ([xR 127, .inl w] : List xV) = [xR 127, .inl ((w.toNat : Nat) : Int)] := by rw [show ((w.toNat : Nat) : Int) = w by omega]
            refine And.intro ⟨w.toNat, hza, ⟨by omega, by omega⟩, _, _, _, _, _, _, hnx hst⟩ ?_
            intro rv I3 L3 hp
            obtain ⟨nu, _, rfl⟩ := hp w.toNat hza s hs _ _ _ _ _ _ (hnx hst)
            refine ⟨by split <;> decide, fun b n M C T o hst => ?_⟩
            obtain ⟨nu2, hlf2, e2⟩ := hp w.toNat hza s hs _ _ _ _ _ _ (hnx hst)
            have hT := hTs hst
            have hmf := fun (S : List Nat) => m_lf (b := b) (n := n) (M := M) (C := C) (T := T) (o := o) (d := 1) (S := S) (show T.1 = 2 ∧ T.2.2.2 ∈ m_W ∧ T.2.2.2 ≠ 14836 from ⟨hT.1, by rw [hT.2]; exact hsW.1, by rw [hT.2]; exact hsW.2⟩) (hno hst)
            rcases hr : m_leaf b n M C s (m_nx b n T) with ⟨at0, f⟩ | T'
            · rw [hr] at hlf2
              obtain ⟨l0, l1, l2⟩ := hlf2
              refine Or.inl ⟨by rw [e2, if_pos l0], fun S => ?_⟩
              rw [l1, l2]
              exact (hmf S).1 _ (by rw [hT.2]; exact hr)
            · rw [hr] at hlf2
              obtain ⟨l0, l1, l2⟩ := hlf2
              exact Or.inr ⟨by rw [e2, if_neg (by omega)], T', o + 1, l2, Int.le_refl _, fun S r h => (hmf S).2 T' r (by rw [hT.2]; exact hr) h⟩
          · intro t4
            have hs15 : s = 14836 := by
              have hv : w.toNat = 15 := by omega
              rw [hv] at hs
              exact (Option.some.inj hs).symm
            refine Or.inl ⟨by decide, ?_⟩
            refine And.intro ⟨rfl, _, _, _, _, _, _, hnx hst⟩ ?_
            intro rv I3 L3 hp
            rcases hp _ _ _ _ _ _ (hnx hst) with ⟨rfl, _⟩ | ⟨rfl, _⟩
            · refine And.intro (fun q => absurd rfl q) (fun _ => ?_)
              refine ⟨by decide, fun b n M C T o hst => Or.inl ⟨rfl, fun S => ?_⟩⟩
              rcases hp _ _ _ _ _ _ (hnx hst) with ⟨_, h9⟩ | ⟨h9, _⟩
              · exact m_nt (hno hst) ⟨(hTs hst).1, (hTs hst).2.trans hs15⟩ (h9 (20 :: S))
              · exact (sc_01 h9).elim
            · refine And.intro (fun _ => ?_) (fun q => absurd q (by decide))
              refine And.intro ⟨15, 0, 0, rfl, by decide, by decide, by decide⟩ ?_
              rintro rv I4 L4 ⟨rfl, rfl, hf⟩
              refine ⟨by decide, fun b n M C T o hst => Or.inr ⟨rfl, ?_⟩⟩
              rcases hp _ _ _ _ _ _ (hnx hst) with ⟨h9, _⟩ | ⟨_, T3, o3, p1, p2, p3⟩
              · exact (sc_10 h9).elim
              · exact ⟨T3, o3, sc_step p1 hf, by omega, fun S r h => m_nt (hno hst) ⟨(hTs hst).1, (hTs hst).2.trans hs15⟩ (p3 (20 :: S) r (m_not h))⟩
        · intro t3
          rcases hbr with ⟨_, q1, q2⟩ | ⟨q, _⟩
          rotate_left
          · exact absurd q t3
          have hTs : ∀ {b : Nat → Int} {n : Int} {M C : List Int} {T : pT} {o : Int}, sc_st b n M C T o I' L' → T.1 = 5 := fun {b n M C T o} hst => (c_tok_sign hst.2.1).1.mp q1
          refine Or.inl ⟨by decide, ?_⟩
          refine And.intro ⟨rfl, _, _, _, _, _, _, hnx hst⟩ ?_
          intro rv I3 L3 hp
          rcases hp _ _ _ _ _ _ (hnx hst) with ⟨rfl, _⟩ | ⟨rfl, T0, o0, hst0, _⟩
          · refine And.intro (fun _ => ?_) (fun q => absurd rfl q)
            refine ⟨by decide, fun b n M C T o hst => Or.inl ⟨rfl, fun S => ?_⟩⟩
            rcases hp _ _ _ _ _ _ (hnx hst) with ⟨_, h9⟩ | ⟨h9, _⟩
            · exact m_open (hone hst) (hno hst) (hTs hst) (h9 (23 :: S) (Or.inr ⟨S, rfl⟩))
            · exact (sc_01 h9).elim
          · refine And.intro (fun q => absurd q (by decide)) (fun _ => ?_)
            refine And.intro ⟨41, rfl, fun q => sc_bh hst0 (by have := (c_tok_sign hst0.2.1).1.mp q; omega)⟩ ?_
            rintro rv I4 L4 ⟨x, hx, ⟨g1, g2, rfl, hadv4⟩ | ⟨g1, rfl, g3, g4⟩⟩
            · cases hx
              refine And.intro (fun q => absurd q (by decide)) (fun _ => ?_)
              refine ⟨by decide, fun b n M C T o hst => Or.inr ⟨rfl, ?_⟩⟩
              rcases hp _ _ _ _ _ _ (hnx hst) with ⟨h9, _⟩ | ⟨_, T3, o3, p1, p2, p3, p4, p5⟩
              · exact (sc_10 h9).elim
              · have hs := c_tok_sign p1.2.1
                exact ⟨m_nx b n T3, o3, sc_adv (by have := hs.1.mp g1; omega) p1 hadv4, by omega, fun S r h => m_open (hone hst) (hno hst) (hTs hst) (p5 (23 :: S) r (Or.inr ⟨S, rfl⟩) (m_close ⟨hs.1.mp g1, (hs.2 g1).symm.trans g2⟩ h))⟩
            · cases hx
              subst g3
              subst g4
              refine And.intro (fun _ => ?_) (fun q => absurd rfl q)
              refine ⟨by decide, fun b n M C T o hst => Or.inl ⟨rfl, fun S => ?_⟩⟩
              rcases hp _ _ _ _ _ _ (hnx hst) with ⟨h9, _⟩ | ⟨_, T3, o3, p1, p2, p3, p4, p5⟩
              · exact (sc_10 h9).elim
              · have hs := c_tok_sign p1.2.1
                have h9 : I3 1 4 = T3.2.1 := p1.2.1.1
                show m_ans b n M C (false, T, o, 1, S) (.inl (I3 1 4, 1))
                rw [h9]
                exact m_open (hone hst) (hno hst) (hTs hst) (p5 (23 :: S) _ (Or.inr ⟨S, rfl⟩) (m_noclose p3 p4 (fun q => g1 ⟨hs.1.mpr q.1, (hs.2 (hs.1.mpr q.1)).trans q.2⟩)))
      · intro t2
        refine And.intro ⟨4, rfl, by decide, by decide⟩ ?_
        rintro rv I2 L2 ⟨f, hf, rfl, rfl, rfl⟩
        cases hf
        exact ⟨by decide, hmany (Or.inr t2)⟩
set_option maxHeartbeats 4000000 in
theorem xn_all_1 (hE : z_EX EX) : x_Ok EX l zTB zNT kc D vwCl xb nTY ad yP0 64 29 (xr_rd 1) (xo_all 1) := by
  refine x_loop (ct := x_ctl [(65, 28, xr_rd 1, xo_one 1), (108, 0, xr_sign, xo_isWord), (100, 1, xr_adv, xo_adv), (56, 0, xr_as, xo_as)]) (M := ym_X8_readAll) hE y_prog 60 rfl (by decide) (x_ctl_cons (xn_one_1 hE) (x_ctl_cons (xn_isWord hE) (x_ctl_cons (xn_adv hE) (x_ctl_cons (xn_as hE) x_ctl_nil)))) (fun za I L ⟨h, _⟩ => by subst h; exact (by decide : 2 ≤ 3)) (x_cut1 12) (sc_allI 1) (fun za I L ⟨h, b, n, M, C, T, o, hst⟩ => ?_) (fun za I L ⟨_, b, n, M, C, T, o, hst⟩ m pc lv sv I' L' hc hi => ?_)
  · subst h
    refine And.intro ⟨rfl, b, n, M, C, T, o, hst⟩ ?_
    intro rv I1 L1 hp
    rcases hp b n M C T o hst with ⟨rfl, _⟩ | ⟨rfl, _⟩
    · refine And.intro (fun q => absurd rfl q) (fun _ => ?_)
      refine ⟨by decide, fun b n M C T o hst => Or.inl ⟨rfl, fun S hS => ?_⟩⟩
      rcases hp b n M C T o hst with ⟨_, h9⟩ | ⟨h9, _⟩
      · exact h9 S
      · exact (sc_01 h9).elim
    · refine And.intro (fun _ => ?_) (fun q => absurd q (by decide))
      refine ⟨20, [(0, xR 127), (1, .inl 1), (2, .inl ((0 : Nat) : Int))], ⟨rfl, rfl, rfl, trivial⟩, rfl, rfl, 0, by omega, rfl, rfl, fun b n M C T o hst => ?_⟩
      rcases hp b n M C T o hst with ⟨h9, _⟩ | ⟨_, T1, o1, g1, g2, g3⟩
      · exact (sc_10 h9).elim
      · exact ⟨T1, o1, g1, by omega, fun S r _ h1 _ => g3 S r h1⟩
  · obtain ⟨rfl, rfl, k, hk, rfl, rfl, hinv⟩ := hi
    obtain ⟨T0, o0, hst0, ho0, _⟩ := hinv b n M C T o hst
    have ho := hst.2.2.2.2.2.1
    have ho20 := hst0.2.2.2.2.2.2
    refine And.intro ?_ ?_
    · intro t1
      exfalso
      omega
    · intro t1
      refine And.intro ⟨14, rfl⟩ ?_
      rintro rv I1 L1 ⟨rfl, rfl, x, hx, ⟨g1, g2, rfl⟩ | ⟨g1, rfl⟩⟩
      · cases hx
        refine And.intro (fun q => absurd q (by decide)) (fun _ => ?_)
        have hbw : ∀ {b : Nat → Int} {n : Int} {M C : List Int} {T : pT} {o : Int}, sc_st b n M C T o I1 L1 → m_and T := fun h => (c_tok_word h.2.1 (w := 14) rfl).mp ⟨g1, g2⟩
        refine And.intro ⟨rfl, sc_bh hst0 (by have := (hbw hst0).1; omega)⟩ ?_
        intro rv I2 L2 hadv
        have h9 := hadv.1
        subst h9
        have hnx : ∀ {b : Nat → Int} {n : Int} {M C : List Int} {T : pT} {o : Int}, sc_st b n M C T o I1 L1 → sc_st b n M C (m_nx b n T) o I2 L2 := fun h => sc_adv (by have := (hbw h).1; omega) h hadv
        refine And.intro ⟨rfl, _, _, _, _, _, _, hnx hst0⟩ ?_
        intro rv I3 L3 hp
        rcases hp _ _ _ _ _ _ (hnx hst0) with ⟨rfl, _⟩ | ⟨rfl, _⟩
        · refine And.intro (fun q => absurd rfl q) (fun _ => ?_)
          refine ⟨by decide, fun b n M C T o hst => Or.inl ⟨rfl, fun S hS => ?_⟩⟩
          obtain ⟨T1, o1, q1, q2, q3⟩ := hinv b n M C T o hst
          rcases hp _ _ _ _ _ _ (hnx q1) with ⟨_, h9⟩ | ⟨h9, _⟩
          · have h8 := m_and_go hS (hbw q1) (h9 (21 :: S))
            exact q3 S _ hS h8.1 h8.2
          · exact (sc_01 h9).elim
        · refine And.intro (fun _ => ?_) (fun q => absurd q (by decide))
          refine And.intro ⟨14, 0, 0, rfl, by decide, by decide, by decide⟩ ?_
          rintro rv I4 L4 ⟨rfl, rfl, hf⟩
          refine Or.inl ⟨by omega, 20 - (k + 1), [(0, xR 127), (1, .inl 1), (2, .inl ((k + 1 : Nat) : Int))], by omega, ⟨rfl, rfl, rfl, trivial⟩, rfl, rfl, k + 1, by omega, rfl, rfl, fun b n M C T o hst => ?_⟩
          obtain ⟨T1, o1, q1, q2, q3⟩ := hinv b n M C T o hst
          rcases hp _ _ _ _ _ _ (hnx q1) with ⟨h9, _⟩ | ⟨_, T3, o3, p1, p2, p3⟩
          · exact (sc_10 h9).elim
          · refine ⟨T3, o3, sc_step p1 hf, by omega, fun S r hS r1 r2 => ?_⟩
            have h8 := m_and_go hS (hbw q1) (p3 (21 :: S) r r2)
            exact q3 S r hS h8.1 h8.2
      · cases hx
        refine And.intro (fun _ => ?_) (fun q => absurd rfl q)
        refine ⟨by decide, fun b n M C T o hst => Or.inr ⟨rfl, ?_⟩⟩
        obtain ⟨T1, o1, q1, q2, q3⟩ := hinv b n M C T o hst
        exact ⟨T1, o1, q1, by omega, fun q => g1 ((c_tok_word q1.2.1 (w := 14) rfl).mpr q), q3⟩
set_option maxHeartbeats 4000000 in
theorem xn_cond_1 (hE : z_EX EX) : x_Ok EX l zTB zNT kc D vwCl xb nTY ad yP0 63 30 (xr_rd 1) (xo_cond 1) := by
  refine x_loop (ct := x_ctl [(64, 29, xr_rd 1, xo_all 1), (108, 0, xr_sign, xo_isWord), (100, 1, xr_adv, xo_adv), (56, 0, xr_as, xo_as)]) (M := ym_X8_readCond) hE y_prog 60 rfl (by decide) (x_ctl_cons (xn_all_1 hE) (x_ctl_cons (xn_isWord hE) (x_ctl_cons (xn_adv hE) (x_ctl_cons (xn_as hE) x_ctl_nil)))) (fun za I L ⟨h, _⟩ => by subst h; exact (by decide : 2 ≤ 3)) (x_cut1 12) (sc_condI 1) (fun za I L ⟨h, b, n, M, C, T, o, hst⟩ => ?_) (fun za I L ⟨_, b, n, M, C, T, o, hst⟩ m pc lv sv I' L' hc hi => ?_)
  · subst h
    refine And.intro ⟨rfl, b, n, M, C, T, o, hst⟩ ?_
    intro rv I1 L1 hp
    rcases hp b n M C T o hst with ⟨rfl, _⟩ | ⟨rfl, _⟩
    · refine And.intro (fun q => absurd rfl q) (fun _ => ?_)
      refine ⟨by decide, fun b n M C T o hst => Or.inl ⟨rfl, fun S hS => ?_⟩⟩
      rcases hp b n M C T o hst with ⟨_, h9⟩ | ⟨h9, _⟩
      · exact h9 S (Or.inl hS)
      · exact (sc_01 h9).elim
    · refine And.intro (fun _ => ?_) (fun q => absurd q (by decide))
      refine ⟨20, [(0, xR 127), (1, .inl 1), (2, .inl ((0 : Nat) : Int))], ⟨rfl, rfl, rfl, trivial⟩, rfl, rfl, 0, by omega, rfl, rfl, fun b n M C T o hst => ?_⟩
      rcases hp b n M C T o hst with ⟨h9, _⟩ | ⟨_, T1, o1, g1, g2, g3, g4⟩
      · exact (sc_10 h9).elim
      · exact ⟨T1, o1, g1, by omega, g3, fun S r hS hJ => g4 S r (Or.inl hS) (hJ [] (Or.inl rfl)) (hJ [21] (Or.inr (Or.inl rfl)))⟩
  · obtain ⟨rfl, rfl, k, hk, rfl, rfl, hinv⟩ := hi
    obtain ⟨T0, o0, hst0, ho0, _⟩ := hinv b n M C T o hst
    have ho := hst.2.2.2.2.2.1
    have ho20 := hst0.2.2.2.2.2.2
    refine And.intro ?_ ?_
    · intro t1
      exfalso
      omega
    · intro t1
      refine And.intro ⟨13, rfl⟩ ?_
      rintro rv I1 L1 ⟨rfl, rfl, x, hx, ⟨g1, g2, rfl⟩ | ⟨g1, rfl⟩⟩
      · cases hx
        refine And.intro (fun q => absurd q (by decide)) (fun _ => ?_)
        have hbw : ∀ {b : Nat → Int} {n : Int} {M C : List Int} {T : pT} {o : Int}, sc_st b n M C T o I1 L1 → m_or T := fun h => (c_tok_word h.2.1 (w := 13) rfl).mp ⟨g1, g2⟩
        refine And.intro ⟨rfl, sc_bh hst0 (by have := (hbw hst0).1; omega)⟩ ?_
        intro rv I2 L2 hadv
        have h9 := hadv.1
        subst h9
        have hnx : ∀ {b : Nat → Int} {n : Int} {M C : List Int} {T : pT} {o : Int}, sc_st b n M C T o I1 L1 → sc_st b n M C (m_nx b n T) o I2 L2 := fun h => sc_adv (by have := (hbw h).1; omega) h hadv
        refine And.intro ⟨rfl, _, _, _, _, _, _, hnx hst0⟩ ?_
        intro rv I3 L3 hp
        rcases hp _ _ _ _ _ _ (hnx hst0) with ⟨rfl, _⟩ | ⟨rfl, _⟩
        · refine And.intro (fun q => absurd rfl q) (fun _ => ?_)
          refine ⟨by decide, fun b n M C T o hst => Or.inl ⟨rfl, fun S hS => ?_⟩⟩
          obtain ⟨T1, o1, q1, q2, q3, q4⟩ := hinv b n M C T o hst
          rcases hp _ _ _ _ _ _ (hnx q1) with ⟨_, h9⟩ | ⟨h9, _⟩
          · exact q4 S _ hS (fun J hJ => m_or_go hJ hS (hbw q1) (h9 (22 :: S) (Or.inr ⟨S, rfl⟩)))
          · exact (sc_01 h9).elim
        · refine And.intro (fun _ => ?_) (fun q => absurd q (by decide))
          refine And.intro ⟨13, 0, 0, rfl, by decide, by decide, by decide⟩ ?_
          rintro rv I4 L4 ⟨rfl, rfl, hf⟩
          refine Or.inl ⟨by omega, 20 - (k + 1), [(0, xR 127), (1, .inl 1), (2, .inl ((k + 1 : Nat) : Int))], by omega, ⟨rfl, rfl, rfl, trivial⟩, rfl, rfl, k + 1, by omega, rfl, rfl, fun b n M C T o hst => ?_⟩
          obtain ⟨T1, o1, q1, q2, q3, q4⟩ := hinv b n M C T o hst
          rcases hp _ _ _ _ _ _ (hnx q1) with ⟨h9, _⟩ | ⟨_, T3, o3, p1, p2, p3, p4⟩
          · exact (sc_10 h9).elim
          · exact ⟨T3, o3, sc_step p1 hf, by omega, p3, fun S r hS hJ3 => q4 S r hS (fun J hJ => m_or_go hJ hS (hbw q1) (p4 (22 :: S) r (Or.inr ⟨S, rfl⟩) (hJ3 [22] (Or.inr (Or.inr (Or.inl rfl)))) (hJ3 [21, 22] (Or.inr (Or.inr (Or.inr rfl))))))⟩
      · cases hx
        refine And.intro (fun _ => ?_) (fun q => absurd rfl q)
        refine ⟨by decide, fun b n M C T o hst => Or.inr ⟨rfl, ?_⟩⟩
        obtain ⟨T1, o1, q1, q2, q3, q4⟩ := hinv b n M C T o hst
        have hno : ¬ m_or T1 := fun q => g1 ((c_tok_word q1.2.1 (w := 13) rfl).mpr q)
        exact ⟨T1, o1, q1, by omega, q3, hno, fun S r hS h => q4 S r hS (fun J hJ => m_Jgo hJ hS q3 hno h)⟩
end XS2
