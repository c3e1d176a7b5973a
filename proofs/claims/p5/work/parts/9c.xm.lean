/-! ===== the reference reads a LINE ===== -/
theorem t_go_all {G : Int → Bool} {b : Nat → Int} {n : Int} : ∀ (f : Nat) (x : Int), 0 ≤ x → ∀ j : Nat, (j : Int) < t_go G b n f x - x → G (b (x.toNat + j)) = true
  | 0, x, _, j, h => by unfold t_go at h; omega
  | f + 1, x, h0, j, h => by
    unfold t_go at h
    split at h
    next hc =>
      cases j with
      | zero => exact hc.2
      | succ j =>
        have := t_go_all (G := G) (b := b) (n := n) f (x + 1) (by omega) j (by omega)
        rw [show (x + 1).toNat + j = x.toNat + (j + 1) by omega] at this
        exact this
    next => omega
theorem t_tok_num {b : Nat → Int} {n most pos : Int} (h0 : 0 ≤ pos) (h1 : pos ≤ n) (h : (t_tok b n most pos).1 = 4) : 0 ≤ (t_tok b n most pos).2.2.2 := by
  have hs := t_skip_le (b := b) h1
  unfold t_tok at h ⊢
  split at h
  next hc =>
    split at h
    · exact absurd (show (1 : Int) = 4 from h) (by decide)
    · exact absurd (show (0 : Int) = 4 from h) (by decide)
  next hc =>
    rw [if_neg hc]
    split at h
    next hc2 =>
      split at h
      · exact absurd (show (5 : Int) = 4 from h) (by decide)
      · exact absurd (show (1 : Int) = 4 from h) (by decide)
    next hc2 =>
      rw [if_neg hc2]
      split at h
      next hc3 => exact absurd (show (2 : Int) = 4 from h) (by decide)
      next hc3 =>
        rw [if_neg hc3]
        split at h
        next hc4 =>
          rw [if_pos hc4]
          exact (t_val_b _ hc4.1 (fun j hj => of_decide_eq_true (t_go_all (G := t_isan) (b := b) (n := n) (n - t_skip b n pos).toNat (t_skip b n pos) (by omega) j (by have : t_end b n (t_skip b n pos) = t_go t_isan b n (n - t_skip b n pos).toNat (t_skip b n pos) := rfl; omega)))).1
        next => exact absurd (show (1 : Int) = 4 from h) (by decide)
/-- a list is longer by one -/
theorem r_st_s {σ : pS} {I L : xF} {s z : Int} (h : r_st σ I L) (h1 : L 214 (22 + σ.1.length) = t_cv s) (h2 : x_gw s) (h3 : σ.1.length < 8) (hz : z = σ.1.length + 1) : r_st (σ.1 ++ [s], σ.2) (x_u I 212 0 z) L := by
  obtain ⟨g1, g2, g3, g4, g5, g6⟩ := h
  refine ⟨⟨(show z = ((σ.1 ++ [s]).length : Int) by rw [List.length_append]; simp; omega), g1.2⟩, ⟨(show (σ.1 ++ [s]).length ≤ 8 by rw [List.length_append]; simp; omega), g2.2⟩, ⟨r_nm_add g3.1 h1 h2, g3.2⟩, fun i hi => ?_, g5, fun j hj => ?_, p_own_eq g6.2 (fun c _ => x_u_k (show 22 + c ≠ 0 by omega))⟩
  · rw [x_u_k (by omega)]; exact g4 i hi
  · rw [x_u_k (by omega)]; exact g6.1 j hj
theorem r_st_m {σ : pS} {I L : xF} {s z : Int} (h : r_st σ I L) (h1 : L 214 (30 + σ.2.1.length) = t_cv s) (h2 : x_gw s) (h3 : σ.2.1.length < 6) (hz : z = σ.2.1.length + 1) : r_st (σ.1, σ.2.1 ++ [s], σ.2.2) (x_u I 212 1 z) L := by
  obtain ⟨g1, g2, g3, g4, g5, g6⟩ := h
  refine ⟨⟨g1.1, (show z = ((σ.2.1 ++ [s]).length : Int) by rw [List.length_append]; simp; omega), g1.2.2⟩, ⟨g2.1, (show (σ.2.1 ++ [s]).length ≤ 6 by rw [List.length_append]; simp; omega), g2.2.2⟩, ⟨g3.1, r_nm_add g3.2.1 h1 h2, g3.2.2⟩, fun i hi => ?_, g5, fun j hj => ?_, p_own_eq (p_own_app g6.2 s) (fun c _ => x_u_k (show 22 + c ≠ 1 by omega))⟩
  · rw [x_u_k (by omega)]; exact g4 i hi
  · rw [x_u_k (by omega)]; exact g6.1 j hj
theorem r_st_c {σ : pS} {I L : xF} {s z w : Int} (h : r_st σ I L) (h1 : L 214 (36 + σ.2.2.1.length) = t_cv s) (h2 : x_gw s) (h3 : σ.2.2.1.length < 8) (hz : z = σ.2.2.1.length + 1) (hown : p_own σ.2.1 (σ.2.2.1 ++ [s]).length (p_ow σ w) (fun c => x_u I 212 2 z 212 (22 + c))) : r_st (σ.1, σ.2.1, σ.2.2.1 ++ [s], σ.2.2.2.1, σ.2.2.2.2.1, p_ow σ w) (x_u I 212 2 z) L := by
  obtain ⟨g1, g2, g3, g4, g5, g6⟩ := h
  refine ⟨⟨g1.1, g1.2.1, (show z = ((σ.2.2.1 ++ [s]).length : Int) by rw [List.length_append]; simp; omega), g1.2.2.2⟩, ⟨g2.1, g2.2.1, (show (σ.2.2.1 ++ [s]).length ≤ 8 by rw [List.length_append]; simp; omega), g2.2.2.2⟩, ⟨g3.1, g3.2.1, r_nm_add g3.2.2 h1 h2⟩, fun i hi => ?_, g5, fun j hj => ?_, hown⟩
  · rw [x_u_k (by omega)]; exact g4 i hi
  · rw [x_u_k (by omega)]; exact (g6.1 j hj).trans (p_ow_4 σ w hj).symm
/-- a word is written beyond all names that count -/
theorem r_all_w {b : Nat → Int} {n q : Int} {σ : pS} {T : pT} {I L : xF} {to : Nat} {w : Int} (h : r_all b n q σ T I L) (h1 : to < 22 ∨ 22 + σ.1.length ≤ to) (h2 : to < 30 ∨ 30 + σ.2.1.length ≤ to) (h3 : to < 36 ∨ 36 + σ.2.2.1.length ≤ to) : r_all b n q σ T I (x_u L 214 to w) := by
  obtain ⟨a1, a2, a3, a4, a5, a6, a7, a8, a9⟩ := h
  exact ⟨a1, a2, a3, a4, a5, ⟨r_nm_u a6.1 h1, r_nm_u a6.2.1 h2, r_nm_u a6.2.2 h3⟩, a7, a8, a9⟩
section XN3
variable {EX : (Nat → Prop) → State → Heap → Prop} {l : Launch} {kc : Nat → ClassId} {D : va_G} {xb : Nat} {ad : Nat → Option Nat}
def ct_ln0 : List (Nat × Nat × xPre × xPost) := [(176, 0, xr_bad, xo_bad), (175, 1, xr_next, xo_next), (182, 3, xr_pt, xo_pt), (177, 0, xr_mw, xo_mw), (184, 2, xr_fr, xo_fr), (186, 3, xr_tN, xo_tN), (187, 4, xr_on, xo_on)]
theorem ct_ln0_ok (hE : z_EX EX) : x_ctok EX l zTB zNT kc D vwCl xb yTY ad yP0 (x_ctl ct_ln0) := x_ctl_cons (xk_bad hE) (x_ctl_cons (xk_next hE) (x_ctl_cons (xk_pt hE) (x_ctl_cons (xk_mw hE) (x_ctl_cons (xk_fr hE) (x_ctl_cons (xk_tN hE) (x_ctl_cons (xk_on hE) x_ctl_nil))))))
def x_rcI (za : List xV) (I L : xF) (n pc : Nat) (lv : List (Nat × xV)) (sv : List xV) (I' L' : xF) : Prop := sv = [] ∧ za = [xR 210] ∧ xo_next [xR 210] I L none I' L' ∧ I' 209 11 = 2 ∧ I' 209 14 < 400 ∧ (0 ≤ I 212 7 ∧ I 212 7 ≤ 7) ∧ ∃ i : Nat, (i : Int) ≤ I 212 7 ∧ (n : Int) = I 212 7 - i ∧ lv = [(0, xR 210), (1, .inl (I 212 7)), (2, .inl (i : Int))] ∧ ∀ j : Nat, j < i → I' 212 (46 + j) ≠ I' 209 14
set_option maxHeartbeats 4000000 in
theorem xk_rc (hE : z_EX EX) : x_Ok EX l zTB zNT kc D vwCl xb yTY ad yP0 189 4 r_pre (r_post p_cold) := by
  refine x_loop (M := ym_X12_readCold) hE y_prog 80 rfl (by decide) (ct_ln0_ok hE) (fun za I L ⟨h, _⟩ => by subst h; exact (by decide : 1 ≤ 3)) (x_cut1 56) x_rcI (fun za I L ⟨h, b0, n0, q0, σ0, T0, h0, hT0⟩ => ?_) (fun za I L ⟨_, b0, n0, q0, σ0, T0, h0, hT0⟩ n pc lv sv I' L' hc hi => ?_)
  · subst h
    refine And.intro (by decide) ?_
    intro c (hc : c = I 212 7) hs
    have bc : 0 ≤ c ∧ c ≤ 8 := hs _ rfl
    have hcnt : ∀ b n q σ T, r_all b n q σ T I L → c = σ.2.2.2.1.length := fun b n q σ T h => hc.trans h.2.2.2.1.2.2.2
    refine And.intro ?_ ?_
    · intro t1
      refine And.intro ⟨rfl, r_all_bh h0 hT0⟩ ?_
      intro rv I1 L1 hadv
      have h9 := hadv.1
      subst h9
      have H1 : ∀ b n q σ T, r_all b n q σ T I L → 2 ≤ T.1 → r_all b n q σ (t_tok b n 900 T.2.2.1) I1 L1 := fun b n q σ T h hT => r_all_next hT h hadv
      intro k (hk : k = I1 209 11) _
      refine And.intro ?_ ?_
      · intro t2 v (hv : v = I1 209 14) _
        refine And.intro ?_ ?_
        · intro t3
          subst hc
          exact ⟨(I 212 7).toNat, [(0, xR 210), (1, .inl (I 212 7)), (2, .inl ((0 : Nat) : Int))], ⟨rfl, rfl, rfl, trivial⟩, rfl, rfl, hadv, by omega, by omega, by omega, 0, by omega, by omega, rfl, fun j hj => absurd hj (Nat.not_lt_zero j)⟩
        · intro t3
          refine And.intro ⟨2, rfl, by decide, by decide⟩ ?_
          rintro rv I3 L3 ⟨f, hf, rfl, rfl, rfl⟩
          cases hf
          refine And.intro (by decide) ?_
          intro b n q σ T h hT
          have hcl := hcnt _ _ _ _ _ h
          have h1 := H1 _ _ _ _ _ h hT
          have hk2 : I1 209 11 = 2 := by omega
          unfold p_cold
          rw [if_neg (by omega), p_num_2 ((r_tok_num h1.2.1).1.mp hk2) (by rw [← (r_tok_num h1.2.1).2 hk2]; omega)]
          exact ⟨rfl, rfl, h1.2.1.1⟩
      · intro t2
        refine And.intro ⟨1, rfl, by decide, by decide⟩ ?_
        rintro rv I3 L3 ⟨f, hf, rfl, rfl, rfl⟩
        cases hf
        refine And.intro (by decide) ?_
        intro b n q σ T h hT
        have hcl := hcnt _ _ _ _ _ h
        have h1 := H1 _ _ _ _ _ h hT
        unfold p_cold
        rw [if_neg (by omega), p_num_1 (fun q => t2 (by rw [hk]; exact (r_tok_num h1.2.1).1.mpr q))]
        exact ⟨rfl, rfl, h1.2.1.1⟩
    · intro t1
      refine And.intro ⟨4, rfl, by decide, by decide⟩ ?_
      rintro rv I3 L3 ⟨f, hf, rfl, rfl, rfl⟩
      cases hf
      refine And.intro (by decide) ?_
      intro b n q σ T h hT
      have hcl := hcnt _ _ _ _ _ h
      unfold p_cold
      rw [if_pos (by omega)]
      exact ⟨rfl, rfl, h.2.1.1⟩
  · obtain rfl := x_cut1_ok hc
    obtain ⟨rfl, rfl, hadv, h11, h14, hc7, i, hi, hn, rfl, hno⟩ := hi
    have H1 : ∀ b n q σ T, r_all b n q σ T I L → 2 ≤ T.1 → r_all b n q σ (t_tok b n 900 T.2.2.1) I' L' := fun b n q σ T h hT => r_all_next hT h hadv
    have hcnt : ∀ b n q σ T, r_all b n q σ T I L → I 212 7 = σ.2.2.2.1.length := fun b n q σ T h => h.2.2.2.1.2.2.2
    have hv0 : ∀ b n q σ T, r_all b n q σ T I L → 2 ≤ T.1 → (t_tok b n 900 T.2.2.1).1 = 4 ∧ (t_tok b n 900 T.2.2.1).2.2.2 = I' 209 14 ∧ 0 ≤ I' 209 14 := fun b n q σ T h hT => by
      have h1 := H1 _ _ _ _ _ h hT
      have e1 := (r_tok_num h1.2.1).1.mp h11
      have e2 := (r_tok_num h1.2.1).2 h11
      have hp := h.2.2.1 hT
      have := t_tok_num (b := b) (most := 900) hp.1 hp.2 e1
      exact ⟨e1, e2.symm, by omega⟩
    refine And.intro ?_ ?_
    · intro t1
      have hin : i = (I 212 7).toNat := by omega
      refine Or.inl ⟨by omega, ?_⟩
      intro v (hv : v = I' 209 14) (bv : -2147483648 ≤ v ∧ v ≤ 2147483647)
      have hidx : (46 + I 212 7).toNat = 46 + (I 212 7).toNat := by omega
      refine And.intro (show 0 ≤ 46 + I 212 7 ∧ 46 + I 212 7 < 62 by omega) ?_
      refine And.intro (fun w hw => ?_) ?_
      · rw [hidx] at hw
        have h9 := (x_sgH8 ⟨(I 212 7).toNat, by omega⟩).2.2.2.2.1
        have hw : y_seg x_sgH (46 + (I 212 7).toNat) = some w := hw
        rw [h9] at hw
        cases hw
        exact bv
      rw [hidx]
      have hok : ∀ b n q σ T, r_all b n q σ T I L → 2 ≤ T.1 → p_cold b n σ T = p_num b n 0 40 (t_tok b n 900 (t_tok b n 900 T.2.2.1).2.2.1) (fun _ T3 => .inr ((σ.1, σ.2.1, σ.2.2.1, σ.2.2.2.1 ++ [v], σ.2.2.2.2), T3)) := fun b n q σ T h hT => by
        have hcl := hcnt _ _ _ _ _ h
        have h1 := H1 _ _ _ _ _ h hT
        obtain ⟨e1, e2, e3⟩ := hv0 _ _ _ _ _ h hT
        unfold p_cold
        rw [if_neg (by omega), p_num_k e1 (by omega), if_neg (fun q => ?_), e2, ← hv]
        rw [e2] at q
        obtain ⟨j, hj⟩ := List.getElem?_of_mem q
        have hl := (List.getElem?_eq_some_iff.mp hj).1
        rw [h1.2.2.2.2.2.2.1 j hl] at hj
        exact hno j (by omega) (Option.some.inj hj)
      have H2 : ∀ b n q σ T, r_all b n q σ T I L → 2 ≤ T.1 → r_all b n q σ (t_tok b n 900 T.2.2.1) (x_u I' 212 (46 + (I 212 7).toNat) v) L' := fun b n q σ T h hT => r_all_h (H1 _ _ _ _ _ h hT) (by omega) (Or.inr (by have := hcnt _ _ _ _ _ h; omega)) (Or.inr (by have := (H1 _ _ _ _ _ h hT).2.2.2.2.1; omega))
      have G2 := H2 _ _ _ _ _ h0 hT0
      refine And.intro ⟨rfl, r_all_bh G2 (by have := (hv0 _ _ _ _ _ h0 hT0).1; omega)⟩ ?_
      intro rv I2 L2 hadv2
      have h9 := hadv2.1
      subst h9
      have H3 : ∀ b n q σ T, r_all b n q σ T I L → 2 ≤ T.1 → r_all b n q σ (t_tok b n 900 (t_tok b n 900 T.2.2.1).2.2.1) I2 L2 := fun b n q σ T h hT => r_all_next (by have := (hv0 _ _ _ _ _ h hT).1; omega) (H2 _ _ _ _ _ h hT) hadv2
      have G3 := H3 _ _ _ _ _ h0 hT0
      have e7 : I2 212 7 = I 212 7 := by
        rw [hadv2.2.1 212 7 rfl, x_u_k (by omega), hadv.2.1 212 7 rfl]
      have e46 : I2 212 (46 + (I 212 7).toNat) = v := by
        rw [hadv2.2.1 212 _ rfl, x_u_s]
      refine Or.inl ⟨by omega, ?_⟩
      have hidx2 : (54 + I 212 7).toNat = 54 + (I 212 7).toNat := by omega
      refine And.intro ⟨54 + I 212 7, 0, 40, rfl, by decide, by decide, fun hk => r_all_bh G3 (by have := (r_tok_num G3.2.1).1.mp hk; omega), by omega, fun w hw => ?_⟩ ?_
      · rw [hidx2, (x_sgH8 ⟨(I 212 7).toNat, by omega⟩).2.2.2.2.2] at hw
        cases hw
        decide
      rintro rv I3 L3 ⟨to', lo', hi', hlh, ⟨m1, rfl, g1, g2⟩ | ⟨m1, m2, rfl, g1, g2⟩ | ⟨m1, m2, m3, rfl, I4, hadv3, rfl⟩⟩
      · cases hlh
        subst g1
        subst g2
        refine And.intro (fun q => absurd rfl q) (fun _ => ?_)
        refine And.intro (by decide) ?_
        intro b n q σ T h hT
        have h3 := H3 _ _ _ _ _ h hT
        rw [hok b n q σ T h hT, p_num_1 (fun q => m1 ((r_tok_num h3.2.1).1.mpr q))]
        exact ⟨rfl, rfl, h3.2.1.1⟩
      · cases hlh
        subst g1
        subst g2
        refine And.intro (fun q => absurd rfl q) (fun _ => ?_)
        refine And.intro (by decide) ?_
        intro b n q σ T h hT
        have h3 := H3 _ _ _ _ _ h hT
        rw [hok b n q σ T h hT, p_num_2 ((r_tok_num h3.2.1).1.mp m1) (by rw [← (r_tok_num h3.2.1).2 m1]; exact m2)]
        exact ⟨rfl, rfl, h3.2.1.1⟩
      · cases hlh
        rw [hidx2]
        have e47 : I4 212 7 = I 212 7 := (hadv3.2.1 212 7 rfl).trans e7
        have e446 : I4 212 (46 + (I 212 7).toNat) = v := (hadv3.2.1 212 _ rfl).trans e46
        refine And.intro (fun _ => ?_) (fun q => absurd q (by decide))
        refine And.intro (by decide) ?_
        intro z (hz : z = x_u I4 212 (54 + (I 212 7).toNat) (I2 209 14) 212 7) _
        have hz7 : z = I 212 7 := by rw [hz, x_u_k (by omega)]; exact e47
        refine Or.inl ⟨by omega, ?_⟩
        refine And.intro (by decide) ?_
        refine And.intro (fun w hw => ?_) ?_
        · have hw : y_seg x_sgH 7 = some w := hw
          cases hw
          exact (show 0 ≤ z + 1 ∧ z + 1 ≤ 8 by omega)
        refine And.intro (by decide) ?_
        intro b n q σ T h hT
        have hcl := hcnt _ _ _ _ _ h
        have h3 := H3 _ _ _ _ _ h hT
        have e14 := (r_tok_num h3.2.1).2 m1
        have h4 := r_all_next (I := x_u I2 209 18 (I2 209 14)) (by have := (r_tok_num h3.2.1).1.mp m1; omega) h3 hadv3
        have h5 := r_all_h (idx := 54 + (I 212 7).toNat) (z := I2 209 14) h4 (by omega) (Or.inr (by omega)) (Or.inr (by have := h4.2.2.2.2.1; omega))
        rw [hok b n q σ T h hT, p_num_k ((r_tok_num h3.2.1).1.mp m1) (by omega)]
        obtain ⟨a1, a2, a3, a4, a5, a6, a7, a8, a9⟩ := h5
        refine ⟨rfl, a1, a2, a3, ?_, ?_, a6, fun i hi => ?_, a8, fun j hj => ?_, p_own_eq a9.2 (fun c _ => x_u_k (show 22 + c ≠ 7 by omega))⟩
        · exact ⟨a4.1, a4.2.1, a4.2.2.1, (show z + 1 = ((σ.2.2.2.1 ++ [v]).length : Int) by rw [List.length_append]; simp; omega)⟩
        · exact ⟨a5.1, a5.2.1, a5.2.2.1, (show (σ.2.2.2.1 ++ [v]).length ≤ 8 by rw [List.length_append]; simp; omega)⟩
        · have hi : i < (σ.2.2.2.1 ++ [v]).length := hi
          rw [List.length_append] at hi
          show (σ.2.2.2.1 ++ [v])[i]? = some (x_u (x_u I4 212 (54 + (I 212 7).toNat) (I2 209 14)) 212 7 (z + 1) 212 (46 + i))
          rw [x_u_k (by omega)]
          rcases Nat.lt_or_ge i σ.2.2.2.1.length with g | g
          · rw [List.getElem?_append_left g]
            exact a7 i g
          · have : i = σ.2.2.2.1.length := by simp at hi; omega
            subst this
            rw [x_u_k (by omega), show 46 + σ.2.2.2.1.length = 46 + (I 212 7).toNat by omega, e446, List.getElem?_append_right (Nat.le_refl _)]
            simp
        · show x_u (x_u I4 212 (54 + (I 212 7).toNat) (I2 209 14)) 212 7 (z + 1) 212 (3 + j) = _
          rw [x_u_k (by omega)]
          exact a9.1 j hj
    · intro t1
      refine Or.inl ⟨by omega, ?_⟩
      have hti : (46 + (i : Int)).toNat = 46 + i := by omega
      refine And.intro (show 0 ≤ 46 + (i : Int) ∧ 46 + (i : Int) < 62 by omega) ?_
      intro z (hz : z = I' 212 (46 + (i : Int)).toNat) _ v (hv : v = I' 209 14) _
      rw [hti] at hz
      refine And.intro ?_ ?_
      · intro t2
        refine Or.inl ⟨by omega, (I 212 7 - (i + 1)).toNat, [(0, xR 210), (1, .inl (I 212 7)), (2, .inl ((i + 1 : Nat) : Int))], by omega, ⟨rfl, rfl, rfl, trivial⟩, rfl, rfl, hadv, h11, h14, hc7, i + 1, by omega, by omega, rfl, fun j hj => ?_⟩
        rcases Nat.lt_or_ge j i with g | g
        · exact hno j g
        · obtain rfl : j = i := by omega
          exact fun q => t2 (by omega)
      · intro t2
        refine And.intro ⟨3, rfl, by decide, by decide⟩ ?_
        rintro rv I3 L3 ⟨f, hf, rfl, rfl, rfl⟩
        cases hf
        refine And.intro (by decide) ?_
        intro b n q σ T h hT
        have hcl := hcnt _ _ _ _ _ h
        have h1 := H1 _ _ _ _ _ h hT
        obtain ⟨e1, e2, e3⟩ := hv0 _ _ _ _ _ h hT
        unfold p_cold
        rw [if_neg (by omega), p_num_k e1 (by omega), if_pos]
        · exact ⟨rfl, rfl, h1.2.1.1⟩
        · have := h1.2.2.2.2.2.2.1 i (by omega)
          rw [← hz, t2, hv, ← e2] at this
          exact List.mem_of_getElem? this
end XN3
