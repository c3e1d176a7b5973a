/-! ===== the class's reader: SEATS, MEN ===== -/
section XL
variable {EX : (Nat → Prop) → State → Heap → Prop} {l : Launch} {kc : Nat → ClassId} {D : va_G} {xb : Nat} {ad : Nat → Option Nat}
def ct_rd : List (Nat × Nat × xPre × xPost) := [(100, 1, xr_adv, xo_adv), (106, 0, xr_ref, xo_ref), (113, 2, xr_tw, xo_tw), (112, 2, xr_tm, xo_tm), (111, 2, xr_tn, xo_tn), (110, 2, xr_ts, xo_ts)]
theorem ct_rd_ok (hE : z_EX EX) : x_ctok EX l zTB zNT kc D vwCl xb yTY ad yP0 (x_ctl ct_rd) := x_ctl_cons (xk_adv hE) (x_ctl_cons (xk_ref hE) (x_ctl_cons (xk_tw hE) (x_ctl_cons (xk_tm hE) (x_ctl_cons (xk_tn hE) (x_ctl_cons (xk_ts hE) x_ctl_nil)))))

set_option maxHeartbeats 2000000 in
theorem xk_seat (hE : z_EX EX) : x_Ok EX l zTB zNT kc D vwCl xb yTY ad yP0 41 3 c_pre (c_post p_seat) := by
  refine x_meth (M := ym_X4_readSeat) hE y_prog 80 rfl (by decide) (ct_rd_ok hE) (fun za I L ⟨h, _⟩ => by subst h; exact (by decide : 1 ≤ 2)) (fun za I L ⟨h, b0, n0, q0, σ0, T0, h0, hT0⟩ => ?_)
  subst h
  have hcnt : ∀ b n q σ T, c_all b n q σ T I L → I 17 0 = σ.1.length := fun b n q σ T h => h.2.2.2.1.1
  intro s (hs : s = I 17 0) (bs : 0 ≤ s ∧ s ≤ 8)
  refine And.intro ?_ ?_
  · intro t1
    refine And.intro ⟨rfl, c_ah_bh h0 hT0⟩ ?_
    intro rv I1 L1 hadv
    have h9 := hadv.1
    subst h9
    have H1 : ∀ b n q σ T, c_all b n q σ T I L → 2 ≤ T.1 → c_all b n q σ (t_tok b n 900 T.2.2.1) I1 L1 := fun b n q σ T h hT => c_ah_adv hT h hadv
    have G1 := H1 _ _ _ _ _ h0 hT0
    intro s2 (hs2 : s2 = I1 17 0) (bs2 : 0 ≤ s2 ∧ s2 ≤ 8)
    have hs21 : s2 = s := by rw [hs2, hs]; exact hadv.2.1 17 0 rfl
    have hsz : I1 25 3 < 22 ∧ 0 ≤ I1 25 3 := by
      have e1 := G1.2.2.2.2.2.1.1
      have e2 := G1.2.2.2.2.1
      have e3 := hcnt _ _ _ _ _ h0
      omega
    refine And.intro ⟨0, s2, rfl, by decide, ⟨by omega, by omega⟩, hsz.1, fun hk => c_ah_bh G1 (by have := ((c_tok_name G1.2.1).1.mp hk).1; omega)⟩ ?_
    rintro rv I2 L2 ⟨t', q', ht', ⟨k1, rfl, g1, g2⟩ | ⟨k1, k2, rfl, g1, g2⟩ | ⟨k1, k0, k2, rfl, hadv2⟩⟩
    · cases ht'
      subst g1
      subst g2
      refine And.intro (fun q => absurd rfl q) (fun _ => ?_)
      refine And.intro (by decide) ?_
      intro b n q σ T h hT
      have hc := hcnt _ _ _ _ _ h
      have h1 := H1 _ _ _ _ _ h hT
      unfold p_seat
      rw [if_neg (by omega), p_new_1 (fun q => k1 ((c_tok_name h1.2.1).1.mpr q))]
      exact ⟨rfl, rfl, h1.2.1.1, by decide⟩
    · cases ht'
      subst g1
      subst g2
      refine And.intro (fun q => absurd rfl q) (fun _ => ?_)
      refine And.intro (by decide) ?_
      intro b n q σ T h hT
      have hc := hcnt _ _ _ _ _ h
      have h1 := H1 _ _ _ _ _ h hT
      have hn := (c_tok_name h1.2.1).1.mp k1
      rw [(c_tok_name h1.2.1).2 k1] at k2
      unfold p_seat
      rw [if_neg (by omega), p_new_3 hn ((c_nm_any h1.2.2.2.2.2.1 _).mp k2)]
      exact ⟨rfl, rfl, h1.2.1.1, by decide⟩
    · cases ht'
      have H2 : ∀ b n q σ T, c_all b n q σ T I L → 2 ≤ T.1 → c_ah (σ.1 ++ [(t_tok b n 900 T.2.2.1).2.2.2]) σ.2.1 σ.2.2.1 b n q σ (t_tok b n 900 (t_tok b n 900 T.2.2.1).2.2.1) I2 L2 := fun b n q σ T h hT => by
        have h1 := H1 _ _ _ _ _ h hT
        have hn := (c_tok_name h1.2.1).1.mp k1
        exact c_ah_adv (by omega) ((c_ah_add h1 k0 k1).1 rfl) hadv2
      have G2 := H2 _ _ _ _ _ h0 hT0
      have hfr2 : ∀ k, I2 17 k = I1 17 k := fun k => hadv2.2.1 17 k rfl
      refine And.intro (fun _ => ?_) (fun q => absurd q (by decide))
      refine And.intro ⟨1, 99, rfl, fun hk => c_ah_bh G2 (by have := (c_tok_num G2.2.1).1.mp hk; omega)⟩ ?_
      have hfail : ∀ f : Int, 1 ≤ f → (∀ b n q σ T, c_all b n q σ T I L → 2 ≤ T.1 → p_seat b n σ T = .inl ((t_tok b n 900 (t_tok b n 900 T.2.2.1).2.2.1).2.1, f)) → c_post p_seat [xR 17] I L (some (.inl 0)) (x_bad I2 f) L2 := fun f hf1 hf b n q σ T h hT => by
        rw [hf b n q σ T h hT]
        exact ⟨rfl, rfl, (H2 _ _ _ _ _ h hT).2.1.1, hf1⟩
      have hok : ∀ b n q σ T, c_all b n q σ T I L → 2 ≤ T.1 → p_seat b n σ T = p_num b n 1 99 (t_tok b n 900 (t_tok b n 900 T.2.2.1).2.2.1) (fun _ T3 => .inr ((σ.1 ++ [(t_tok b n 900 T.2.2.1).2.2.2], σ.2), T3)) := fun b n q σ T h hT => by
        have hc := hcnt _ _ _ _ _ h
        have h1 := H1 _ _ _ _ _ h hT
        have hn := (c_tok_name h1.2.1).1.mp k1
        unfold p_seat
        rw [if_neg (by omega), p_new_k hn (fun q => ?_)]
        rw [← c_nm_any h1.2.2.2.2.2.1, ← (c_tok_name h1.2.1).2 k1] at q
        obtain ⟨k, e1, e2⟩ := q
        exact k2 k e1 e2
      rintro rv I3 L3 ⟨lo', hi', hlh, ⟨m1, m2, m3, rfl, hadv3⟩ | ⟨m1, rfl, g1, g2⟩ | ⟨m1, m2, rfl, g1, g2⟩⟩
      · cases hlh
        have H3 : ∀ b n q σ T, c_all b n q σ T I L → 2 ≤ T.1 → c_ah (σ.1 ++ [(t_tok b n 900 T.2.2.1).2.2.2]) σ.2.1 σ.2.2.1 b n q σ (t_tok b n 900 (t_tok b n 900 (t_tok b n 900 T.2.2.1).2.2.1).2.2.1) I3 L3 := fun b n q σ T h hT => by
          have h2 := H2 _ _ _ _ _ h hT
          have := (c_tok_num h2.2.1).1.mp m1
          exact c_ah_adv (by omega) h2 hadv3
        refine And.intro (fun _ => ?_) (fun q => absurd q (by omega))
        intro s3 (hs3 : s3 = I3 17 0) (bs3 : 0 ≤ s3 ∧ s3 ≤ 8)
        have hs31 : s3 = s := by
          rw [hs3, hadv3.2.1 17 0 rfl, hfr2, ← hs2]
          exact hs21
        refine And.intro (show 0 ≤ s3 ∧ s3 < 8 by omega) ?_
        refine And.intro (fun w hw => ?_) ?_
        · rw [x_seg1 (by omega)] at hw
          cases hw
          exact (show 0 ≤ I2 1 7 ∧ I2 1 7 ≤ 99 by omega)
        intro s4 (hs4 : s4 = x_u I3 18 s3.toNat (I2 1 7) 17 0) _
        have hs41 : s4 = s := by
          rw [hs4, x_u_r (by decide), ← hs3]
          exact hs31
        refine Or.inl ⟨by omega, ?_⟩
        refine And.intro (show 0 ≤ s4 + 1 ∧ s4 + 1 ≤ 8 by omega) ?_
        refine And.intro (by decide) ?_
        intro b n q σ T h hT
        have hc := hcnt _ _ _ _ _ h
        have h2 := H2 _ _ _ _ _ h hT
        have h3 := H3 _ _ _ _ _ h hT
        have e7 := (c_tok_num h2.2.1).2 m1
        rw [hok b n q σ T h hT, p_num_k ((c_tok_num h2.2.1).1.mp m1) (by omega)]
        obtain ⟨a1, a2, a3, a4, a5, a6, a7, a8, a9⟩ := h3
        refine ⟨rfl, a1, a2, a3, ?_, ?_, a6, fun i hi => ?_, a8, fun j hj => (x_u_k (by omega)).trans ((x_u_r (by decide)).trans (a9.1 j hj)), fun c hc9 => a9.2 c hc9⟩
        · exact ⟨(show s4 + 1 = ((σ.1 ++ [(t_tok b n 900 T.2.2.1).2.2.2]).length : Int) by rw [List.length_append]; simp; omega), a4.2.1, a4.2.2.1, a4.2.2.2⟩
        · exact ⟨(show (σ.1 ++ [_]).length ≤ 8 by rw [List.length_append]; simp; omega), a5.2.1, a5.2.2.1, a5.2.2.2⟩
        · have := a7 i hi
          rw [this]
          rfl
      · cases hlh
        subst g1
        subst g2
        refine And.intro (fun q => absurd rfl q) (fun _ => ?_)
        refine And.intro (by decide) ?_
        exact hfail 1 (by decide) (fun b n q σ T h hT => by rw [hok b n q σ T h hT, p_num_1 (fun q => m1 ((c_tok_num (H2 _ _ _ _ _ h hT).2.1).1.mpr q))])
      · cases hlh
        subst g1
        subst g2
        refine And.intro (fun q => absurd rfl q) (fun _ => ?_)
        refine And.intro (by decide) ?_
        exact hfail 2 (by decide) (fun b n q σ T h hT => by
          have h2 := H2 _ _ _ _ _ h hT
          rw [hok b n q σ T h hT, p_num_2 ((c_tok_num h2.2.1).1.mp m1) (by rw [← (c_tok_num h2.2.1).2 m1]; exact m2)])
  · intro t1
    refine And.intro ⟨4, rfl, by decide, by decide⟩ ?_
    rintro rv I3 L3 ⟨f, hf, rfl, rfl, rfl⟩
    cases hf
    refine And.intro (by decide) ?_
    intro b n q σ T h hT
    have hc := hcnt _ _ _ _ _ h
    unfold p_seat
    rw [if_pos (by omega)]
    exact ⟨rfl, rfl, h.2.1.1, by decide⟩

set_option maxHeartbeats 2000000 in
theorem xk_man (hE : z_EX EX) : x_Ok EX l zTB zNT kc D vwCl xb yTY ad yP0 42 3 c_pre (c_post p_man) := by
  refine x_meth (M := ym_X4_readMan) hE y_prog 80 rfl (by decide) (ct_rd_ok hE) (fun za I L ⟨h, _⟩ => by subst h; exact (by decide : 1 ≤ 2)) (fun za I L ⟨h, b0, n0, q0, σ0, T0, h0, hT0⟩ => ?_)
  subst h
  have hcnt : ∀ b n q σ T, c_all b n q σ T I L → I 17 1 = σ.2.1.length := fun b n q σ T h => h.2.2.2.1.2.1
  intro s (hs : s = I 17 1) (bs : 0 ≤ s ∧ s ≤ 6)
  refine And.intro ?_ ?_
  · intro t1
    refine And.intro ⟨rfl, c_ah_bh h0 hT0⟩ ?_
    intro rv I1 L1 hadv
    have h9 := hadv.1
    subst h9
    have H1 : ∀ b n q σ T, c_all b n q σ T I L → 2 ≤ T.1 → c_all b n q σ (t_tok b n 900 T.2.2.1) I1 L1 := fun b n q σ T h hT => c_ah_adv hT h hadv
    have G1 := H1 _ _ _ _ _ h0 hT0
    intro s2 (hs2 : s2 = I1 17 1) (bs2 : 0 ≤ s2 ∧ s2 ≤ 6)
    have hs21 : s2 = s := by rw [hs2, hs]; exact hadv.2.1 17 1 rfl
    have hsz : I1 25 3 < 22 ∧ 0 ≤ I1 25 3 := by
      have e1 := G1.2.2.2.2.2.1.1
      have e2 := G1.2.2.2.2.1
      have e3 := hcnt _ _ _ _ _ h0
      omega
    refine And.intro ⟨1, s2, rfl, by decide, ⟨by omega, by omega⟩, hsz.1, fun hk => c_ah_bh G1 (by have := ((c_tok_name G1.2.1).1.mp hk).1; omega)⟩ ?_
    rintro rv I2 L2 ⟨t', q', ht', ⟨k1, rfl, g1, g2⟩ | ⟨k1, k2, rfl, g1, g2⟩ | ⟨k1, k0, k2, rfl, hadv2⟩⟩
    · cases ht'
      subst g1
      subst g2
      refine And.intro (fun q => absurd rfl q) (fun _ => ?_)
      refine And.intro (by decide) ?_
      intro b n q σ T h hT
      have hc := hcnt _ _ _ _ _ h
      have h1 := H1 _ _ _ _ _ h hT
      unfold p_man
      rw [if_neg (by omega), p_new_1 (fun q => k1 ((c_tok_name h1.2.1).1.mpr q))]
      exact ⟨rfl, rfl, h1.2.1.1, by decide⟩
    · cases ht'
      subst g1
      subst g2
      refine And.intro (fun q => absurd rfl q) (fun _ => ?_)
      refine And.intro (by decide) ?_
      intro b n q σ T h hT
      have hc := hcnt _ _ _ _ _ h
      have h1 := H1 _ _ _ _ _ h hT
      have hn := (c_tok_name h1.2.1).1.mp k1
      rw [(c_tok_name h1.2.1).2 k1] at k2
      unfold p_man
      rw [if_neg (by omega), p_new_3 hn ((c_nm_any h1.2.2.2.2.2.1 _).mp k2)]
      exact ⟨rfl, rfl, h1.2.1.1, by decide⟩
    · cases ht'
      have H2 : ∀ b n q σ T, c_all b n q σ T I L → 2 ≤ T.1 → c_ah σ.1 (σ.2.1 ++ [(t_tok b n 900 T.2.2.1).2.2.2]) σ.2.2.1 b n q σ (t_tok b n 900 (t_tok b n 900 T.2.2.1).2.2.1) I2 L2 := fun b n q σ T h hT => by
        have h1 := H1 _ _ _ _ _ h hT
        have hn := (c_tok_name h1.2.1).1.mp k1
        exact c_ah_adv (by omega) ((c_ah_add h1 k0 k1).2.1 rfl (by have := hcnt _ _ _ _ _ h; omega) (by omega)) hadv2
      have G2 := H2 _ _ _ _ _ h0 hT0
      have hfr2 : ∀ k, I2 17 k = I1 17 k := fun k => hadv2.2.1 17 k rfl
      refine And.intro (fun _ => ?_) (fun q => absurd q (by decide))
      refine And.intro ⟨0, 20, rfl, fun hk => c_ah_bh G2 (by have := (c_tok_num G2.2.1).1.mp hk; omega)⟩ ?_
      have hfail : ∀ f : Int, 1 ≤ f → (∀ b n q σ T, c_all b n q σ T I L → 2 ≤ T.1 → p_man b n σ T = .inl ((t_tok b n 900 (t_tok b n 900 T.2.2.1).2.2.1).2.1, f)) → c_post p_man [xR 17] I L (some (.inl 0)) (x_bad I2 f) L2 := fun f hf1 hf b n q σ T h hT => by
        rw [hf b n q σ T h hT]
        exact ⟨rfl, rfl, (H2 _ _ _ _ _ h hT).2.1.1, hf1⟩
      have hok : ∀ b n q σ T, c_all b n q σ T I L → 2 ≤ T.1 → p_man b n σ T = p_num b n 0 20 (t_tok b n 900 (t_tok b n 900 T.2.2.1).2.2.1) (fun _ T3 => .inr ((σ.1, σ.2.1 ++ [(t_tok b n 900 T.2.2.1).2.2.2], σ.2.2), T3)) := fun b n q σ T h hT => by
        have hc := hcnt _ _ _ _ _ h
        have h1 := H1 _ _ _ _ _ h hT
        have hn := (c_tok_name h1.2.1).1.mp k1
        unfold p_man
        rw [if_neg (by omega), p_new_k hn (fun q => ?_)]
        rw [← c_nm_any h1.2.2.2.2.2.1, ← (c_tok_name h1.2.1).2 k1] at q
        obtain ⟨k, e1, e2⟩ := q
        exact k2 k e1 e2
      rintro rv I3 L3 ⟨lo', hi', hlh, ⟨m1, m2, m3, rfl, hadv3⟩ | ⟨m1, rfl, g1, g2⟩ | ⟨m1, m2, rfl, g1, g2⟩⟩
      · cases hlh
        have H3 : ∀ b n q σ T, c_all b n q σ T I L → 2 ≤ T.1 → c_ah σ.1 (σ.2.1 ++ [(t_tok b n 900 T.2.2.1).2.2.2]) σ.2.2.1 b n q σ (t_tok b n 900 (t_tok b n 900 (t_tok b n 900 T.2.2.1).2.2.1).2.2.1) I3 L3 := fun b n q σ T h hT => by
          have h2 := H2 _ _ _ _ _ h hT
          have := (c_tok_num h2.2.1).1.mp m1
          exact c_ah_adv (by omega) h2 hadv3
        refine And.intro (fun _ => ?_) (fun q => absurd q (by omega))
        intro s3 (hs3 : s3 = I3 17 1) (bs3 : 0 ≤ s3 ∧ s3 ≤ 6)
        have hs31 : s3 = s := by
          rw [hs3, hadv3.2.1 17 1 rfl, hfr2, ← hs2]
          exact hs21
        refine And.intro (show 0 ≤ s3 ∧ s3 < 6 by omega) ?_
        refine And.intro (fun w hw => ?_) ?_
        · rw [x_seg1 (by omega)] at hw
          cases hw
          exact (show 0 ≤ I2 1 7 ∧ I2 1 7 ≤ 20 by omega)
        intro s4 (hs4 : s4 = x_u I3 19 s3.toNat (I2 1 7) 17 1) _
        have hs41 : s4 = s := by
          rw [hs4, x_u_r (by decide), ← hs3]
          exact hs31
        refine Or.inl ⟨by omega, ?_⟩
        refine And.intro (show 0 ≤ s4 + 1 ∧ s4 + 1 ≤ 6 by omega) ?_
        refine And.intro (by decide) ?_
        intro b n q σ T h hT
        have hc := hcnt _ _ _ _ _ h
        have h2 := H2 _ _ _ _ _ h hT
        have h3 := H3 _ _ _ _ _ h hT
        have e7 := (c_tok_num h2.2.1).2 m1
        rw [hok b n q σ T h hT, p_num_k ((c_tok_num h2.2.1).1.mp m1) (by omega)]
        obtain ⟨a1, a2, a3, a4, a5, a6, a7, a8, a9⟩ := h3
        refine ⟨rfl, a1, a2, a3, ?_, ?_, a6, fun i hi => ?_, a8, fun j hj => (x_u_k (by omega)).trans ((x_u_r (by decide)).trans (a9.1 j hj)), fun c hc9 => p_own_app a9.2 _ c hc9⟩
        · exact ⟨a4.1, (show s4 + 1 = ((σ.2.1 ++ [(t_tok b n 900 T.2.2.1).2.2.2]).length : Int) by rw [List.length_append]; simp; omega), a4.2.2.1, a4.2.2.2⟩
        · exact ⟨a5.1, (show (σ.2.1 ++ [_]).length ≤ 6 by rw [List.length_append]; simp; omega), a5.2.2.1, a5.2.2.2⟩
        · have := a7 i hi
          rw [this]
          rfl
      · cases hlh
        subst g1
        subst g2
        refine And.intro (fun q => absurd rfl q) (fun _ => ?_)
        refine And.intro (by decide) ?_
        exact hfail 1 (by decide) (fun b n q σ T h hT => by rw [hok b n q σ T h hT, p_num_1 (fun q => m1 ((c_tok_num (H2 _ _ _ _ _ h hT).2.1).1.mpr q))])
      · cases hlh
        subst g1
        subst g2
        refine And.intro (fun q => absurd rfl q) (fun _ => ?_)
        refine And.intro (by decide) ?_
        exact hfail 2 (by decide) (fun b n q σ T h hT => by
          have h2 := H2 _ _ _ _ _ h hT
          rw [hok b n q σ T h hT, p_num_2 ((c_tok_num h2.2.1).1.mp m1) (by rw [← (c_tok_num h2.2.1).2 m1]; exact m2)])
  · intro t1
    refine And.intro ⟨4, rfl, by decide, by decide⟩ ?_
    rintro rv I3 L3 ⟨f, hf, rfl, rfl, rfl⟩
    cases hf
    refine And.intro (by decide) ?_
    intro b n q σ T h hT
    have hc := hcnt _ _ _ _ _ h
    unfold p_man
    rw [if_pos (by omega)]
    exact ⟨rfl, rfl, h.2.1.1, by decide⟩
end XL
