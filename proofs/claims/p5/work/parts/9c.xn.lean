/-! ===== the reference reads a LINE: which ===== -/
theorem x_gw8 : ∀ s ∈ x_W8, x_gw s := fun s hs => x_W32_gw s (x_W8_in s hs)
section XN4
variable {EX : (Nat → Prop) → State → Heap → Prop} {l : Launch} {kc : Nat → ClassId} {D : va_G} {xb : Nat} {ad : Nat → Option Nat}
def r_pre0 : xPre := fun za I L => za = [xR 210] ∧ ∃ b n q σ T, r_all b n q σ T I L
def r_post0 (f : (Nat → Int) → Int → pS → pT → pR) : xPost := fun _ I L rv I' L' => ∀ b n q σ T, r_all b n q σ T I L → r_out b n q (f b n σ T) rv I' L'
def ct_ln : List (Nat × Nat × xPre × xPost) := (189, 4, r_pre, r_post p_cold) :: ct_ln0
theorem ct_ln_ok (hE : z_EX EX) : x_ctok EX l zTB zNT kc D vwCl xb yTY ad yP0 (x_ctl ct_ln) := x_ctl_cons (xk_rc hE) (ct_ln0_ok hE)
set_option maxHeartbeats 8000000 in
theorem xk_ln (hE : z_EX EX) : x_Ok EX l zTB zNT kc D vwCl xb yTY ad yP0 188 5 r_pre0 (r_post0 p_line) := by
  refine x_meth (M := ym_X12_line) hE y_prog 160 rfl (by decide) (ct_ln_ok hE) (fun za I0 L0 ⟨h, _⟩ => by subst h; exact (by decide : 1 ≤ 2)) (fun za I0 L0 ⟨h, b0, n0, q0, σ0, T0, h0⟩ => ?_)
  subst h
  refine ⟨_, 1936023924, zw_1367, by decide +kernel, ?_⟩
  refine And.intro ⟨_, rfl⟩ ?_
  rintro rv I1 L1 ⟨g1, g2, w, hx, ⟨e1, e2, rfl⟩ | ⟨f0, rfl⟩⟩
  · subst g1
    subst g2
    cases hx
    refine And.intro (fun q => absurd q (by decide)) (fun _ => ?_)
    have hval : ∀ b n q σ T, r_all b n q σ T I1 L1 → T.1 = 2 ∧ T.2.2.2 = 627764 := fun b n q σ T h => (r_tok_w h.2.1 (x_gw8 _ (by decide)) (by decide +kernel)).mp ⟨e1, e2⟩
    have hline : ∀ b n q σ T, r_all b n q σ T I1 L1 → p_line b n σ T = p_seat b n σ T := fun b n q σ T h => by
      obtain ⟨v1, v2⟩ := hval _ _ _ _ _ h
      unfold p_line
      rw [if_neg (by omega), if_pos (by omega)]
    refine And.intro (by decide) ?_
    intro c (hc : c = I1 212 0) hs
    have bc : 0 ≤ c ∧ c ≤ 8 := hs _ rfl
    have hcnt : ∀ b n q σ T, r_all b n q σ T I1 L1 → c = σ.1.length := fun b n q σ T h => hc.trans h.2.2.2.1.1
    refine And.intro ?_ ?_
    · intro t1
      refine And.intro ⟨rfl, r_all_bh h0 (by have := (hval _ _ _ _ _ h0).1; omega)⟩ ?_
      intro rv J1 K1 hadv
      have h9 := hadv.1
      subst h9
      have H1 : ∀ b n q σ T, r_all b n q σ T I1 L1 → r_all b n q σ (t_tok b n 900 T.2.2.1) J1 K1 := fun b n q σ T h => r_all_next (by have := (hval _ _ _ _ _ h).1; omega) h hadv
      have G1 := H1 _ _ _ _ _ h0
      refine Or.inl ⟨by omega, ?_⟩
      have hto : (22 + c).toNat = 22 + c.toNat := by omega
      refine And.intro ⟨22 + c, rfl, by omega, fun hk => r_all_bh G1 (by have := ((r_tok_isn G1.2.1).mp hk).1; omega)⟩ ?_
      rintro rv J2 K2 ⟨to', hx, ⟨k1, rfl, g1, g2⟩ | ⟨k1, k2, rfl, g1, g2⟩ | ⟨k1, k2, rfl, hadv2⟩⟩
      · cases hx
        subst g1
        subst g2
        refine And.intro (fun _ => ?_) (fun q => absurd rfl q)
        refine And.intro (by decide) ?_
        intro b n q σ T h
        have hcl := hcnt _ _ _ _ _ h
        have h1 := H1 _ _ _ _ _ h
        rw [hline _ _ _ _ _ h]
        unfold p_seat
        rw [if_neg (by omega), p_new_1 (fun q => k1 ((r_tok_isn h1.2.1).mpr q))]
        exact ⟨rfl, rfl, h1.2.1.1⟩
      · cases hx
        subst g1
        subst g2
        refine And.intro (fun _ => ?_) (fun q => absurd rfl q)
        refine And.intro (by decide) ?_
        intro b n q σ T h
        have hcl := hcnt _ _ _ _ _ h
        have h1 := H1 _ _ _ _ _ h
        have hn := (r_tok_isn h1.2.1).mp k1
        have hg := r_tok_cv h1.2.1 hn.1
        rw [hline _ _ _ _ _ h]
        unfold p_seat
        rw [if_neg (by omega), p_new_3 hn ((r_in_any h1.2.2.2 hg.1 hg.2).mp k2)]
        exact ⟨rfl, rfl, h1.2.1.1⟩
      · cases hx
        have H2 : ∀ b n q σ T, r_all b n q σ T I1 L1 → r_all b n q σ (t_tok b n 900 (t_tok b n 900 T.2.2.1).2.2.1) J2 K2 ∧ K2 214 (22 + c.toNat) = t_cv (t_tok b n 900 T.2.2.1).2.2.2 ∧ x_gw (t_tok b n 900 T.2.2.1).2.2.2 := fun b n q σ T h => by
          have hcl := hcnt _ _ _ _ _ h
          have h1 := H1 _ _ _ _ _ h
          have hn := (r_tok_isn h1.2.1).mp k1
          have hg := r_tok_cv h1.2.1 hn.1
          have hl := h1.2.2.2.2.1
          refine ⟨r_all_next (by omega) (r_all_w h1 (by omega) (by omega) (by omega)) hadv2, ?_, hg.1⟩
          rw [hadv2.2.2.1 214 _ rfl, hto, x_u_s]
          exact hg.2
        have G2 := (H2 _ _ _ _ _ h0).1
        have e2c : J2 212 0 = c := by rw [hadv2.2.1 212 0 rfl, hadv.2.1 212 0 rfl, ← hc]
        refine And.intro (fun q => absurd q (by decide)) (fun _ => ?_)
        have hok : ∀ b n q σ T, r_all b n q σ T I1 L1 → p_line b n σ T = p_num b n 1 99 (t_tok b n 900 (t_tok b n 900 T.2.2.1).2.2.1) (fun _ T3 => .inr ((σ.1 ++ [(t_tok b n 900 T.2.2.1).2.2.2], σ.2), T3)) := fun b n q σ T h => by
          have hcl := hcnt _ _ _ _ _ h
          have h1 := H1 _ _ _ _ _ h
          have hn := (r_tok_isn h1.2.1).mp k1
          have hg := r_tok_cv h1.2.1 hn.1
          rw [hline _ _ _ _ _ h]
          unfold p_seat
          rw [if_neg (by omega), p_new_k hn (fun q => k2 ((r_in_any h1.2.2.2 hg.1 hg.2).mpr q))]
        refine Or.inl ⟨by omega, ?_⟩
        have hto2 : (8 + c).toNat = 8 + c.toNat := by omega
        refine And.intro ⟨8 + c, 1, 99, rfl, by decide, by decide, fun hk => r_all_bh G2 (by have := (r_tok_num G2.2.1).1.mp hk; omega), by omega, fun w hw => ?_⟩ ?_
        · rw [hto2, (x_sgH8 ⟨c.toNat, by omega⟩).1] at hw
          cases hw
          decide
        rintro rv J3 K3 ⟨to', lo', hi', hlh, ⟨m1, rfl, g1, g2⟩ | ⟨m1, m2, rfl, g1, g2⟩ | ⟨m1, m2, m3, rfl, J4, hadv3, rfl⟩⟩
        · cases hlh
          subst g1
          subst g2
          refine And.intro (fun q => absurd rfl q) (fun _ => ?_)
          refine And.intro (by decide) ?_
          intro b n q σ T h
          have h2 := (H2 _ _ _ _ _ h).1
          rw [hok _ _ _ _ _ h, p_num_1 (fun q => m1 ((r_tok_num h2.2.1).1.mpr q))]
          exact ⟨rfl, rfl, h2.2.1.1⟩
        · cases hlh
          subst g1
          subst g2
          refine And.intro (fun q => absurd rfl q) (fun _ => ?_)
          refine And.intro (by decide) ?_
          intro b n q σ T h
          have h2 := (H2 _ _ _ _ _ h).1
          rw [hok _ _ _ _ _ h, p_num_2 ((r_tok_num h2.2.1).1.mp m1) (by rw [← (r_tok_num h2.2.1).2 m1]; exact m2)]
          exact ⟨rfl, rfl, h2.2.1.1⟩
        · cases hlh
          rw [hto2]
          refine And.intro (fun _ => ?_) (fun q => absurd q (by decide))
          refine And.intro (by decide) ?_
          intro z (hz : z = x_u J4 212 (8 + c.toNat) (J2 209 14) 212 0) _
          have hz7 : z = c := by rw [hz, x_u_k (by omega), hadv3.2.1 212 0 rfl]; exact e2c
          refine Or.inl ⟨by omega, ?_⟩
          refine And.intro (by decide) ?_
          refine And.intro (fun w hw => ?_) ?_
          · have hw : y_seg x_sgH 0 = some w := hw
            cases hw
            exact (show 0 ≤ z + 1 ∧ z + 1 ≤ 8 by omega)
          refine And.intro (by decide) ?_
          intro b n q σ T h
          have hcl := hcnt _ _ _ _ _ h
          obtain ⟨h2, hw2, hg2⟩ := H2 _ _ _ _ _ h
          have e14 := (r_tok_num h2.2.1).2 m1
          have h4 := r_all_next (I := x_u J2 209 18 (J2 209 14)) (by have := (r_tok_num h2.2.1).1.mp m1; omega) h2 hadv3
          have h5 := r_all_h (idx := 8 + c.toNat) (z := J2 209 14) h4 (by omega) (Or.inl (by omega)) (Or.inl (by omega))
          rw [hok _ _ _ _ _ h, p_num_k ((r_tok_num h2.2.1).1.mp m1) (by omega)]
          refine ⟨rfl, h5.1, h5.2.1, h5.2.2.1, r_st_s h5.2.2.2 ?_ hg2 (by omega) (by omega)⟩
          rw [show 22 + σ.1.length = 22 + c.toNat by omega, hadv3.2.2.1 214 _ rfl]
          exact hw2
    · intro t1
      refine And.intro ⟨4, rfl, by decide, by decide⟩ ?_
      rintro rv J3 K3 ⟨f, hf, rfl, rfl, rfl⟩
      cases hf
      refine And.intro (by decide) ?_
      intro b n q σ T h
      have hcl := hcnt _ _ _ _ _ h
      rw [hline _ _ _ _ _ h]
      unfold p_seat
      rw [if_pos (by omega)]
      exact ⟨rfl, rfl, h.2.1.1⟩
  · subst g1
    subst g2
    cases hx
    refine And.intro (fun _ => ?_) (fun q => absurd rfl q)
    refine ⟨_, 7168366, zw_1368, by decide +kernel, ?_⟩
    refine And.intro ⟨_, rfl⟩ ?_
    rintro rv I2 L2 ⟨g1, g2, w, hx, ⟨e1, e2, rfl⟩ | ⟨f1, rfl⟩⟩
    · subst g1
      subst g2
      cases hx
      refine And.intro (fun q => absurd q (by decide)) (fun _ => ?_)
      have hval : ∀ b n q σ T, r_all b n q σ T I2 L2 → T.1 = 2 ∧ T.2.2.2 = 13358 := fun b n q σ T h => (r_tok_w h.2.1 (x_gw8 _ (by decide)) (by decide +kernel)).mp ⟨e1, e2⟩
      have hline : ∀ b n q σ T, r_all b n q σ T I2 L2 → p_line b n σ T = p_man b n σ T := fun b n q σ T h => by
        obtain ⟨v1, v2⟩ := hval _ _ _ _ _ h
        unfold p_line
        rw [if_neg (by omega), if_neg (by omega), if_pos (by omega)]
      refine And.intro (by decide) ?_
      intro c (hc : c = I2 212 1) hs
      have bc : 0 ≤ c ∧ c ≤ 6 := hs _ rfl
      have hcnt : ∀ b n q σ T, r_all b n q σ T I2 L2 → c = σ.2.1.length := fun b n q σ T h => hc.trans h.2.2.2.1.2.1
      refine And.intro ?_ ?_
      · intro t1
        refine And.intro ⟨rfl, r_all_bh h0 (by have := (hval _ _ _ _ _ h0).1; omega)⟩ ?_
        intro rv J1 K1 hadv
        have h9 := hadv.1
        subst h9
        have H1 : ∀ b n q σ T, r_all b n q σ T I2 L2 → r_all b n q σ (t_tok b n 900 T.2.2.1) J1 K1 := fun b n q σ T h => r_all_next (by have := (hval _ _ _ _ _ h).1; omega) h hadv
        have G1 := H1 _ _ _ _ _ h0
        refine Or.inl ⟨by omega, ?_⟩
        have hto : (30 + c).toNat = 30 + c.toNat := by omega
        refine And.intro ⟨30 + c, rfl, by omega, fun hk => r_all_bh G1 (by have := ((r_tok_isn G1.2.1).mp hk).1; omega)⟩ ?_
        rintro rv J2 K2 ⟨to', hx, ⟨k1, rfl, g1, g2⟩ | ⟨k1, k2, rfl, g1, g2⟩ | ⟨k1, k2, rfl, hadv2⟩⟩
        · cases hx
          subst g1
          subst g2
          refine And.intro (fun _ => ?_) (fun q => absurd rfl q)
          refine And.intro (by decide) ?_
          intro b n q σ T h
          have hcl := hcnt _ _ _ _ _ h
          have h1 := H1 _ _ _ _ _ h
          rw [hline _ _ _ _ _ h]
          unfold p_man
          rw [if_neg (by omega), p_new_1 (fun q => k1 ((r_tok_isn h1.2.1).mpr q))]
          exact ⟨rfl, rfl, h1.2.1.1⟩
        · cases hx
          subst g1
          subst g2
          refine And.intro (fun _ => ?_) (fun q => absurd rfl q)
          refine And.intro (by decide) ?_
          intro b n q σ T h
          have hcl := hcnt _ _ _ _ _ h
          have h1 := H1 _ _ _ _ _ h
          have hn := (r_tok_isn h1.2.1).mp k1
          have hg := r_tok_cv h1.2.1 hn.1
          rw [hline _ _ _ _ _ h]
          unfold p_man
          rw [if_neg (by omega), p_new_3 hn ((r_in_any h1.2.2.2 hg.1 hg.2).mp k2)]
          exact ⟨rfl, rfl, h1.2.1.1⟩
        · cases hx
          have H2 : ∀ b n q σ T, r_all b n q σ T I2 L2 → r_all b n q σ (t_tok b n 900 (t_tok b n 900 T.2.2.1).2.2.1) J2 K2 ∧ K2 214 (30 + c.toNat) = t_cv (t_tok b n 900 T.2.2.1).2.2.2 ∧ x_gw (t_tok b n 900 T.2.2.1).2.2.2 := fun b n q σ T h => by
            have hcl := hcnt _ _ _ _ _ h
            have h1 := H1 _ _ _ _ _ h
            have hn := (r_tok_isn h1.2.1).mp k1
            have hg := r_tok_cv h1.2.1 hn.1
            have hl := h1.2.2.2.2.1
            refine ⟨r_all_next (by omega) (r_all_w h1 (by omega) (by omega) (by omega)) hadv2, ?_, hg.1⟩
            rw [hadv2.2.2.1 214 _ rfl, hto, x_u_s]
            exact hg.2
          have G2 := (H2 _ _ _ _ _ h0).1
          have e2c : J2 212 1 = c := by rw [hadv2.2.1 212 1 rfl, hadv.2.1 212 1 rfl, ← hc]
          refine And.intro (fun q => absurd q (by decide)) (fun _ => ?_)
          have hok : ∀ b n q σ T, r_all b n q σ T I2 L2 → p_line b n σ T = p_num b n 0 20 (t_tok b n 900 (t_tok b n 900 T.2.2.1).2.2.1) (fun _ T3 => .inr ((σ.1, σ.2.1 ++ [(t_tok b n 900 T.2.2.1).2.2.2], σ.2.2), T3)) := fun b n q σ T h => by
            have hcl := hcnt _ _ _ _ _ h
            have h1 := H1 _ _ _ _ _ h
            have hn := (r_tok_isn h1.2.1).mp k1
            have hg := r_tok_cv h1.2.1 hn.1
            rw [hline _ _ _ _ _ h]
            unfold p_man
            rw [if_neg (by omega), p_new_k hn (fun q => k2 ((r_in_any h1.2.2.2 hg.1 hg.2).mpr q))]
          refine Or.inl ⟨by omega, ?_⟩
          have hto2 : (16 + c).toNat = 16 + c.toNat := by omega
          refine And.intro ⟨16 + c, 0, 20, rfl, by decide, by decide, fun hk => r_all_bh G2 (by have := (r_tok_num G2.2.1).1.mp hk; omega), by omega, fun w hw => ?_⟩ ?_
          · rw [hto2, x_sgH6 ⟨c.toNat, by omega⟩] at hw
            cases hw
            decide
          rintro rv J3 K3 ⟨to', lo', hi', hlh, ⟨m1, rfl, g1, g2⟩ | ⟨m1, m2, rfl, g1, g2⟩ | ⟨m1, m2, m3, rfl, J4, hadv3, rfl⟩⟩
          · cases hlh
            subst g1
            subst g2
            refine And.intro (fun q => absurd rfl q) (fun _ => ?_)
            refine And.intro (by decide) ?_
            intro b n q σ T h
            have h2 := (H2 _ _ _ _ _ h).1
            rw [hok _ _ _ _ _ h, p_num_1 (fun q => m1 ((r_tok_num h2.2.1).1.mpr q))]
            exact ⟨rfl, rfl, h2.2.1.1⟩
          · cases hlh
            subst g1
            subst g2
            refine And.intro (fun q => absurd rfl q) (fun _ => ?_)
            refine And.intro (by decide) ?_
            intro b n q σ T h
            have h2 := (H2 _ _ _ _ _ h).1
            rw [hok _ _ _ _ _ h, p_num_2 ((r_tok_num h2.2.1).1.mp m1) (by rw [← (r_tok_num h2.2.1).2 m1]; exact m2)]
            exact ⟨rfl, rfl, h2.2.1.1⟩
          · cases hlh
            rw [hto2]
            refine And.intro (fun _ => ?_) (fun q => absurd q (by decide))
            refine And.intro (by decide) ?_
            intro z (hz : z = x_u J4 212 (16 + c.toNat) (J2 209 14) 212 1) _
            have hz7 : z = c := by rw [hz, x_u_k (by omega), hadv3.2.1 212 1 rfl]; exact e2c
            refine Or.inl ⟨by omega, ?_⟩
            refine And.intro (by decide) ?_
            refine And.intro (fun w hw => ?_) ?_
            · have hw : y_seg x_sgH 1 = some w := hw
              cases hw
              exact (show 0 ≤ z + 1 ∧ z + 1 ≤ 6 by omega)
            refine And.intro (by decide) ?_
            intro b n q σ T h
            have hcl := hcnt _ _ _ _ _ h
            obtain ⟨h2, hw2, hg2⟩ := H2 _ _ _ _ _ h
            have e14 := (r_tok_num h2.2.1).2 m1
            have h4 := r_all_next (I := x_u J2 209 18 (J2 209 14)) (by have := (r_tok_num h2.2.1).1.mp m1; omega) h2 hadv3
            have h5 := r_all_h (idx := 16 + c.toNat) (z := J2 209 14) h4 (by omega) (Or.inl (by omega)) (Or.inl (by omega))
            rw [hok _ _ _ _ _ h, p_num_k ((r_tok_num h2.2.1).1.mp m1) (by omega)]
            refine ⟨rfl, h5.1, h5.2.1, h5.2.2.1, r_st_m h5.2.2.2 ?_ hg2 (by omega) (by omega)⟩
            rw [show 30 + σ.2.1.length = 30 + c.toNat by omega, hadv3.2.2.1 214 _ rfl]
            exact hw2
      · intro t1
        refine And.intro ⟨4, rfl, by decide, by decide⟩ ?_
        rintro rv J3 K3 ⟨f, hf, rfl, rfl, rfl⟩
        cases hf
        refine And.intro (by decide) ?_
        intro b n q σ T h
        have hcl := hcnt _ _ _ _ _ h
        rw [hline _ _ _ _ _ h]
        unfold p_man
        rw [if_pos (by omega)]
        exact ⟨rfl, rfl, h.2.1.1⟩
    · subst g1
      subst g2
      cases hx
      refine And.intro (fun _ => ?_) (fun q => absurd rfl q)
      refine ⟨_, 1668243828, zw_1369, by decide +kernel, ?_⟩
      refine And.intro ⟨_, rfl⟩ ?_
      rintro rv I3 L3 ⟨g1, g2, w, hx, ⟨e1, e2, rfl⟩ | ⟨f2, rfl⟩⟩
      · subst g1
        subst g2
        cases hx
        refine And.intro (fun q => absurd q (by decide)) (fun _ => ?_)
        have hval : ∀ b n q σ T, r_all b n q σ T I3 L3 → T.1 = 2 ∧ T.2.2.2 = 113716 := fun b n q σ T h => (r_tok_w h.2.1 (x_gw8 _ (by decide)) (by decide +kernel)).mp ⟨e1, e2⟩
        have hline : ∀ b n q σ T, r_all b n q σ T I3 L3 → p_line b n σ T = p_coat b n σ T := fun b n q σ T h => by
          obtain ⟨v1, v2⟩ := hval _ _ _ _ _ h
          unfold p_line
          rw [if_neg (by omega), if_neg (by omega), if_neg (by omega), if_pos (by omega)]
        refine And.intro (by decide) ?_
        intro c (hc : c = I3 212 2) hs
        have bc : 0 ≤ c ∧ c ≤ 8 := hs _ rfl
        have hcnt : ∀ b n q σ T, r_all b n q σ T I3 L3 → c = σ.2.2.1.length := fun b n q σ T h => hc.trans h.2.2.2.1.2.2.1
        refine And.intro ?_ ?_
        · intro t1
          refine And.intro ⟨rfl, r_all_bh h0 (by have := (hval _ _ _ _ _ h0).1; omega)⟩ ?_
          intro rv J1 K1 hadv
          have h9 := hadv.1
          subst h9
          have H1 : ∀ b n q σ T, r_all b n q σ T I3 L3 → r_all b n q σ (t_tok b n 900 T.2.2.1) J1 K1 := fun b n q σ T h => r_all_next (by have := (hval _ _ _ _ _ h).1; omega) h hadv
          have G1 := H1 _ _ _ _ _ h0
          refine Or.inl ⟨by omega, ?_⟩
          have hto : (36 + c).toNat = 36 + c.toNat := by omega
          refine And.intro ⟨36 + c, rfl, by omega, fun hk => r_all_bh G1 (by have := ((r_tok_isn G1.2.1).mp hk).1; omega)⟩ ?_
          rintro rv J2 K2 ⟨to', hx, ⟨k1, rfl, g1, g2⟩ | ⟨k1, k2, rfl, g1, g2⟩ | ⟨k1, k2, rfl, hadv2⟩⟩
          · cases hx
            subst g1
            subst g2
            refine And.intro (fun _ => ?_) (fun q => absurd rfl q)
            refine And.intro (by decide) ?_
            intro b n q σ T h
            have hcl := hcnt _ _ _ _ _ h
            have h1 := H1 _ _ _ _ _ h
            rw [hline _ _ _ _ _ h]
            unfold p_coat
            rw [if_neg (by omega), p_new_1 (fun q => k1 ((r_tok_isn h1.2.1).mpr q))]
            exact ⟨rfl, rfl, h1.2.1.1⟩
          · cases hx
            subst g1
            subst g2
            refine And.intro (fun _ => ?_) (fun q => absurd rfl q)
            refine And.intro (by decide) ?_
            intro b n q σ T h
            have hcl := hcnt _ _ _ _ _ h
            have h1 := H1 _ _ _ _ _ h
            have hn := (r_tok_isn h1.2.1).mp k1
            have hg := r_tok_cv h1.2.1 hn.1
            rw [hline _ _ _ _ _ h]
            unfold p_coat
            rw [if_neg (by omega), p_new_3 hn ((r_in_any h1.2.2.2 hg.1 hg.2).mp k2)]
            exact ⟨rfl, rfl, h1.2.1.1⟩
          · cases hx
            have H2 : ∀ b n q σ T, r_all b n q σ T I3 L3 → r_all b n q σ (t_tok b n 900 (t_tok b n 900 T.2.2.1).2.2.1) J2 K2 ∧ K2 214 (36 + c.toNat) = t_cv (t_tok b n 900 T.2.2.1).2.2.2 ∧ x_gw (t_tok b n 900 T.2.2.1).2.2.2 := fun b n q σ T h => by
              have hcl := hcnt _ _ _ _ _ h
              have h1 := H1 _ _ _ _ _ h
              have hn := (r_tok_isn h1.2.1).mp k1
              have hg := r_tok_cv h1.2.1 hn.1
              have hl := h1.2.2.2.2.1
              refine ⟨r_all_next (by omega) (r_all_w h1 (by omega) (by omega) (by omega)) hadv2, ?_, hg.1⟩
              rw [hadv2.2.2.1 214 _ rfl, hto, x_u_s]
              exact hg.2
            have G2 := (H2 _ _ _ _ _ h0).1
            have e2c : J2 212 2 = c := by rw [hadv2.2.1 212 2 rfl, hadv.2.1 212 2 rfl, ← hc]
            refine And.intro (fun q => absurd q (by decide)) (fun _ => ?_)
            have hok : ∀ b n q σ T, r_all b n q σ T I3 L3 → p_line b n σ T = p_ref b n σ.2.1 (t_tok b n 900 (t_tok b n 900 T.2.2.1).2.2.1) (fun T3 => p_num b n 0 20 T3 (fun _ T4 => p_num b n 1 99 T4 (fun _ T5 => .inr ((σ.1, σ.2.1, σ.2.2.1 ++ [(t_tok b n 900 T.2.2.1).2.2.2], σ.2.2.2.1, σ.2.2.2.2.1, p_ow σ (t_tok b n 900 (t_tok b n 900 T.2.2.1).2.2.1).2.2.2), T5)))) := fun b n q σ T h => by
              have hcl := hcnt _ _ _ _ _ h
              have h1 := H1 _ _ _ _ _ h
              have hn := (r_tok_isn h1.2.1).mp k1
              have hg := r_tok_cv h1.2.1 hn.1
              rw [hline _ _ _ _ _ h]
              unfold p_coat
              rw [if_neg (by omega), p_new_k hn (fun q => k2 ((r_in_any h1.2.2.2 hg.1 hg.2).mpr q))]
            refine And.intro (by decide) ?_
            intro c1 (hc1 : c1 = J2 212 1) hs1
            have bc1 : 0 ≤ c1 ∧ c1 ≤ 6 := hs1 _ rfl
            have hin2 : ∀ b n q σ T, r_all b n q σ T I3 L3 → r_isn J2 K2 → (r_in J2 K2 (30 : Int).toNat c1 ↔ (t_tok b n 900 (t_tok b n 900 T.2.2.1).2.2.1).2.2.2 ∈ σ.2.1) := fun b n q σ T h hq => by
              have h2 := (H2 _ _ _ _ _ h).1
              have hn := (r_tok_isn h2.2.1).mp hq
              have hg := r_tok_cv h2.2.1 hn.1
              rw [hc1, h2.2.2.2.1.2.1]
              exact r_nm_in h2.2.2.2.2.2.1.2.1 hg.1 hg.2
            refine And.intro ⟨30, c1, rfl, by omega, fun hk => r_all_bh G2 (by have := ((r_tok_isn G2.2.1).mp hk).1; omega)⟩ ?_
            rintro rv J3 K3 ⟨fr', mn', hx, ⟨m1, rfl, g1, g2⟩ | ⟨m1, m2, rfl, g1, g2⟩ | ⟨m1, m2, ck, ck1, ck2, rfl, hadv3⟩⟩
            · cases hx
              subst g1
              subst g2
              refine And.intro (fun q => absurd rfl q) (fun _ => ?_)
              refine And.intro (by decide) ?_
              intro b n q σ T h
              have h2 := (H2 _ _ _ _ _ h).1
              rw [hok _ _ _ _ _ h, p_ref_1 (fun q => m1 ((r_tok_isn h2.2.1).mpr q))]
              exact ⟨rfl, rfl, h2.2.1.1⟩
            · cases hx
              subst g1
              subst g2
              refine And.intro (fun q => absurd rfl q) (fun _ => ?_)
              refine And.intro (by decide) ?_
              intro b n q σ T h
              have h2 := (H2 _ _ _ _ _ h).1
              rw [hok _ _ _ _ _ h, p_ref_3 ((r_tok_isn h2.2.1).mp m1) (fun q => m2 ((hin2 _ _ _ _ _ h m1).mpr q))]
              exact ⟨rfl, rfl, h2.2.1.1⟩
            · cases hx
              refine And.intro (fun _ => ?_) (fun q => absurd q (by decide))
              refine Or.inl ⟨by omega, ?_⟩
              have hto2 : (22 + c).toNat = 22 + c.toNat := by omega
              intro g (hg : g = J3 209 18) _
              have hgk : g = (ck : Int) := by rw [hg]; exact hadv3.2.1 209 18 rfl
              refine And.intro (show 0 ≤ 22 + c ∧ 22 + c < 62 by omega) ?_
              refine And.intro (fun w hw => ?_) ?_
              · have hw : y_seg x_sgH (22 + c).toNat = some w := hw
                rw [hto2, (x_sgH8 ⟨c.toNat, by omega⟩).2.1] at hw
                cases hw
                exact (show 0 ≤ g ∧ g ≤ 5 by omega)
              rw [hto2]
              have H3 : ∀ b n q σ T, r_all b n q σ T I3 L3 → r_all b n q σ (t_tok b n 900 (t_tok b n 900 (t_tok b n 900 T.2.2.1).2.2.1).2.2.1) (x_u J3 212 (22 + c.toNat) g) K3 := fun b n q σ T h => by
                have h2 := (H2 _ _ _ _ _ h).1
                exact r_all_h (r_all_next (I := x_u J2 209 18 (ck : Int)) (by have := ((r_tok_isn h2.2.1).mp m1).1; omega) h2 hadv3) (by omega) (Or.inl (by omega)) (Or.inr (by have := hcnt _ _ _ _ _ h; omega))
              have hw3 : K3 214 (36 + c.toNat) = K2 214 (36 + c.toNat) := hadv3.2.2.1 214 _ rfl
              have G3 := H3 _ _ _ _ _ h0
              have e3c : x_u J3 212 (22 + c.toNat) g 212 2 = c := by rw [x_u_k (by omega), hadv3.2.1 212 2 rfl]; exact e2c
              have hok3 : ∀ b n q σ T, r_all b n q σ T I3 L3 → p_line b n σ T = p_num b n 0 20 (t_tok b n 900 (t_tok b n 900 (t_tok b n 900 T.2.2.1).2.2.1).2.2.1) (fun _ T4 => p_num b n 1 99 T4 (fun _ T5 => .inr ((σ.1, σ.2.1, σ.2.2.1 ++ [(t_tok b n 900 T.2.2.1).2.2.2], σ.2.2.2.1, σ.2.2.2.2.1, p_ow σ (t_tok b n 900 (t_tok b n 900 T.2.2.1).2.2.1).2.2.2), T5))) := fun b n q σ T h => by
                have h2 := (H2 _ _ _ _ _ h).1
                rw [hok _ _ _ _ _ h, p_ref_k ((r_tok_isn h2.2.1).mp m1) ((hin2 _ _ _ _ _ h m1).mp m2)]
              have how3 : ∀ b n q σ T, r_all b n q σ T I3 L3 → 0 ≤ x_u J3 212 (22 + c.toNat) g 212 (22 + c.toNat) ∧ σ.2.1[(x_u J3 212 (22 + c.toNat) g 212 (22 + c.toNat)).toNat]? = some (t_tok b n 900 (t_tok b n 900 T.2.2.1).2.2.1).2.2.2 := fun b n q σ T h => by
                have h2 := (H2 _ _ _ _ _ h).1
                have hn := (r_tok_isn h2.2.1).mp m1
                have hgw := r_tok_cv h2.2.1 hn.1
                have hck : ck < σ.2.1.length := by have := h2.2.2.2.1.2.1; omega
                obtain ⟨s', s1, s2, s3⟩ := h2.2.2.2.2.2.1.2.1 ck hck
                have hss : s' = (t_tok b n 900 (t_tok b n 900 T.2.2.1).2.2.1).2.2.2 := x_gw_inj s3 hgw.1 (s2.symm.trans (ck2.trans hgw.2))
                rw [x_u_s, hgk, Int.toNat_natCast, s1, hss]
                exact ⟨by omega, rfl⟩
              generalize hJ5 : x_u J3 212 (22 + c.toNat) g = J5 at *
              refine Or.inl ⟨by omega, ?_⟩
              have hto3 : (30 + c).toNat = 30 + c.toNat := by omega
              refine And.intro ⟨30 + c, 0, 20, rfl, by decide, by decide, fun hk => r_all_bh G3 (by have := (r_tok_num G3.2.1).1.mp hk; omega), by omega, fun w hw => ?_⟩ ?_
              · rw [hto3, (x_sgH8 ⟨c.toNat, by omega⟩).2.2.1] at hw
                cases hw
                decide
              rintro rv J6 K6 ⟨to', lo', hi', hlh, ⟨n1, rfl, g1, g2⟩ | ⟨n1, n2, rfl, g1, g2⟩ | ⟨n1, n2, n3, rfl, J7, hadv4, rfl⟩⟩
              · cases hlh
                subst g1
                subst g2
                refine And.intro (fun _ => ?_) (fun q => absurd rfl q)
                refine And.intro (by decide) ?_
                intro b n q σ T h
                have h3 := H3 _ _ _ _ _ h
                rw [hok3 _ _ _ _ _ h, p_num_1 (fun q => n1 ((r_tok_num h3.2.1).1.mpr q))]
                exact ⟨rfl, rfl, h3.2.1.1⟩
              · cases hlh
                subst g1
                subst g2
                refine And.intro (fun _ => ?_) (fun q => absurd rfl q)
                refine And.intro (by decide) ?_
                intro b n q σ T h
                have h3 := H3 _ _ _ _ _ h
                rw [hok3 _ _ _ _ _ h, p_num_2 ((r_tok_num h3.2.1).1.mp n1) (by rw [← (r_tok_num h3.2.1).2 n1]; exact n2)]
                exact ⟨rfl, rfl, h3.2.1.1⟩
              · cases hlh
                rw [hto3]
                have H4 : ∀ b n q σ T, r_all b n q σ T I3 L3 → r_all b n q σ (t_tok b n 900 (t_tok b n 900 (t_tok b n 900 (t_tok b n 900 T.2.2.1).2.2.1).2.2.1).2.2.1) (x_u J7 212 (30 + c.toNat) (J5 209 14)) K6 := fun b n q σ T h => by
                  have h3 := H3 _ _ _ _ _ h
                  exact r_all_h (r_all_next (I := x_u J5 209 18 (J5 209 14)) (by have := (r_tok_num h3.2.1).1.mp n1; omega) h3 hadv4) (by omega) (Or.inl (by omega)) (Or.inr (by have := hcnt _ _ _ _ _ h; omega))
                have hw4 : K6 214 (36 + c.toNat) = K2 214 (36 + c.toNat) := (hadv4.2.2.1 214 _ rfl).trans hw3
                have G4 := H4 _ _ _ _ _ h0
                have e4c : x_u J7 212 (30 + c.toNat) (J5 209 14) 212 2 = c := by rw [x_u_k (by omega), hadv4.2.1 212 2 rfl]; exact e3c
                have hok4 : ∀ b n q σ T, r_all b n q σ T I3 L3 → p_line b n σ T = p_num b n 1 99 (t_tok b n 900 (t_tok b n 900 (t_tok b n 900 (t_tok b n 900 T.2.2.1).2.2.1).2.2.1).2.2.1) (fun _ T5 => .inr ((σ.1, σ.2.1, σ.2.2.1 ++ [(t_tok b n 900 T.2.2.1).2.2.2], σ.2.2.2.1, σ.2.2.2.2.1, p_ow σ (t_tok b n 900 (t_tok b n 900 T.2.2.1).2.2.1).2.2.2), T5)) := fun b n q σ T h => by
                  have h3 := H3 _ _ _ _ _ h
                  have e14 := (r_tok_num h3.2.1).2 n1
                  rw [hok3 _ _ _ _ _ h, p_num_k ((r_tok_num h3.2.1).1.mp n1) (by omega)]
                have ho8 : x_u J7 212 (30 + c.toNat) (J5 209 14) 212 (22 + c.toNat) = J5 212 (22 + c.toNat) := by rw [x_u_k (by omega), hadv4.2.1 212 _ rfl]; rfl
                generalize hJ8 : x_u J7 212 (30 + c.toNat) (J5 209 14) = J8 at *
                refine And.intro (fun q => absurd q (by decide)) (fun _ => ?_)
                refine Or.inl ⟨by omega, ?_⟩
                have hto4 : (38 + c).toNat = 38 + c.toNat := by omega
                refine And.intro ⟨38 + c, 1, 99, rfl, by decide, by decide, fun hk => r_all_bh G4 (by have := (r_tok_num G4.2.1).1.mp hk; omega), by omega, fun w hw => ?_⟩ ?_
                · rw [hto4, (x_sgH8 ⟨c.toNat, by omega⟩).2.2.2.1] at hw
                  cases hw
                  decide
                rintro rv J9 K9 ⟨to', lo', hi', hlh, ⟨o1, rfl, g1, g2⟩ | ⟨o1, o2, rfl, g1, g2⟩ | ⟨o1, o2, o3, rfl, J10, hadv5, rfl⟩⟩
                · cases hlh
                  subst g1
                  subst g2
                  refine And.intro (fun q => absurd rfl q) (fun _ => ?_)
                  refine And.intro (by decide) ?_
                  intro b n q σ T h
                  have h4 := H4 _ _ _ _ _ h
                  rw [hok4 _ _ _ _ _ h, p_num_1 (fun q => o1 ((r_tok_num h4.2.1).1.mpr q))]
                  exact ⟨rfl, rfl, h4.2.1.1⟩
                · cases hlh
                  subst g1
                  subst g2
                  refine And.intro (fun q => absurd rfl q) (fun _ => ?_)
                  refine And.intro (by decide) ?_
                  intro b n q σ T h
                  have h4 := H4 _ _ _ _ _ h
                  rw [hok4 _ _ _ _ _ h, p_num_2 ((r_tok_num h4.2.1).1.mp o1) (by rw [← (r_tok_num h4.2.1).2 o1]; exact o2)]
                  exact ⟨rfl, rfl, h4.2.1.1⟩
                · cases hlh
                  rw [hto4]
                  refine And.intro (fun _ => ?_) (fun q => absurd q (by decide))
                  refine And.intro (by decide) ?_
                  intro z (hz : z = x_u J10 212 (38 + c.toNat) (J8 209 14) 212 2) _
                  have hz7 : z = c := by rw [hz, x_u_k (by omega), hadv5.2.1 212 2 rfl]; exact e4c
                  refine Or.inl ⟨by omega, ?_⟩
                  refine And.intro (by decide) ?_
                  refine And.intro (fun w hw => ?_) ?_
                  · have hw : y_seg x_sgH 2 = some w := hw
                    cases hw
                    exact (show 0 ≤ z + 1 ∧ z + 1 ≤ 8 by omega)
                  refine And.intro (by decide) ?_
                  intro b n q σ T h
                  have hcl := hcnt _ _ _ _ _ h
                  obtain ⟨h2, hw2, hg2⟩ := H2 _ _ _ _ _ h
                  have h4 := H4 _ _ _ _ _ h
                  have e14 := (r_tok_num h4.2.1).2 o1
                  have h5 := r_all_h (idx := 38 + c.toNat) (z := J8 209 14) (r_all_next (I := x_u J8 209 18 (J8 209 14)) (by have := (r_tok_num h4.2.1).1.mp o1; omega) h4 hadv5) (by omega) (Or.inl (by omega)) (Or.inr (by have := hcnt _ _ _ _ _ h; omega))
                  rw [hok4 _ _ _ _ _ h, p_num_k ((r_tok_num h4.2.1).1.mp o1) (by omega)]
                  refine ⟨rfl, h5.1, h5.2.1, h5.2.2.1, r_st_c h5.2.2.2 ?_ hg2 (by omega) (by omega) (fun d hd => ?_)⟩
                  · rw [show 36 + σ.2.2.1.length = 36 + c.toNat by omega, hadv5.2.2.1 214 _ rfl, hw4]
                    exact hw2
                  · have h9 := h5.2.2.2.2.2.2.2.2.2
                    rw [List.length_append] at hd
                    show 0 ≤ x_u (x_u J10 212 (38 + c.toNat) (J8 209 14)) 212 2 (z + 1) 212 (22 + d) ∧ σ.2.1[(x_u (x_u J10 212 (38 + c.toNat) (J8 209 14)) 212 2 (z + 1) 212 (22 + d)).toNat]? = some (p_ow σ (t_tok b n 900 (t_tok b n 900 T.2.2.1).2.2.1).2.2.2 (100 + d))
                    rw [x_u_k (show 22 + d ≠ 2 by omega)]
                    rcases Nat.lt_or_ge d σ.2.2.1.length with gd | gd
                    · rw [p_ow_c σ _ gd]
                      exact h9 d gd
                    · have hde : d = σ.2.2.1.length := by simp at hd; omega
                      subst hde
                      have ho10 : x_u J10 212 (38 + c.toNat) (J8 209 14) 212 (22 + σ.2.2.1.length) = J5 212 (22 + c.toNat) := by
                        rw [x_u_k (by omega), hadv5.2.1 212 _ rfl, show 22 + σ.2.2.1.length = 22 + c.toNat by omega]
                        exact ho8
                      rw [ho10, p_ow_n]
                      exact how3 _ _ _ _ _ h
        · intro t1
          refine And.intro ⟨4, rfl, by decide, by decide⟩ ?_
          rintro rv J3 K3 ⟨f, hf, rfl, rfl, rfl⟩
          cases hf
          refine And.intro (by decide) ?_
          intro b n q σ T h
          have hcl := hcnt _ _ _ _ _ h
          rw [hline _ _ _ _ _ h]
          unfold p_coat
          rw [if_pos (by omega)]
          exact ⟨rfl, rfl, h.2.1.1⟩
      · subst g1
        subst g2
        cases hx
        refine And.intro (fun _ => ?_) (fun q => absurd rfl q)
        refine ⟨_, 1668246628, zw_1370, by decide +kernel, ?_⟩
        refine And.intro ⟨_, rfl⟩ ?_
        rintro rv I4 L4 ⟨g1, g2, w, hx, ⟨e1, e2, rfl⟩ | ⟨f3, rfl⟩⟩
        · subst g1
          subst g2
          cases hx
          refine And.intro (fun q => absurd q (by decide)) (fun _ => ?_)
          have hval : ∀ b n q σ T, r_all b n q σ T I4 L4 → T.1 = 2 ∧ T.2.2.2 = 114052 := fun b n q σ T h => (r_tok_w h.2.1 (x_gw8 _ (by decide)) (by decide +kernel)).mp ⟨e1, e2⟩
          have hline : ∀ b n q σ T, r_all b n q σ T I4 L4 → p_line b n σ T = p_cold b n σ T := fun b n q σ T h => by
            obtain ⟨v1, v2⟩ := hval _ _ _ _ _ h
            unfold p_line
            rw [if_neg (by omega), if_neg (by omega), if_neg (by omega), if_neg (by omega), if_pos (by omega)]
          refine And.intro ⟨rfl, b0, n0, q0, σ0, T0, h0, by have := (hval _ _ _ _ _ h0).1; omega⟩ ?_
          intro rv J1 K1 hp
          have hl : ∀ b n q σ T, r_all b n q σ T I4 L4 → r_out b n q (p_line b n σ T) rv J1 K1 := fun b n q σ T h => by
            rw [hline _ _ _ _ _ h]
            exact hp _ _ _ _ _ h (by have := (hval _ _ _ _ _ h).1; omega)
          rcases r_out_rv (hl _ _ _ _ _ h0) with rfl | rfl
          · exact ⟨by decide, hl⟩
          · exact ⟨by decide, hl⟩
        · subst g1
          subst g2
          cases hx
          refine And.intro (fun _ => ?_) (fun q => absurd rfl q)
          refine ⟨_, 126948184253810, zw_1371, by decide +kernel, ?_⟩
          refine And.intro ⟨_, rfl⟩ ?_
          rintro rv I5 L5 ⟨g1, g2, w, hx, ⟨e1, e2, rfl⟩ | ⟨f4, rfl⟩⟩
          · subst g1
            subst g2
            cases hx
            refine And.intro (fun q => absurd q (by decide)) (fun _ => ?_)
            have hval : ∀ b n q σ T, r_all b n q σ T I5 L5 → T.1 = 2 ∧ T.2.2.2 = 659993778 := fun b n q σ T h => (r_tok_w h.2.1 (x_gw8 _ (by decide)) (by decide +kernel)).mp ⟨e1, e2⟩
            have hline : ∀ b n q σ T, r_all b n q σ T I5 L5 → p_line b n σ T = p_once 0 0 40 b n σ T := fun b n q σ T h => by
              obtain ⟨v1, v2⟩ := hval _ _ _ _ _ h
              unfold p_line
              rw [if_neg (by omega), if_neg (by omega), if_neg (by omega), if_neg (by omega), if_neg (by omega), if_pos (by omega)]
            refine And.intro ⟨0, 0, 40, rfl, by decide, by decide, by decide, fun w hw => by cases hw; decide, b0, n0, q0, σ0, T0, h0, by have := (hval _ _ _ _ _ h0).1; omega⟩ ?_
            intro rv J1 K1 hp
            have hl : ∀ b n q σ T, r_all b n q σ T I5 L5 → r_out b n q (p_line b n σ T) rv J1 K1 := fun b n q σ T h => by
              rw [hline _ _ _ _ _ h]
              exact hp 0 0 40 rfl _ _ _ _ _ h (by have := (hval _ _ _ _ _ h).1; omega)
            rcases r_out_rv (hl _ _ _ _ _ h0) with rfl | rfl
            · exact ⟨by decide, hl⟩
            · exact ⟨by decide, hl⟩
          · subst g1
            subst g2
            cases hx
            refine And.intro (fun _ => ?_) (fun q => absurd rfl q)
            refine ⟨_, 448545973363, zw_1372, by decide +kernel, ?_⟩
            refine And.intro ⟨_, rfl⟩ ?_
            rintro rv I6 L6 ⟨g1, g2, w, hx, ⟨e1, e2, rfl⟩ | ⟨f5, rfl⟩⟩
            · subst g1
              subst g2
              cases hx
              refine And.intro (fun q => absurd q (by decide)) (fun _ => ?_)
              have hval : ∀ b n q σ T, r_all b n q σ T I6 L6 → T.1 = 2 ∧ T.2.2.2 = 8892563 := fun b n q σ T h => (r_tok_w h.2.1 (x_gw8 _ (by decide)) (by decide +kernel)).mp ⟨e1, e2⟩
              have hline : ∀ b n q σ T, r_all b n q σ T I6 L6 → p_line b n σ T = p_once 1 1 30 b n σ T := fun b n q σ T h => by
                obtain ⟨v1, v2⟩ := hval _ _ _ _ _ h
                unfold p_line
                rw [if_neg (by omega), if_neg (by omega), if_neg (by omega), if_neg (by omega), if_neg (by omega), if_neg (by omega), if_pos (by omega)]
              refine And.intro ⟨1, 1, 30, rfl, by decide, by decide, by decide, fun w hw => by cases hw; decide, b0, n0, q0, σ0, T0, h0, by have := (hval _ _ _ _ _ h0).1; omega⟩ ?_
              intro rv J1 K1 hp
              have hl : ∀ b n q σ T, r_all b n q σ T I6 L6 → r_out b n q (p_line b n σ T) rv J1 K1 := fun b n q σ T h => by
                rw [hline _ _ _ _ _ h]
                exact hp 1 1 30 rfl _ _ _ _ _ h (by have := (hval _ _ _ _ _ h).1; omega)
              rcases r_out_rv (hl _ _ _ _ _ h0) with rfl | rfl
              · exact ⟨by decide, hl⟩
              · exact ⟨by decide, hl⟩
            · subst g1
              subst g2
              cases hx
              refine And.intro (fun _ => ?_) (fun q => absurd rfl q)
              refine ⟨_, 470021335155, zw_1373, by decide +kernel, ?_⟩
              refine And.intro ⟨_, rfl⟩ ?_
              rintro rv I7 L7 ⟨g1, g2, w, hx, ⟨e1, e2, rfl⟩ | ⟨f6, rfl⟩⟩
              · subst g1
                subst g2
                cases hx
                refine And.intro (fun q => absurd q (by decide)) (fun _ => ?_)
                have hval : ∀ b n q σ T, r_all b n q σ T I7 L7 → T.1 = 2 ∧ T.2.2.2 = 14143763 := fun b n q σ T h => (r_tok_w h.2.1 (x_gw8 _ (by decide)) (by decide +kernel)).mp ⟨e1, e2⟩
                have hline : ∀ b n q σ T, r_all b n q σ T I7 L7 → p_line b n σ T = p_once 2 0 9 b n σ T := fun b n q σ T h => by
                  obtain ⟨v1, v2⟩ := hval _ _ _ _ _ h
                  unfold p_line
                  rw [if_neg (by omega), if_neg (by omega), if_neg (by omega), if_neg (by omega), if_neg (by omega), if_neg (by omega), if_neg (by omega), if_pos (by omega)]
                refine And.intro ⟨2, 0, 9, rfl, by decide, by decide, by decide, fun w hw => by cases hw; decide, b0, n0, q0, σ0, T0, h0, by have := (hval _ _ _ _ _ h0).1; omega⟩ ?_
                intro rv J1 K1 hp
                have hl : ∀ b n q σ T, r_all b n q σ T I7 L7 → r_out b n q (p_line b n σ T) rv J1 K1 := fun b n q σ T h => by
                  rw [hline _ _ _ _ _ h]
                  exact hp 2 0 9 rfl _ _ _ _ _ h (by have := (hval _ _ _ _ _ h).1; omega)
                rcases r_out_rv (hl _ _ _ _ _ h0) with rfl | rfl
                · exact ⟨by decide, hl⟩
                · exact ⟨by decide, hl⟩
              · subst g1
                subst g2
                cases hx
                refine And.intro (fun _ => ?_) (fun q => absurd rfl q)
                refine ⟨_, 465625246068, zw_1374, by decide +kernel, ?_⟩
                refine And.intro ⟨_, rfl⟩ ?_
                rintro rv I8 L8 ⟨g1, g2, w, hx, ⟨e1, e2, rfl⟩ | ⟨f7, rfl⟩⟩
                · subst g1
                  subst g2
                  cases hx
                  refine And.intro (fun q => absurd q (by decide)) (fun _ => ?_)
                  have hval : ∀ b n q σ T, r_all b n q σ T I8 L8 → T.1 = 2 ∧ T.2.2.2 = 12891444 := fun b n q σ T h => (r_tok_w h.2.1 (x_gw8 _ (by decide)) (by decide +kernel)).mp ⟨e1, e2⟩
                  have hline : ∀ b n q σ T, r_all b n q σ T I8 L8 → p_line b n σ T = p_once 3 1 999 b n σ T := fun b n q σ T h => by
                    obtain ⟨v1, v2⟩ := hval _ _ _ _ _ h
                    unfold p_line
                    rw [if_neg (by omega), if_neg (by omega), if_neg (by omega), if_neg (by omega), if_neg (by omega), if_neg (by omega), if_neg (by omega), if_neg (by omega), if_pos (by omega)]
                  refine And.intro ⟨3, 1, 999, rfl, by decide, by decide, by decide, fun w hw => by cases hw; decide, b0, n0, q0, σ0, T0, h0, by have := (hval _ _ _ _ _ h0).1; omega⟩ ?_
                  intro rv J1 K1 hp
                  have hl : ∀ b n q σ T, r_all b n q σ T I8 L8 → r_out b n q (p_line b n σ T) rv J1 K1 := fun b n q σ T h => by
                    rw [hline _ _ _ _ _ h]
                    exact hp 3 1 999 rfl _ _ _ _ _ h (by have := (hval _ _ _ _ _ h).1; omega)
                  rcases r_out_rv (hl _ _ _ _ _ h0) with rfl | rfl
                  · exact ⟨by decide, hl⟩
                  · exact ⟨by decide, hl⟩
                · subst g1
                  subst g2
                  cases hx
                  refine And.intro (fun _ => ?_) (fun q => absurd rfl q)
                  refine And.intro ⟨1, rfl, by decide, by decide⟩ ?_
                  rintro rv J3 K3 ⟨f, hf, rfl, rfl, rfl⟩
                  cases hf
                  refine And.intro (by decide) ?_
                  intro b n q σ T h
                  rw [p_line_no (fun hT => ?_)]
                  · exact ⟨rfl, rfl, h.2.1.1⟩
                  · unfold x_W8
                    simp only [List.mem_cons, List.not_mem_nil, or_false, not_or]
                    exact ⟨fun q => f0 ((r_tok_w h.2.1 (x_gw8 _ (by decide)) (by decide +kernel)).mpr ⟨hT, q⟩), fun q => f1 ((r_tok_w h.2.1 (x_gw8 _ (by decide)) (by decide +kernel)).mpr ⟨hT, q⟩), fun q => f2 ((r_tok_w h.2.1 (x_gw8 _ (by decide)) (by decide +kernel)).mpr ⟨hT, q⟩), fun q => f3 ((r_tok_w h.2.1 (x_gw8 _ (by decide)) (by decide +kernel)).mpr ⟨hT, q⟩), fun q => f4 ((r_tok_w h.2.1 (x_gw8 _ (by decide)) (by decide +kernel)).mpr ⟨hT, q⟩), fun q => f5 ((r_tok_w h.2.1 (x_gw8 _ (by decide)) (by decide +kernel)).mpr ⟨hT, q⟩), fun q => f6 ((r_tok_w h.2.1 (x_gw8 _ (by decide)) (by decide +kernel)).mpr ⟨hT, q⟩), fun q => f7 ((r_tok_w h.2.1 (x_gw8 _ (by decide)) (by decide +kernel)).mpr ⟨hT, q⟩)⟩
end XN4
