/-! ===== the class's reader: COATS, COLDS, what is told once ===== -/
section XL2
variable {EX : (Nat → Prop) → State → Heap → Prop} {l : Launch} {kc : Nat → ClassId} {D : va_G} {xb : Nat} {ad : Nat → Option Nat}
set_option maxHeartbeats 4000000 in
theorem xk_coat (hE : z_EX EX) : x_Ok EX l zTB zNT kc D vwCl xb yTY ad yP0 43 3 c_pre (c_post p_coat) := by
  refine x_meth (M := ym_X4_readCoat) hE y_prog 130 rfl (by decide) (ct_rd_ok hE) (fun za I L ⟨h, _⟩ => by subst h; exact (by decide : 1 ≤ 4)) (fun za I L ⟨h, b0, n0, q0, σ0, T0, h0, hT0⟩ => ?_)
  subst h
  have hcnt : ∀ b n q σ T, c_all b n q σ T I L → I 17 2 = σ.2.2.1.length := fun b n q σ T h => h.2.2.2.1.2.2.1
  intro s (hs : s = I 17 2) (bs : 0 ≤ s ∧ s ≤ 8)
  refine And.intro ?_ ?_
  · intro t1
    refine And.intro ⟨rfl, c_ah_bh h0 hT0⟩ ?_
    intro rv I1 L1 hadv
    have h9 := hadv.1
    subst h9
    have H1 : ∀ b n q σ T, c_all b n q σ T I L → 2 ≤ T.1 → c_all b n q σ (t_tok b n 900 T.2.2.1) I1 L1 := fun b n q σ T h hT => c_ah_adv hT h hadv
    have G1 := H1 _ _ _ _ _ h0 hT0
    intro s2 (hs2 : s2 = I1 17 2) (bs2 : 0 ≤ s2 ∧ s2 ≤ 8)
    have hs21 : s2 = s := by rw [hs2, hs]; exact hadv.2.1 17 2 rfl
    have hsz : I1 25 3 < 22 ∧ 0 ≤ I1 25 3 := by
      have e1 := G1.2.2.2.2.2.1.1
      have e2 := G1.2.2.2.2.1
      have e3 := hcnt _ _ _ _ _ h0
      omega
    refine And.intro ⟨2, s2, rfl, by decide, ⟨by omega, by omega⟩, hsz.1, fun hk => c_ah_bh G1 (by have := ((c_tok_name G1.2.1).1.mp hk).1; omega)⟩ ?_
    rintro rv I2 L2 ⟨t', q', ht', ⟨k1, rfl, g1, g2⟩ | ⟨k1, k2, rfl, g1, g2⟩ | ⟨k1, k0, k2, rfl, hadv2⟩⟩
    · cases ht'
      subst g1
      subst g2
      refine And.intro (fun q => absurd rfl q) (fun _ => ?_)
      refine And.intro (by decide) ?_
      intro b n q σ T h hT
      have hc := hcnt _ _ _ _ _ h
      have h1 := H1 _ _ _ _ _ h hT
      unfold p_coat
      rw [if_neg (by omega), p_new_1 (fun q => k1 ((c_tok_name h1.2.1).1.mpr q))]
      exact ⟨rfl, rfl, h1.2.1.1, by decide⟩
    · cases ht'
      subst g1
      subst g2
      refine And.intro (fun q => absurd rfl q) (fun _ => ?_)
      refine And.intro (by decide) ?_
      intro b n q σ T h hT
      have hc := hcnt _ _ _ _ _ h
      have h1 := H1 _ _ _ _ _ h hT
      have hn := (c_tok_name h1.2.1).1.mp k1
      rw [(c_tok_name h1.2.1).2 k1] at k2
      unfold p_coat
      rw [if_neg (by omega), p_new_3 hn ((c_nm_any h1.2.2.2.2.2.1 _).mp k2)]
      exact ⟨rfl, rfl, h1.2.1.1, by decide⟩
    · cases ht'
      have H2 : ∀ b n q σ T, c_all b n q σ T I L → 2 ≤ T.1 → c_ah σ.1 σ.2.1 (σ.2.2.1 ++ [(t_tok b n 900 T.2.2.1).2.2.2]) b n q σ (t_tok b n 900 (t_tok b n 900 T.2.2.1).2.2.1) I2 L2 := fun b n q σ T h hT => by
        have h1 := H1 _ _ _ _ _ h hT
        have hn := (c_tok_name h1.2.1).1.mp k1
        exact c_ah_adv (by omega) ((c_ah_add h1 k0 k1).2.2 rfl) hadv2
      have G2 := H2 _ _ _ _ _ h0 hT0
      have hfr2 : ∀ k, I2 17 k = I1 17 k := fun k => hadv2.2.1 17 k rfl
      refine And.intro (fun _ => ?_) (fun q => absurd q (by decide))
      refine And.intro ⟨1, rfl, fun hk => c_ah_bh G2 (by have := ((c_tok_name G2.2.1).1.mp hk).1; omega)⟩ ?_
      have hok : ∀ b n q σ T, c_all b n q σ T I L → 2 ≤ T.1 → p_coat b n σ T = p_ref b n σ.2.1 (t_tok b n 900 (t_tok b n 900 T.2.2.1).2.2.1) (fun T3 => p_num b n 0 20 T3 (fun _ T4 => p_num b n 1 99 T4 (fun _ T5 => .inr ((σ.1, σ.2.1, σ.2.2.1 ++ [(t_tok b n 900 T.2.2.1).2.2.2], σ.2.2.2.1, σ.2.2.2.2.1, p_ow σ (t_tok b n 900 (t_tok b n 900 T.2.2.1).2.2.1).2.2.2), T5)))) := fun b n q σ T h hT => by
        have hc := hcnt _ _ _ _ _ h
        have h1 := H1 _ _ _ _ _ h hT
        have hn := (c_tok_name h1.2.1).1.mp k1
        unfold p_coat
        rw [if_neg (by omega), p_new_k hn (fun q => ?_)]
        rw [← c_nm_any h1.2.2.2.2.2.1, ← (c_tok_name h1.2.1).2 k1] at q
        obtain ⟨k, e1, e2⟩ := q
        exact k2 k e1 e2
      rintro rv I3 L3 ⟨t3, ht3, ⟨m1, rfl, g1, g2⟩ | ⟨m1, m2, rfl, g1, g2⟩ | ⟨m1, k, m2, m3, m4, rfl, m5, hadv3⟩⟩
      · cases ht3
        subst g1
        subst g2
        refine And.intro (fun q => absurd rfl q) (fun _ => ?_)
        refine And.intro (by decide) ?_
        intro b n q σ T h hT
        have h2 := H2 _ _ _ _ _ h hT
        rw [hok b n q σ T h hT, p_ref_1 (fun q => m1 ((c_tok_name h2.2.1).1.mpr q))]
        exact ⟨rfl, rfl, h2.2.1.1, by decide⟩
      · cases ht3
        subst g1
        subst g2
        refine And.intro (fun q => absurd rfl q) (fun _ => ?_)
        refine And.intro (by decide) ?_
        intro b n q σ T h hT
        have h2 := H2 _ _ _ _ _ h hT
        have hn := (c_tok_name h2.2.1).1.mp m1
        rw [hok b n q σ T h hT, p_ref_3 hn (fun q => ?_)]
        · exact ⟨rfl, rfl, h2.2.1.1, by decide⟩
        · rw [← (c_tok_name h2.2.1).2 m1, ← h2.2.2.2.2.2.1.2.2.1] at q
          obtain ⟨k, e1, e2, e3⟩ := q
          exact m2 k e1 ⟨e2, e3⟩
      · cases ht3
        have hrow := ((G2.2.2.2.2.2.1.2.2.2.2 k m2).2 m4).2.1
        have H3 : ∀ b n q σ T, c_all b n q σ T I L → 2 ≤ T.1 → c_ah σ.1 σ.2.1 (σ.2.2.1 ++ [(t_tok b n 900 T.2.2.1).2.2.2]) b n q σ (t_tok b n 900 (t_tok b n 900 (t_tok b n 900 T.2.2.1).2.2.1).2.2.1) I3 L3 := fun b n q σ T h hT => by
          have h2 := H2 _ _ _ _ _ h hT
          have hn := (c_tok_name h2.2.1).1.mp m1
          exact c_ah_adv (by omega) h2 hadv3
        have hok3 : ∀ b n q σ T, c_all b n q σ T I L → 2 ≤ T.1 → p_coat b n σ T = p_num b n 0 20 (t_tok b n 900 (t_tok b n 900 (t_tok b n 900 T.2.2.1).2.2.1).2.2.1) (fun _ T4 => p_num b n 1 99 T4 (fun _ T5 => .inr ((σ.1, σ.2.1, σ.2.2.1 ++ [(t_tok b n 900 T.2.2.1).2.2.2], σ.2.2.2.1, σ.2.2.2.2.1, p_ow σ (t_tok b n 900 (t_tok b n 900 T.2.2.1).2.2.1).2.2.2), T5))) := fun b n q σ T h hT => by
          have h2 := H2 _ _ _ _ _ h hT
          have hn := (c_tok_name h2.2.1).1.mp m1
          rw [hok b n q σ T h hT, p_ref_k hn]
          rw [← (c_tok_name h2.2.1).2 m1, ← h2.2.2.2.2.2.1.2.2.1]
          exact ⟨k, m2, m3, m4⟩
        have G3 := H3 _ _ _ _ _ h0 hT0
        refine And.intro (fun _ => ?_) (fun q => absurd q (by omega))
        refine And.intro ⟨0, 20, rfl, fun hk => c_ah_bh G3 (by have := (c_tok_num G3.2.1).1.mp hk; omega)⟩ ?_
        rintro rv I4 L4 ⟨lo', hi', hlh, ⟨n1, n2, n3, rfl, hadv4⟩ | ⟨n1, rfl, g1, g2⟩ | ⟨n1, n2, rfl, g1, g2⟩⟩
        · cases hlh
          have H4 : ∀ b n q σ T, c_all b n q σ T I L → 2 ≤ T.1 → c_ah σ.1 σ.2.1 (σ.2.2.1 ++ [(t_tok b n 900 T.2.2.1).2.2.2]) b n q σ (t_tok b n 900 (t_tok b n 900 (t_tok b n 900 (t_tok b n 900 T.2.2.1).2.2.1).2.2.1).2.2.1) I4 L4 := fun b n q σ T h hT => by
            have h3 := H3 _ _ _ _ _ h hT
            have := (c_tok_num h3.2.1).1.mp n1
            exact c_ah_adv (by omega) h3 hadv4
          have hok4 : ∀ b n q σ T, c_all b n q σ T I L → 2 ≤ T.1 → p_coat b n σ T = p_num b n 1 99 (t_tok b n 900 (t_tok b n 900 (t_tok b n 900 (t_tok b n 900 T.2.2.1).2.2.1).2.2.1).2.2.1) (fun _ T5 => .inr ((σ.1, σ.2.1, σ.2.2.1 ++ [(t_tok b n 900 T.2.2.1).2.2.2], σ.2.2.2.1, σ.2.2.2.2.1, p_ow σ (t_tok b n 900 (t_tok b n 900 T.2.2.1).2.2.1).2.2.2), T5)) := fun b n q σ T h hT => by
            have h3 := H3 _ _ _ _ _ h hT
            have e7 := (c_tok_num h3.2.1).2 n1
            rw [hok3 b n q σ T h hT, p_num_k ((c_tok_num h3.2.1).1.mp n1) (by omega)]
          have G4 := H4 _ _ _ _ _ h0 hT0
          refine And.intro (fun _ => ?_) (fun q => absurd q (by omega))
          refine And.intro ⟨1, 99, rfl, fun hk => c_ah_bh G4 (by have := (c_tok_num G4.2.1).1.mp hk; omega)⟩ ?_
          rintro rv I5 L5 ⟨lo', hi', hlh, ⟨o1, o2, o3, rfl, hadv5⟩ | ⟨o1, rfl, g1, g2⟩ | ⟨o1, o2, rfl, g1, g2⟩⟩
          · cases hlh
            have H5 : ∀ b n q σ T, c_all b n q σ T I L → 2 ≤ T.1 → c_ah σ.1 σ.2.1 (σ.2.2.1 ++ [(t_tok b n 900 T.2.2.1).2.2.2]) b n q σ (t_tok b n 900 (t_tok b n 900 (t_tok b n 900 (t_tok b n 900 (t_tok b n 900 T.2.2.1).2.2.1).2.2.1).2.2.1).2.2.1) I5 L5 := fun b n q σ T h hT => by
              have h4 := H4 _ _ _ _ _ h hT
              have := (c_tok_num h4.2.1).1.mp o1
              exact c_ah_adv (by omega) h4 hadv5
            have h52 : I5 17 2 = s := by
              rw [hadv5.2.1 17 2 rfl, hadv4.2.1 17 2 rfl, hadv3.2.1 17 2 rfl, hfr2, ← hs2]
              exact hs21
            refine And.intro (fun _ => ?_) (fun q => absurd q (by omega))
            intro s3 (hs3 : s3 = I5 17 2) _
            refine And.intro (show 0 ≤ s3 ∧ s3 < 8 by omega) ?_
            refine And.intro (fun w hw => ?_) ?_
            · rw [x_seg1 (by omega)] at hw
              cases hw
              exact (show 0 ≤ I2 28 k ∧ I2 28 k ≤ 5 by omega)
            intro s4 (hs4 : s4 = x_u I5 20 s3.toNat (I2 28 k) 17 2) _
            have hs41 : s4 = s := by rw [hs4, x_u_r (by decide)]; exact h52
            refine And.intro (show 0 ≤ s4 ∧ s4 < 8 by omega) ?_
            refine And.intro (fun w hw => ?_) ?_
            · rw [x_seg1 (by omega)] at hw
              cases hw
              exact (show 0 ≤ I3 1 7 ∧ I3 1 7 ≤ 20 by omega)
            intro s5 (hs5 : s5 = x_u (x_u I5 20 s3.toNat (I2 28 k)) 21 s4.toNat (I3 1 7) 17 2) _
            have hs51 : s5 = s := by rw [hs5, x_u_r (by decide), x_u_r (by decide)]; exact h52
            refine And.intro (show 0 ≤ s5 ∧ s5 < 8 by omega) ?_
            refine And.intro (fun w hw => ?_) ?_
            · rw [x_seg1 (by omega)] at hw
              cases hw
              exact (show 0 ≤ I4 1 7 ∧ I4 1 7 ≤ 99 by omega)
            intro s6 (hs6 : s6 = x_u (x_u (x_u I5 20 s3.toNat (I2 28 k)) 21 s4.toNat (I3 1 7)) 22 s5.toNat (I4 1 7) 17 2) _
            have hs61 : s6 = s := by rw [hs6, x_u_r (by decide), x_u_r (by decide), x_u_r (by decide)]; exact h52
            refine Or.inl ⟨by omega, ?_⟩
            refine And.intro (show 0 ≤ s6 + 1 ∧ s6 + 1 ≤ 8 by omega) ?_
            refine And.intro (by decide) ?_
            intro b n q σ T h hT
            have hc := hcnt _ _ _ _ _ h
            have h4 := H4 _ _ _ _ _ h hT
            have h5 := H5 _ _ _ _ _ h hT
            have e7 := (c_tok_num h4.2.1).2 o1
            rw [hok4 b n q σ T h hT, p_num_k ((c_tok_num h4.2.1).1.mp o1) (by omega)]
            obtain ⟨a1, a2, a3, a4, a5, a6, a7, a8, a9⟩ := h5
            refine ⟨rfl, a1, a2, a3, ?_, ?_, a6, fun i hi => ?_, a8, fun j hj => ((x_u_k (by omega)).trans ((x_u_r (by decide)).trans ((x_u_r (by decide)).trans ((x_u_r (by decide)).trans (a9.1 j hj))))).trans (p_ow_4 σ _ hj).symm, fun c hc9 => ?_⟩
            · exact ⟨a4.1, a4.2.1, (show s6 + 1 = ((σ.2.2.1 ++ [(t_tok b n 900 T.2.2.1).2.2.2]).length : Int) by rw [List.length_append]; simp; omega), a4.2.2.2⟩
            · exact ⟨a5.1, a5.2.1, (show (σ.2.2.1 ++ [(t_tok b n 900 T.2.2.1).2.2.2]).length ≤ 8 by rw [List.length_append]; simp; omega), a5.2.2.2⟩
            · have := a7 i hi
              rw [this]
              rfl
            · have h2 := H2 _ _ _ _ _ h hT
              have hc9 : c < (σ.2.2.1 ++ [(t_tok b n 900 T.2.2.1).2.2.2]).length := hc9
              rw [List.length_append] at hc9
              have e20 : x_u (x_u (x_u (x_u I5 20 s3.toNat (I2 28 k)) 21 s4.toNat (I3 1 7)) 22 s5.toNat (I4 1 7)) 17 2 (s6 + 1) 20 c = if c = s3.toNat then I2 28 k else I5 20 c := by
                rw [x_u_r (by decide), x_u_r (by decide), x_u_r (by decide), x_u_if]
                simp
              show 0 ≤ x_u (x_u (x_u (x_u I5 20 s3.toNat (I2 28 k)) 21 s4.toNat (I3 1 7)) 22 s5.toNat (I4 1 7)) 17 2 (s6 + 1) 20 c ∧ σ.2.1[(x_u (x_u (x_u (x_u I5 20 s3.toNat (I2 28 k)) 21 s4.toNat (I3 1 7)) 22 s5.toNat (I4 1 7)) 17 2 (s6 + 1) 20 c).toNat]? = some (p_ow σ (t_tok b n 900 (t_tok b n 900 T.2.2.1).2.2.1).2.2.2 (100 + c))
              rw [e20]
              have hl : s3.toNat = σ.2.2.1.length := by omega
              rcases Nat.lt_or_ge c σ.2.2.1.length with g | g
              · rw [if_neg (by omega), p_ow_c σ _ g]
                exact a9.2 c g
              · have hce : c = σ.2.2.1.length := by simp at hc9; omega
                subst hce
                obtain ⟨r1, r2, r3⟩ := (h2.2.2.2.2.2.1.2.2.2.2 k m2).2 m4
                rw [if_pos hl.symm, p_ow_n]
                refine ⟨r1, r3.trans ?_⟩
                rw [m3, (c_tok_name h2.2.1).2 m1]
          · cases hlh
            subst g1
            subst g2
            refine And.intro (fun q => absurd rfl q) (fun _ => ?_)
            refine And.intro (by decide) ?_
            intro b n q σ T h hT
            have h4 := H4 _ _ _ _ _ h hT
            rw [hok4 b n q σ T h hT, p_num_1 (fun q => o1 ((c_tok_num h4.2.1).1.mpr q))]
            exact ⟨rfl, rfl, h4.2.1.1, by decide⟩
          · cases hlh
            subst g1
            subst g2
            refine And.intro (fun q => absurd rfl q) (fun _ => ?_)
            refine And.intro (by decide) ?_
            intro b n q σ T h hT
            have h4 := H4 _ _ _ _ _ h hT
            rw [hok4 b n q σ T h hT, p_num_2 ((c_tok_num h4.2.1).1.mp o1) (by rw [← (c_tok_num h4.2.1).2 o1]; exact o2)]
            exact ⟨rfl, rfl, h4.2.1.1, by decide⟩
        · cases hlh
          subst g1
          subst g2
          refine And.intro (fun q => absurd rfl q) (fun _ => ?_)
          refine And.intro (by decide) ?_
          intro b n q σ T h hT
          have h3 := H3 _ _ _ _ _ h hT
          rw [hok3 b n q σ T h hT, p_num_1 (fun q => n1 ((c_tok_num h3.2.1).1.mpr q))]
          exact ⟨rfl, rfl, h3.2.1.1, by decide⟩
        · cases hlh
          subst g1
          subst g2
          refine And.intro (fun q => absurd rfl q) (fun _ => ?_)
          refine And.intro (by decide) ?_
          intro b n q σ T h hT
          have h3 := H3 _ _ _ _ _ h hT
          rw [hok3 b n q σ T h hT, p_num_2 ((c_tok_num h3.2.1).1.mp n1) (by rw [← (c_tok_num h3.2.1).2 n1]; exact n2)]
          exact ⟨rfl, rfl, h3.2.1.1, by decide⟩
  · intro t1
    refine And.intro ⟨4, rfl, by decide, by decide⟩ ?_
    rintro rv I3 L3 ⟨f, hf, rfl, rfl, rfl⟩
    cases hf
    refine And.intro (by decide) ?_
    intro b n q σ T h hT
    have hc := hcnt _ _ _ _ _ h
    unfold p_coat
    rw [if_pos (by omega)]
    exact ⟨rfl, rfl, h.2.1.1, by decide⟩
/-! COLDS -/
def xr_hc : xPre := fun za _ _ => ∃ d : Int, za = [xR 18, .inl d]
def xo_hc : xPost := fun za I L rv I' L' => I' = I ∧ L' = L ∧ ∃ d : Int, za = [xR 18, .inl d] ∧ ((∃ i : Nat, (i : Int) < I 17 3 ∧ I 23 i = d ∧ (0 ≤ d ∧ d ≤ 399) ∧ rv = some (.inl 1)) ∨ ((∀ i : Nat, (i : Int) < I 17 3 → I 23 i ≠ d) ∧ rv = some (.inl 0)))
theorem xk_hc (hE : z_EX EX) : x_Ok EX l zTB zNT kc D vwCl xb yTY ad yP0 36 0 xr_hc xo_hc := by
  refine x_loop (M := ym_X3_hasColdFrom) hE y_prog 40 rfl (by decide) x_none_ok (fun za I L ⟨d, h⟩ => by subst h; exact (by decide : 2 ≤ 3)) (x_cut1 2) (fun za I L n pc lv sv I' L' => I' = I ∧ L' = L ∧ sv = [] ∧ ∃ (d : Int) (i : Nat), za = [xR 18, .inl d] ∧ lv = [(0, xR 18), (1, .inl d), (2, .inl (i : Int))] ∧ i ≤ 8 ∧ n = 8 - i ∧ ∀ k : Nat, k < i → I 23 k ≠ d) (fun za I L ⟨d, h⟩ => ?_) (fun za I L _ n pc lv sv I' L' hc hi => ?_)
  · subst h
    exact ⟨8, [(0, xR 18), (1, .inl d), (2, .inl ((0 : Nat) : Int))], ⟨rfl, rfl, rfl, trivial⟩, rfl, rfl, rfl, d, 0, rfl, rfl, by omega, rfl, fun k hk => absurd hk (Nat.not_lt_zero k)⟩
  · obtain rfl := x_cut1_ok hc
    obtain ⟨rfl, rfl, rfl, d, i, rfl, rfl, hi, rfl, hno⟩ := hi
    intro z (hz : z = I' 17 3) (bz : 0 ≤ z ∧ z ≤ 8)
    refine And.intro ?_ ?_
    · intro t1
      exact ⟨by decide, rfl, rfl, d, rfl, Or.inr ⟨fun k hk => hno k (by omega), rfl⟩⟩
    · intro t1
      have hti : ((i : Int)).toNat = i := by omega
      refine And.intro (show 0 ≤ (i : Int) ∧ (i : Int) < 8 by omega) ?_
      intro c (hc : c = I' 23 ((i : Int)).toNat) hsg
      have bc : 0 ≤ c ∧ c ≤ 399 := hsg _ (x_seg1 (by omega))
      rw [hti] at hc
      refine And.intro ?_ ?_
      · intro t2
        refine Or.inl ⟨by omega, 8 - (i + 1), [(0, xR 18), (1, .inl d), (2, .inl ((i + 1 : Nat) : Int))], by omega, ⟨rfl, rfl, rfl, trivial⟩, rfl, rfl, rfl, d, i + 1, rfl, rfl, by omega, rfl, fun k hk => ?_⟩
        rcases Nat.lt_or_ge k i with g | g
        · exact hno k g
        · obtain rfl : k = i := by omega
          exact fun q => t2 (hc.trans q)
      · intro t2
        exact ⟨by decide, rfl, rfl, d, rfl, Or.inl ⟨i, by omega, hc.symm.trans t2, by omega, rfl⟩⟩
theorem c_cold_in {σ : pS} {S M C : List Int} {I L : xF} (h : c_hf S M C σ I L) (x : Int) : (∃ i : Nat, (i : Int) < I 17 3 ∧ I 23 i = x) ↔ x ∈ σ.2.2.2.1 := by
  obtain ⟨g1, g2, g3, g4, g5, g6⟩ := h
  constructor
  · rintro ⟨i, i1, i2⟩
    have := g4 i (by omega)
    rw [i2] at this
    exact List.mem_of_getElem? this
  · intro hx
    obtain ⟨i, hi⟩ := List.getElem?_of_mem hx
    have hl := (List.getElem?_eq_some_iff.mp hi).1
    rw [g4 i hl] at hi
    exact ⟨i, by omega, Option.some.inj hi⟩
def ct_rc : List (Nat × Nat × xPre × xPost) := (36, 0, xr_hc, xo_hc) :: ct_rd
theorem ct_rc_ok (hE : z_EX EX) : x_ctok EX l zTB zNT kc D vwCl xb yTY ad yP0 (x_ctl ct_rc) := x_ctl_cons (xk_hc hE) (ct_rd_ok hE)
set_option maxHeartbeats 4000000 in
theorem xk_cold (hE : z_EX EX) : x_Ok EX l zTB zNT kc D vwCl xb yTY ad yP0 44 3 c_pre (c_post p_cold) := by
  refine x_meth (M := ym_X4_readCold) hE y_prog 120 rfl (by decide) (ct_rc_ok hE) (fun za I L ⟨h, _⟩ => by subst h; exact (by decide : 1 ≤ 3)) (fun za I L ⟨h, b0, n0, q0, σ0, T0, h0, hT0⟩ => ?_)
  subst h
  have hcnt : ∀ b n q σ T, c_all b n q σ T I L → I 17 3 = σ.2.2.2.1.length := fun b n q σ T h => h.2.2.2.1.2.2.2
  intro s (hs : s = I 17 3) (bs : 0 ≤ s ∧ s ≤ 8)
  refine And.intro ?_ ?_
  · intro t1
    refine And.intro ⟨rfl, c_ah_bh h0 hT0⟩ ?_
    intro rv I1 L1 hadv
    have h9 := hadv.1
    subst h9
    have H1 : ∀ b n q σ T, c_all b n q σ T I L → 2 ≤ T.1 → c_all b n q σ (t_tok b n 900 T.2.2.1) I1 L1 := fun b n q σ T h hT => c_ah_adv hT h hadv
    have G1 := H1 _ _ _ _ _ h0 hT0
    intro k (hk : k = I1 1 6) _
    refine And.intro ?_ ?_
    · intro t2
      refine And.intro ⟨0, 399, rfl, fun hk => absurd hk (by omega)⟩ ?_
      rintro rv I2 L2 ⟨lo', hi', hlh, ⟨m1, _⟩ | ⟨m1, rfl, g1, g2⟩ | ⟨m1, _⟩⟩
      · exact absurd m1 (by omega)
      · cases hlh
        subst g1
        subst g2
        refine And.intro (fun q => absurd rfl q) (fun _ => ?_)
        refine And.intro (by decide) ?_
        intro b n q σ T h hT
        have hc := hcnt _ _ _ _ _ h
        have h1 := H1 _ _ _ _ _ h hT
        unfold p_cold
        rw [if_neg (by omega), p_num_1 (fun q => m1 ((c_tok_num h1.2.1).1.mpr q))]
        exact ⟨rfl, rfl, h1.2.1.1, by decide⟩
      · exact absurd m1 (by omega)
    · intro t2 v (hv : v = I1 1 7) _
      have hk4 : I1 1 6 = 4 := by omega
      refine And.intro ⟨v, rfl⟩ ?_
      rintro rv I2 L2 ⟨g1, g2, d, hd, ⟨i, i1, i2, i3, rfl⟩ | ⟨i1, rfl⟩⟩
      · subst g1
        subst g2
        cases hd
        refine And.intro (fun q => absurd q (by decide)) (fun _ => ?_)
        refine And.intro ⟨3, rfl, by decide, by decide⟩ ?_
        rintro rv I3 L3 ⟨f, hf, rfl, rfl, rfl⟩
        cases hf
        refine And.intro (by decide) ?_
        intro b n q σ T h hT
        have hc := hcnt _ _ _ _ _ h
        have h1 := H1 _ _ _ _ _ h hT
        have e7 := (c_tok_num h1.2.1).2 hk4
        have hin := (c_cold_in h1.2.2.2 v).mp ⟨i, i1, i2⟩
        have hvT : v = (t_tok b n 900 T.2.2.1).2.2.2 := hv.trans e7
        unfold p_cold
        rw [if_neg (by omega), p_num_k ((c_tok_num h1.2.1).1.mp hk4) (by omega), if_pos (by rw [← hvT]; exact hin)]
        exact ⟨rfl, rfl, h1.2.1.1, by decide⟩
      · subst g1
        subst g2
        cases hd
        refine And.intro (fun _ => ?_) (fun q => absurd rfl q)
        refine And.intro ⟨0, 399, rfl, fun hk => c_ah_bh G1 (by have := (c_tok_num G1.2.1).1.mp hk; omega)⟩ ?_
        rintro rv I3 L3 ⟨lo', hi', hlh, ⟨m1, m2, m3, rfl, hadv3⟩ | ⟨m1, _⟩ | ⟨m1, m2, rfl, g1, g2⟩⟩
        · cases hlh
          have H3 : ∀ b n q σ T, c_all b n q σ T I L → 2 ≤ T.1 → c_all b n q σ (t_tok b n 900 (t_tok b n 900 T.2.2.1).2.2.1) I3 L3 := fun b n q σ T h hT => by
            have h1 := H1 _ _ _ _ _ h hT
            have := (c_tok_num h1.2.1).1.mp m1
            exact c_ah_adv (by omega) h1 hadv3
          have hok : ∀ b n q σ T, c_all b n q σ T I L → 2 ≤ T.1 → p_cold b n σ T = p_num b n 0 40 (t_tok b n 900 (t_tok b n 900 T.2.2.1).2.2.1) (fun _ T3 => .inr ((σ.1, σ.2.1, σ.2.2.1, σ.2.2.2.1 ++ [I2 1 7], σ.2.2.2.2), T3)) := fun b n q σ T h hT => by
            have hc := hcnt _ _ _ _ _ h
            have h1 := H1 _ _ _ _ _ h hT
            have e7 := (c_tok_num h1.2.1).2 m1
            unfold p_cold
            rw [if_neg (by omega), p_num_k ((c_tok_num h1.2.1).1.mp m1) (by omega), ← e7, if_neg (fun q => ?_)]
            rw [← hv, ← c_cold_in h1.2.2.2] at q
            obtain ⟨i, e1, e2⟩ := q
            exact i1 i e1 e2
          have G3 := H3 _ _ _ _ _ h0 hT0
          refine And.intro (fun _ => ?_) (fun q => absurd q (by omega))
          refine And.intro ⟨0, 40, rfl, fun hk => c_ah_bh G3 (by have := (c_tok_num G3.2.1).1.mp hk; omega)⟩ ?_
          rintro rv I4 L4 ⟨lo', hi', hlh, ⟨n1, n2, n3, rfl, hadv4⟩ | ⟨n1, rfl, g1, g2⟩ | ⟨n1, n2, rfl, g1, g2⟩⟩
          · cases hlh
            have h43 : I4 17 3 = s := by
              rw [hadv4.2.1 17 3 rfl, hadv3.2.1 17 3 rfl, hadv.2.1 17 3 rfl, ← hs]
            refine And.intro (fun _ => ?_) (fun q => absurd q (by omega))
            intro s3 (hs3 : s3 = I4 17 3) _
            refine And.intro (show 0 ≤ s3 ∧ s3 < 8 by omega) ?_
            refine And.intro (fun w hw => ?_) ?_
            · rw [x_seg1 (by omega)] at hw
              cases hw
              exact (show 0 ≤ I2 1 7 ∧ I2 1 7 ≤ 399 by omega)
            intro s4 (hs4 : s4 = x_u I4 23 s3.toNat (I2 1 7) 17 3) _
            have hs41 : s4 = s := by rw [hs4, x_u_r (by decide)]; exact h43
            refine And.intro (show 0 ≤ s4 ∧ s4 < 8 by omega) ?_
            refine And.intro (fun w hw => ?_) ?_
            · rw [x_seg1 (by omega)] at hw
              cases hw
              exact (show 0 ≤ I3 1 7 ∧ I3 1 7 ≤ 40 by omega)
            intro s5 (hs5 : s5 = x_u (x_u I4 23 s3.toNat (I2 1 7)) 24 s4.toNat (I3 1 7) 17 3) _
            have hs51 : s5 = s := by rw [hs5, x_u_r (by decide), x_u_r (by decide)]; exact h43
            refine Or.inl ⟨by omega, ?_⟩
            refine And.intro (show 0 ≤ s5 + 1 ∧ s5 + 1 ≤ 8 by omega) ?_
            refine And.intro (by decide) ?_
            intro b n q σ T h hT
            have hc := hcnt _ _ _ _ _ h
            have h3 := H3 _ _ _ _ _ h hT
            have e7 := (c_tok_num h3.2.1).2 n1
            have h4 := c_ah_adv (by have := (c_tok_num h3.2.1).1.mp n1; omega) h3 hadv4
            rw [hok b n q σ T h hT, p_num_k ((c_tok_num h3.2.1).1.mp n1) (by omega)]
            obtain ⟨a1, a2, a3, a4, a5, a6, a7, a8, a9⟩ := h4
            refine ⟨rfl, a1, a2, a3, ?_, ?_, a6, fun i hi => ?_, a8, fun j hj => (x_u_k (by omega)).trans ((x_u_r (by decide)).trans ((x_u_r (by decide)).trans (a9.1 j hj))), fun c hc9 => a9.2 c hc9⟩
            · exact ⟨a4.1, a4.2.1, a4.2.2.1, (show s5 + 1 = ((σ.2.2.2.1 ++ [I2 1 7]).length : Int) by rw [List.length_append]; simp; omega)⟩
            · exact ⟨a5.1, a5.2.1, a5.2.2.1, (show (σ.2.2.2.1 ++ [I2 1 7]).length ≤ 8 by rw [List.length_append]; simp; omega)⟩
            · have hi : i < (σ.2.2.2.1 ++ [I2 1 7]).length := hi
              rw [List.length_append] at hi
              show (σ.2.2.2.1 ++ [I2 1 7])[i]? = some (x_u (x_u (x_u I4 23 s3.toNat (I2 1 7)) 24 s4.toNat (I3 1 7)) 17 3 (s5 + 1) 23 i)
              rw [x_u_r (by decide), x_u_r (by decide), x_u_if]
              have hl : s3.toNat = σ.2.2.2.1.length := by omega
              rcases Nat.lt_or_ge i σ.2.2.2.1.length with g | g
              · rw [List.getElem?_append_left g, if_neg (by omega)]
                exact a7 i g
              · have : i = σ.2.2.2.1.length := by simp at hi; omega
                subst this
                rw [if_pos ⟨rfl, hl.symm⟩, List.getElem?_append_right (Nat.le_refl _)]
                simp
          · cases hlh
            subst g1
            subst g2
            refine And.intro (fun q => absurd rfl q) (fun _ => ?_)
            refine And.intro (by decide) ?_
            intro b n q σ T h hT
            have h3 := H3 _ _ _ _ _ h hT
            rw [hok b n q σ T h hT, p_num_1 (fun q => n1 ((c_tok_num h3.2.1).1.mpr q))]
            exact ⟨rfl, rfl, h3.2.1.1, by decide⟩
          · cases hlh
            subst g1
            subst g2
            refine And.intro (fun q => absurd rfl q) (fun _ => ?_)
            refine And.intro (by decide) ?_
            intro b n q σ T h hT
            have h3 := H3 _ _ _ _ _ h hT
            rw [hok b n q σ T h hT, p_num_2 ((c_tok_num h3.2.1).1.mp n1) (by rw [← (c_tok_num h3.2.1).2 n1]; exact n2)]
            exact ⟨rfl, rfl, h3.2.1.1, by decide⟩
        · exact absurd hk4 m1
        · cases hlh
          subst g1
          subst g2
          refine And.intro (fun q => absurd rfl q) (fun _ => ?_)
          refine And.intro (by decide) ?_
          intro b n q σ T h hT
          have hc := hcnt _ _ _ _ _ h
          have h1 := H1 _ _ _ _ _ h hT
          unfold p_cold
          rw [if_neg (by omega), p_num_2 ((c_tok_num h1.2.1).1.mp m1) (by rw [← (c_tok_num h1.2.1).2 m1]; exact m2)]
          exact ⟨rfl, rfl, h1.2.1.1, by decide⟩
  · intro t1
    refine And.intro ⟨4, rfl, by decide, by decide⟩ ?_
    rintro rv I3 L3 ⟨f, hf, rfl, rfl, rfl⟩
    cases hf
    refine And.intro (by decide) ?_
    intro b n q σ T h hT
    have hc := hcnt _ _ _ _ _ h
    unfold p_cold
    rw [if_pos (by omega)]
    exact ⟨rfl, rfl, h.2.1.1, by decide⟩
end XL2
