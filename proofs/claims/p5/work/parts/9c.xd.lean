/-! ===== the reference's next(), exactly ===== -/
theorem t_nl_first {b : Nat → Int} {x : Int} : ∀ k : Nat, (t_al (b x.toNat) → 1 ≤ t_nl b x (k + 1)) ∧ (¬ t_al (b x.toNat) → t_nl b x (k + 1) ≤ k)
  | 0 => by
    have h : t_nl b x 1 = 0 + (if t_al (b (x.toNat + 0)) then 1 else 0) := rfl
    rw [h, Nat.add_zero]
    exact ⟨fun q => by rw [if_pos q]; decide, fun q => by rw [if_neg q]; decide⟩
  | k + 1 => by
    have h1 := t_nl_first (b := b) (x := x) k
    have h : t_nl b x (k + 1 + 1) = t_nl b x (k + 1) + (if t_al (b (x.toNat + (k + 1))) then 1 else 0) := rfl
    rw [h]
    refine ⟨fun q => ?_, fun q => ?_⟩
    · have := h1.1 q
      split <;> omega
    · have := h1.2 q
      split <;> omega
theorem r_b_fi {I I' : xF} (h : x_fi x_sN I I') : r_b I' = r_b I := funext (fun j => by unfold r_b; rw [h 210 j rfl])
/-- within the run, k bytes behind its begin -/
def r_rn (b : Nat → Int) (n a : Int) (k : Nat) (I' L' : xF) : Prop :=
  (0 ≤ a ∧ a + k ≤ n ∧ a < n ∧ n ≤ 940) ∧ (t_al (b a.toNat) ∨ t_dg (b a.toNat)) ∧ I' 209 4 = a + k ∧ I' 209 12 = a ∧ I' 209 13 = k ∧ (∀ j, j < k → t_al (b (a.toNat + j)) ∨ t_dg (b (a.toNat + j))) ∧ t_end b n a = t_end b n (a + k)
def r_al (b : Nat → Int) (a : Int) (k : Nat) (sm al : Int) : Prop := sm = (if t_al (b a.toNat) then 1 else 0) ∧ (al = 0 ∨ al = 1) ∧ (al = 1 ↔ ((sm = 1 ∧ t_nl b a k = k) ∨ (sm = 0 ∧ t_nl b a k = 0)))
def r_wv (b : Nat → Int) (a : Int) (k : Nat) (I' L' : xF) : Prop := L' 209 17 = t_w b a (min k 7) ∧ I' 209 14 = t_val b a (min k 3)
def x_nxI (za : List xV) (I L : xF) (m pc : Nat) (lv : List (Nat × xV)) (sv : List xV) (I' L' : xF) : Prop :=
  x_fi x_sN I I' ∧ x_fi x_sW L L' ∧ za = [xR 210] ∧ (0 ≤ I 209 4 ∧ I 209 4 ≤ I 209 3 ∧ I 209 3 ≤ 940 ∧ 0 ≤ I 209 5 ∧ I 209 5 ≤ 940) ∧
  ((pc = 0 ∧ sv = [] ∧ lv = [(0, xR 210)] ∧ 0 ≤ I' 209 4 ∧ I' 209 4 ≤ I 209 3 ∧ t_skip (r_b I) (I 209 3) (I' 209 4) = t_skip (r_b I) (I 209 3) (I 209 4) ∧ (m : Int) = 10000 + (I 209 3 - I' 209 4)) ∨
   (pc = 80 ∧ sv = [] ∧ lv = [(0, xR 210)] ∧ I' 209 4 = t_skip (r_b I) (I 209 3) (I 209 4) ∧ I' 209 12 = I' 209 4 ∧ I' 209 13 = 0 ∧ (I 209 3 ≤ I 209 5 ∨ I' 209 4 < I 209 5) ∧ m = 9000) ∨
   (pc = 145 ∧ ∃ c : Int, lv = [(0, xR 210), (1, .inl c)] ∧ sv = [.inl (if t_sg c then 3 else 4), xR 210] ∧ c = r_b I (I' 209 4).toNat ∧ I' 209 4 < I 209 3 ∧ ¬ (t_al c ∨ t_dg c) ∧ I' 209 4 = t_skip (r_b I) (I 209 3) (I 209 4) ∧ I' 209 12 = I' 209 4 ∧ I' 209 4 < I 209 5 ∧ m = 0) ∨
   (pc = 164 ∧ ∃ c : Int, lv = [(0, xR 210), (1, .inl c)] ∧ sv = [] ∧ c = r_b I (I' 209 4).toNat ∧ I' 209 4 < I 209 3 ∧ (t_al c ∨ t_dg c) ∧ I' 209 4 = t_skip (r_b I) (I 209 3) (I 209 4) ∧ I' 209 12 = I' 209 4 ∧ I' 209 13 = 0 ∧ I' 209 4 < I 209 5 ∧ m = 8000) ∨
   (∃ (a sm al : Int) (k : Nat), a = t_skip (r_b I) (I 209 3) (I 209 4) ∧ a < I 209 5 ∧ sv = [] ∧ lv = [(0, xR 210), (2, .inl sm), (3, .inl al)] ∧ r_rn (r_b I) (I 209 3) a k I' L' ∧ r_wv (r_b I) a k I' L' ∧
     ((pc = 181 ∧ r_al (r_b I) a k sm al ∧ (m : Int) = 4 * (I 209 3 - (a + k)) + 3) ∨
      (pc = 201 ∧ r_al (r_b I) a k sm al ∧ a + k < I 209 3 ∧ (t_al (r_b I (a.toNat + k)) ∨ t_dg (r_b I (a.toNat + k))) ∧ (m : Int) = 4 * (I 209 3 - (a + k)) + 2) ∨
      (pc = 222 ∧ r_al (r_b I) a (k + 1) sm al ∧ a + k < I 209 3 ∧ (t_al (r_b I (a.toNat + k)) ∨ t_dg (r_b I (a.toNat + k))) ∧ (m : Int) = 4 * (I 209 3 - (a + k)) + 1) ∨
      (pc = 298 ∧ r_al (r_b I) a k sm al ∧ t_end (r_b I) (I 209 3) a = a + k ∧ m = 0))))
def x_cutN : Nat → Bool := fun pc => Nat.beq pc 0 || (Nat.beq pc 80 || (Nat.beq pc 145 || (Nat.beq pc 164 || (Nat.beq pc 181 || (Nat.beq pc 201 || (Nat.beq pc 222 || Nat.beq pc 298))))))
section XM2
variable {EX : (Nat → Prop) → State → Heap → Prop} {l : Launch} {kc : Nat → ClassId} {D : va_G} {xb : Nat} {ad : Nat → Option Nat}
set_option maxHeartbeats 4000000 in
theorem xk_next (hE : z_EX EX) : x_Ok EX l zTB zNT kc D vwCl xb yTY ad yP0 175 1 xr_next xo_next := by
  refine x_loop (M := ym_X12_next) hE y_prog 80 rfl (by decide) (ct_next_ok hE) (fun za I L ⟨h, _⟩ => by subst h; exact (by decide : 1 ≤ 4)) x_cutN x_nxI (fun za I L ⟨h, hp⟩ => ?_) (fun za I L _ m pc lv sv I' L' hc hi => ?_)
  · subst h
    exact ⟨(10000 + (I 209 3 - I 209 4)).toNat, [(0, xR 210)], ⟨rfl, trivial⟩, x_fi_refl, x_fi_refl, rfl, hp, Or.inl ⟨rfl, rfl, rfl, hp.1, hp.2.1, rfl, by omega⟩⟩
  · obtain ⟨hfi, hfl, rfl, hp, hi⟩ := hi
    have hbe := r_b_fi hfi
    have e3 : I' 209 3 = I 209 3 := hfi 209 3 rfl
    have e5 : I' 209 5 = I 209 5 := hfi 209 5 rfl
    have hpk : I' 209 4 < I 209 3 → r_pk I' = r_b I (I' 209 4).toNat := fun h => by
      unfold r_pk
      rw [if_pos (by omega), hbe]
    have hpn : ¬ I' 209 4 < I 209 3 → r_pk I' = -1 := fun h => by
      unfold r_pk
      rw [if_neg (by omega)]
    have hsk := t_skip_le (b := r_b I) hp.2.1
    rcases hi with hi | hi | hi | hi | hi
    · -- blanks
      obtain ⟨rfl, rfl, rfl, h0, h1, h2, hm⟩ := hi
      have hinc : t_bl (r_pk I') → ∃ (j : Nat) (lv' : List (Nat × xV)), j < m ∧ x_subs lv' [(0, xR 210)] ∧ x_nxI [xR 210] I L j 0 lv' [] (x_u I' 209 4 (I' 209 4 + 1)) L' := fun hb => by
        have hlt : I' 209 4 < I 209 3 := Classical.byContradiction (fun q => by
          rw [hpn q] at hb
          rcases hb with hb | hb <;> exact absurd hb (by decide))
        refine ⟨(10000 + (I 209 3 - (I' 209 4 + 1))).toNat, [(0, xR 210)], by omega, ⟨rfl, trivial⟩, x_fi_u hfi rfl, hfl, rfl, hp, Or.inl ⟨rfl, rfl, rfl, (show 0 ≤ I' 209 4 + 1 by omega), (show I' 209 4 + 1 ≤ I 209 3 by omega), ?_, (show ((10000 + (I 209 3 - (I' 209 4 + 1))).toNat : Int) = 10000 + (I 209 3 - (I' 209 4 + 1)) by omega)⟩⟩
        rw [hpk hlt] at hb
        rw [← h2, t_skip_go hlt hb]
        rfl
      have hout : ¬ t_bl (r_pk I') → I' 209 4 = t_skip (r_b I) (I 209 3) (I 209 4) := fun hb => by
        rw [← h2]
        by_cases hlt : I' 209 4 < I 209 3
        · rw [hpk hlt] at hb
          rw [t_skip_end (Or.inr hb)]
        · rw [t_skip_end (Or.inl (by omega))]
      refine And.intro ⟨rfl, h0, by omega⟩ ?_
      rintro rv I2 L2 ⟨g1, g2, rfl⟩
      subst g1
      subst g2
      refine And.intro ?_ ?_
      · intro t1 p (hpq : p = I2 209 4) (bp : 0 ≤ p ∧ p ≤ 940)
        have hlt : I2 209 4 < I 209 3 := Classical.byContradiction (fun q => by
          rw [hpn q] at t1
          exact absurd t1 (by decide))
        refine Or.inl ⟨by omega, ?_⟩
        refine And.intro (show 0 ≤ p + 1 ∧ p + 1 ≤ 940 by omega) ?_
        subst hpq
        exact hinc (Or.inl t1)
      · intro t1
        refine And.intro ⟨rfl, h0, by omega⟩ ?_
        rintro rv I3 L3 ⟨g1, g2, rfl⟩
        subst g1
        subst g2
        refine And.intro ?_ ?_
        · intro t2 p (hpq : p = I3 209 4) (bp : 0 ≤ p ∧ p ≤ 940)
          have ha := hout (fun q => by rcases q with q | q; exact t1 q; exact t2 q)
          refine And.intro (show 0 ≤ p ∧ p ≤ 940 by omega) ?_
          refine And.intro (by decide) ?_
          intro sz (hsz : sz = I3 209 3) _ lm (hlm : lm = I3 209 5) _
          have h80 : (I 209 3 ≤ I 209 5 ∨ I3 209 4 < I 209 5) → ∃ (j : Nat) (lv' : List (Nat × xV)), j < m ∧ x_subs lv' [(0, xR 210)] ∧ x_nxI [xR 210] I L j 80 lv' [] (x_u (x_u I3 209 12 p) 209 13 0) L3 := fun hq => ⟨9000, [(0, xR 210)], by omega, ⟨rfl, trivial⟩, x_fi_u (x_fi_u hfi rfl) rfl, hfl, rfl, hp, Or.inr (Or.inl ⟨rfl, rfl, rfl, ha, hpq, rfl, hq, rfl⟩)⟩
          refine And.intro ?_ ?_
          · intro t3
            exact h80 (Or.inl (by omega))
          · intro t3 p2 (hp2 : p2 = I3 209 4) _ lm2 (hlm2 : lm2 = I3 209 5) _
            refine And.intro ?_ ?_
            · intro t4
              exact h80 (Or.inr (by omega))
            · intro t4 lm3 (hlm3 : lm3 = I3 209 5) (blm : 0 ≤ lm3 ∧ lm3 ≤ 940)
              refine And.intro blm ?_
              refine And.intro (by decide) ?_
              refine ⟨rfl, x_fi_u (x_fi_u (x_fi_u (x_fi_u hfi rfl) rfl) rfl) rfl, hfl, ?_⟩
              unfold t_tok
              rw [← ha, if_pos (by omega), if_pos (by omega)]
              exact ⟨hlm3.trans e5, fun h => absurd (show (2 : Int) ≤ 1 from h) (by decide), Or.inr (Or.inl ⟨rfl, rfl⟩)⟩
        · intro t2 p (hpq : p = I3 209 4) (bp : 0 ≤ p ∧ p ≤ 940)
          have hlt : I3 209 4 < I 209 3 := Classical.byContradiction (fun q => by
            rw [hpn q] at t2
            exact absurd t2 (by decide))
          refine Or.inl ⟨by omega, ?_⟩
          refine And.intro (show 0 ≤ p + 1 ∧ p + 1 ≤ 940 by omega) ?_
          subst hpq
          exact hinc (Or.inr t2)
    · -- what the first byte is
      obtain ⟨rfl, rfl, rfl, ha, h12, h13, hlim, rfl⟩ := hi
      refine And.intro ⟨rfl, by omega, by omega⟩ ?_
      rintro rv I2 L2 ⟨g1, g2, rfl⟩
      subst g1
      subst g2
      refine And.intro ?_ ?_
      · intro t1
        have hlt : I2 209 4 < I 209 3 := Classical.byContradiction (fun q => by
          rw [hpn q] at t1
          exact absurd t1 (by decide))
        have hck := hpk hlt
        have hbb := r_b_b I (I2 209 4).toNat
        have hl5 : I2 209 4 < I 209 5 := by omega
        have h164 : (t_al (r_pk I2) ∨ t_dg (r_pk I2)) → ∃ (j : Nat) (lv' : List (Nat × xV)), j < 9000 ∧ x_subs lv' [(1, .inl (r_pk I2)), (0, xR 210)] ∧ x_nxI [xR 210] I L j 164 lv' [] I2 L2 := fun hq => ⟨8000, [(0, xR 210), (1, .inl (r_pk I2))], by decide, ⟨rfl, rfl, trivial⟩, hfi, hfl, rfl, hp, Or.inr (Or.inr (Or.inr (Or.inl ⟨rfl, r_pk I2, rfl, rfl, hck, hlt, hq, ha, h12, h13, hl5, rfl⟩)))⟩
        refine And.intro ⟨_, rfl⟩ ?_
        rintro rv I3 L3 ⟨g1, g2, c, hc, rfl⟩
        subst g1
        subst g2
        cases hc
        refine And.intro ?_ ?_
        · intro t2
          refine h164 (Or.inl (Classical.byContradiction (fun q => ?_)))
          rw [if_neg q] at t2
          exact absurd rfl t2
        · intro t2
          have hna : ¬ t_al (r_pk I3) := fun q => by
            rw [if_pos q] at t2
            exact absurd t2 (by decide)
          refine And.intro ⟨_, rfl⟩ ?_
          rintro rv I4 L4 ⟨g1, g2, c, hc, rfl⟩
          subst g1
          subst g2
          cases hc
          refine And.intro ?_ ?_
          · intro t3
            refine h164 (Or.inr (Classical.byContradiction (fun q => ?_)))
            rw [if_neg q] at t3
            exact absurd rfl t3
          · intro t3
            have hnd : ¬ t_dg (r_pk I4) := fun q => by
              rw [if_pos q] at t3
              exact absurd t3 (by decide)
            have h145 : ∀ v : Int, v = (if t_sg (r_pk I4) then 3 else 4) → ∃ (j : Nat) (lv' : List (Nat × xV)), j < 9000 ∧ x_subs lv' [(1, .inl (r_pk I4)), (0, xR 210)] ∧ x_nxI [xR 210] I L j 145 lv' [.inl v, xR 210] I4 L4 := fun v hv => ⟨0, [(0, xR 210), (1, .inl (r_pk I4))], by decide, ⟨rfl, rfl, trivial⟩, hfi, hfl, rfl, hp, Or.inr (Or.inr (Or.inl ⟨rfl, r_pk I4, rfl, by rw [hv], hck, hlt, fun q => by rcases q with q | q; exact hna q; exact hnd q, ha, h12, hl5, rfl⟩))⟩
            refine And.intro ?_ ?_
            · intro t
              exact h145 3 (by rw [if_pos (by omega)])
            intro s1
            refine And.intro ?_ ?_
            · intro t
              exact h145 3 (by rw [if_pos (by omega)])
            intro s2
            refine And.intro ?_ ?_
            · intro t
              exact h145 3 (by rw [if_pos (by omega)])
            intro s3
            refine And.intro ?_ ?_
            · intro t
              exact h145 4 (by rw [if_neg (by omega)])
            intro s4
            refine And.intro ?_ ?_
            · intro t
              exact h145 4 (by rw [if_neg (by omega)])
            · intro s5
              exact h145 3 (by rw [if_pos (by omega)])
      · intro t1
        have hge : ¬ I2 209 4 < I 209 3 := fun q => by
          rw [hpk q] at t1
          have := r_b_b I (I2 209 4).toNat
          omega
        refine And.intro (by decide) ?_
        refine ⟨rfl, x_fi_u hfi rfl, hfl, ?_⟩
        unfold t_tok
        rw [← ha, if_pos (by omega), if_neg (by omega)]
        exact ⟨(show I2 209 12 = I 209 3 by omega), fun h => absurd (show (2 : Int) ≤ 0 from h) (by decide), Or.inl ⟨rfl, rfl⟩⟩
    · -- a sign, or none
      obtain ⟨rfl, c, rfl, rfl, hc2, hlt, hna, ha, h12, hlim, rfl⟩ := hi
      have hend : t_end (r_b I) (I 209 3) (I' 209 4) = I' 209 4 := t_end_end (Or.inr (by rw [← hc2]; exact hna))
      have hbb := r_b_b I (I' 209 4).toNat
      refine And.intro (show 0 ≤ (if t_sg c then (3 : Int) else 4) ∧ (if t_sg c then (3 : Int) else 4) ≤ 4 by split <;> decide) ?_
      refine And.intro (show -2147483648 ≤ c ∧ c ≤ 2147483647 by omega) ?_
      intro p (hpq : p = I' 209 4) (bp : 0 ≤ p ∧ p ≤ 940)
      refine Or.inl ⟨by omega, ?_⟩
      refine And.intro (show 0 ≤ p + 1 ∧ p + 1 ≤ 940 by omega) ?_
      refine ⟨rfl, x_fi_u (x_fi_u (x_fi_u hfi rfl) rfl) rfl, hfl, ?_⟩
      unfold t_tok
      rw [← ha, if_neg (by omega), if_pos hend, ← hc2]
      by_cases hs : t_sg c
      · rw [if_pos hs, if_pos hs]
        exact ⟨h12, fun _ => (show p + 1 = I' 209 4 + 1 by omega), Or.inr (Or.inr (Or.inr (Or.inr ⟨rfl, rfl, rfl⟩)))⟩
      · rw [if_neg hs, if_neg hs]
        exact ⟨h12, fun h => absurd (show (2 : Int) ≤ 1 from h) (by decide), Or.inr (Or.inl ⟨rfl, rfl⟩)⟩
    · -- a run begins
      obtain ⟨rfl, c, rfl, rfl, hc2, hlt, han, ha, h12, h13, hlim, rfl⟩ := hi
      refine And.intro ⟨_, rfl⟩ ?_
      rintro rv I3 L3 ⟨g1, g2, c', hc', rfl⟩
      subst g1
      subst g2
      cases hc'
      refine And.intro (by decide) ?_
      refine ⟨(4 * (I 209 3 - (I3 209 4 + (0 : Nat))) + 3).toNat, [(0, xR 210), (2, .inl (if t_al c then 1 else 0)), (3, .inl 1)], by omega, ⟨rfl, rfl, rfl, trivial⟩, x_fi_u hfi rfl, x_fi_u hfl rfl, rfl, hp, Or.inr (Or.inr (Or.inr (Or.inr ⟨I3 209 4, (if t_al c then 1 else 0), 1, 0, ha, hlim, rfl, rfl, ⟨⟨by omega, by omega, hlt, by omega⟩, by rw [← hc2]; exact han, ?_, h12, ?_, fun j hj => absurd hj (Nat.not_lt_zero j), ?_⟩, ⟨rfl, rfl⟩, Or.inl ⟨rfl, ⟨by rw [← hc2], Or.inr rfl, fun _ => ?_, fun _ => rfl⟩, by omega⟩⟩)))⟩
      · show I3 209 4 = I3 209 4 + ((0 : Nat) : Int)
        omega
      · exact h13
      · rw [show I3 209 4 + ((0 : Nat) : Int) = I3 209 4 by omega]
      · by_cases hq : t_al c
        · exact Or.inl ⟨if_pos hq, rfl⟩
        · exact Or.inr ⟨if_neg hq, rfl⟩
    · -- within the run
      obtain ⟨a, sm, al, k, ha, hal5, rfl, rfl, hr, hwv, h181 | h201 | h222 | h298⟩ := hi
      · obtain ⟨rfl, hal, hm⟩ := h181
        obtain ⟨hra, hrf, hr4, hr12, hr13, hrj, hre⟩ := id hr
        have hidx : (I' 209 4).toNat = a.toNat + k := by omega
        have hin : (t_al (r_pk I') ∨ t_dg (r_pk I')) → ∃ (j : Nat) (lv' : List (Nat × xV)), j < m ∧ x_subs lv' [(0, xR 210), (2, .inl sm), (3, .inl al)] ∧ x_nxI [xR 210] I L j 201 lv' [] I' L' := fun hq => by
          have hlt : I' 209 4 < I 209 3 := Classical.byContradiction (fun q => by
            rw [hpn q] at hq
            rcases hq with hq | hq <;> exact absurd hq (by decide))
          have hck := hpk hlt
          rw [hidx] at hck
          rw [hck] at hq
          exact ⟨(4 * (I 209 3 - (a + k)) + 2).toNat, [(0, xR 210), (2, .inl sm), (3, .inl al)], by omega, ⟨rfl, rfl, rfl, trivial⟩, hfi, hfl, rfl, hp, Or.inr (Or.inr (Or.inr (Or.inr ⟨a, sm, al, k, ha, hal5, rfl, rfl, hr, hwv, Or.inr (Or.inl ⟨rfl, hal, by omega, hq, by omega⟩)⟩)))⟩
        refine And.intro ⟨rfl, by omega, by omega⟩ ?_
        rintro rv I2 L2 ⟨g1, g2, rfl⟩
        subst g1
        subst g2
        refine And.intro ⟨_, rfl⟩ ?_
        rintro rv I3 L3 ⟨g1, g2, c, hc', rfl⟩
        subst g1
        subst g2
        cases hc'
        refine And.intro ?_ ?_
        · intro t1
          refine hin (Or.inl (Classical.byContradiction (fun q => ?_)))
          rw [if_neg q] at t1
          exact absurd rfl t1
        · intro t1
          have hna : ¬ t_al (r_pk I3) := fun q => by
            rw [if_pos q] at t1
            exact absurd t1 (by decide)
          refine And.intro ⟨rfl, by omega, by omega⟩ ?_
          rintro rv I4 L4 ⟨g1, g2, rfl⟩
          subst g1
          subst g2
          refine And.intro ⟨_, rfl⟩ ?_
          rintro rv I5 L5 ⟨g1, g2, c, hc', rfl⟩
          subst g1
          subst g2
          cases hc'
          refine And.intro ?_ ?_
          · intro t2
            have hnd : ¬ t_dg (r_pk I5) := fun q => by
              rw [if_pos q] at t2
              exact absurd t2 (by decide)
            refine ⟨0, [(0, xR 210), (2, .inl sm), (3, .inl al)], by omega, ⟨rfl, rfl, rfl, trivial⟩, hfi, hfl, rfl, hp, Or.inr (Or.inr (Or.inr (Or.inr ⟨a, sm, al, k, ha, hal5, rfl, rfl, hr, hwv, Or.inr (Or.inr (Or.inr ⟨rfl, hal, ?_, rfl⟩))⟩)))⟩
            rw [hre]
            by_cases hlt : I5 209 4 < I 209 3
            · have hck := hpk hlt
              refine t_end_end (Or.inr ?_)
              rw [← hr4, ← hck]
              rintro (q | q)
              · exact hna q
              · exact hnd q
            · exact t_end_end (Or.inl (by omega))
          · intro t2
            refine hin (Or.inr (Classical.byContradiction (fun q => ?_)))
            rw [if_neg q] at t2
            exact absurd rfl t2
      · obtain ⟨rfl, hal, hlt, han, hm⟩ := h201
        obtain ⟨hra, hrf, hr4, hr12, hr13, hrj, hre⟩ := id hr
        obtain ⟨hsm, hal01, hali⟩ := hal
        have hidx : (I' 209 4).toNat = a.toNat + k := by omega
        have hck := hpk (by omega)
        rw [hidx] at hck
        have hb := t_nl_b (b := r_b I) (x := a) k
        have hnl : t_nl (r_b I) a (k + 1) = t_nl (r_b I) a k + (if t_al (r_b I (a.toNat + k)) then 1 else 0) := rfl
        have hsm01 : sm = 0 ∨ sm = 1 := by
          rw [hsm]
          split
          · exact Or.inr rfl
          · exact Or.inl rfl
        have h222 : ∀ al' : Int, (al' = 0 ∨ al' = 1) → (al' = 1 ↔ ((sm = 1 ∧ t_nl (r_b I) a (k + 1) = ((k + 1 : Nat) : Int)) ∨ (sm = 0 ∧ t_nl (r_b I) a (k + 1) = 0))) → ∃ (j : Nat) (lv' : List (Nat × xV)), j < m ∧ x_subs lv' [(3, .inl al'), (0, xR 210), (2, .inl sm)] ∧ x_nxI [xR 210] I L j 222 lv' [] I' L' := fun al' h1 h2 => ⟨(4 * (I 209 3 - (a + k)) + 1).toNat, [(0, xR 210), (2, .inl sm), (3, .inl al')], by omega, ⟨rfl, rfl, rfl, trivial⟩, hfi, hfl, rfl, hp, Or.inr (Or.inr (Or.inr (Or.inr ⟨a, sm, al', k, ha, hal5, rfl, rfl, hr, hwv, Or.inr (Or.inr (Or.inl ⟨rfl, ⟨hsm, h1, h2⟩, hlt, han, by omega⟩))⟩)))⟩
        refine And.intro ?_ ?_
        · intro t1
          refine h222 0 (Or.inl rfl) ⟨fun q => absurd q (by decide), fun q => ?_⟩
          have h9 : ¬ ((sm = 1 ∧ t_nl (r_b I) a k = (k : Int)) ∨ (sm = 0 ∧ t_nl (r_b I) a k = 0)) := fun q => by
            have := hali.mpr q
            omega
          rw [hnl] at q
          split at q <;> omega
        · intro t1
          have h1 : al = 1 := by omega
          have h9 := hali.mp h1
          refine And.intro ⟨rfl, by omega, by omega⟩ ?_
          rintro rv I2 L2 ⟨g1, g2, rfl⟩
          subst g1
          subst g2
          refine And.intro ⟨_, rfl⟩ ?_
          rintro rv I3 L3 ⟨g1, g2, c, hc', rfl⟩
          subst g1
          subst g2
          cases hc'
          rw [hck]
          by_cases hca : t_al (r_b I (a.toNat + k))
          · rw [if_pos hca]
            rw [if_pos hca] at hnl
            refine And.intro ?_ ?_
            · intro t2
              exact h222 0 (Or.inl rfl) ⟨fun q => absurd q (by decide), fun q => by omega⟩
            · intro t2
              exact h222 1 (Or.inr rfl) ⟨fun _ => by omega, fun _ => rfl⟩
          · rw [if_neg hca]
            rw [if_neg hca] at hnl
            refine And.intro ?_ ?_
            · intro t2
              exact h222 0 (Or.inl rfl) ⟨fun q => absurd q (by decide), fun q => by omega⟩
            · intro t2
              exact h222 1 (Or.inr rfl) ⟨fun _ => by omega, fun _ => rfl⟩
      · obtain ⟨rfl, hal, hlt, han, hm⟩ := h222
        obtain ⟨hra, hrf, hr4, hr12, hr13, hrj, hre⟩ := id hr
        obtain ⟨hw, hv⟩ := hwv
        have hidx : (I' 209 4).toNat = a.toNat + k := by omega
        have hck := hpk (by omega)
        rw [hidx] at hck
        have hbb := r_b_b I (a.toNat + k)
        have hfin : ∀ I'' L'' : xF, x_fi x_sN I I'' → x_fi x_sW L L'' → I'' 209 4 = a + k + 1 → I'' 209 12 = a → I'' 209 13 = k + 1 → r_wv (r_b I) a (k + 1) I'' L'' → ∃ (j : Nat) (lv' : List (Nat × xV)), j < m ∧ x_subs lv' [(0, xR 210), (2, .inl sm), (3, .inl al)] ∧ x_nxI [xR 210] I L j 181 lv' [] I'' L'' := fun I'' L'' f1 f2 f4 f12 f13 fw => by
          refine ⟨(4 * (I 209 3 - (a + ((k + 1 : Nat) : Int))) + 3).toNat, [(0, xR 210), (2, .inl sm), (3, .inl al)], by omega, ⟨rfl, rfl, rfl, trivial⟩, f1, f2, rfl, hp, Or.inr (Or.inr (Or.inr (Or.inr ⟨a, sm, al, k + 1, ha, hal5, rfl, rfl, ⟨⟨by omega, by omega, by omega, by omega⟩, hrf, by omega, f12, by omega, fun j hj => ?_, ?_⟩, fw, Or.inl ⟨rfl, hal, by omega⟩⟩)))⟩
          · rcases Nat.lt_or_ge j k with g | g
            · exact hrj j g
            · obtain rfl : j = k := by omega
              exact han
          · rw [hre, t_end_go (by omega) (by rw [show (a + (k : Int)).toNat = a.toNat + k by omega]; exact han), show a + (k : Int) + 1 = a + ((k + 1 : Nat) : Int) by omega]
        intro s (hs : s = I' 209 13) _
        refine And.intro ?_ ?_
        · intro t1 s2 (hs2 : s2 = I' 209 13) _
          refine And.intro ?_ ?_
          · intro t2 s3 (hs3 : s3 = I' 209 13) _
            refine Or.inl ⟨by omega, ?_⟩
            refine And.intro (show -2147483648 ≤ s3 + 1 ∧ s3 + 1 ≤ 2147483647 by omega) ?_
            intro p (hpq : p = I' 209 4) (bp : 0 ≤ p ∧ p ≤ 940)
            refine Or.inl ⟨by omega, ?_⟩
            refine And.intro (show 0 ≤ p + 1 ∧ p + 1 ≤ 940 by omega) ?_
            refine hfin _ _ (x_fi_u (x_fi_u hfi rfl) rfl) hfl (show p + 1 = a + k + 1 by omega) hr12 (show s3 + 1 = (k : Int) + 1 by omega) ⟨?_, ?_⟩
            · rw [show min (k + 1) 7 = min k 7 by omega]
              exact hw
            · rw [show min (k + 1) 3 = min k 3 by omega]
              exact hv
          · intro t2
            exact absurd t2 (by omega)
        · intro t1 w (hwq : w = L' 209 17)
          have hwb := t_w_b (b := r_b I) (x := a) (r_b_b I) k
          have hw6 := x_p256 (k := k) (by omega)
          have hwk : w = t_w (r_b I) a k := by rw [hwq, hw, show min k 7 = k by omega]
          refine And.intro ⟨rfl, by omega, by omega⟩ ?_
          refine And.intro ⟨rfl, by omega, by omega⟩ ?_
          rintro rv I2 L2 ⟨g1, g2, rfl⟩
          subst g1
          subst g2
          rw [hck]
          refine And.intro ⟨by omega, by omega, by omega, by omega, by omega⟩ ?_
          have hw7 : w * 256 + r_b I (a.toNat + k) = t_w (r_b I) a (min (k + 1) 7) := by
            rw [show min (k + 1) 7 = k + 1 by omega, hwk]
            rfl
          intro s2 (hs2 : s2 = I2 209 13) _
          refine And.intro ?_ ?_
          · intro t2 s3 (hs3 : s3 = I2 209 13) _
            refine Or.inl ⟨by omega, ?_⟩
            refine And.intro (show -2147483648 ≤ s3 + 1 ∧ s3 + 1 ≤ 2147483647 by omega) ?_
            intro p (hpq : p = I2 209 4) (bp : 0 ≤ p ∧ p ≤ 940)
            refine Or.inl ⟨by omega, ?_⟩
            refine And.intro (show 0 ≤ p + 1 ∧ p + 1 ≤ 940 by omega) ?_
            refine hfin _ _ (x_fi_u (x_fi_u hfi rfl) rfl) (x_fi_u hfl rfl) (show p + 1 = a + k + 1 by omega) hr12 (show s3 + 1 = (k : Int) + 1 by omega) ⟨hw7, ?_⟩
            rw [show min (k + 1) 3 = min k 3 by omega]
            exact hv
          · intro t2 v (hvq : v = I2 209 14) _
            have hvk : v = t_val (r_b I) a k := by rw [hvq, hv, show min k 3 = k by omega]
            have hvb := t_val_c (b := r_b I) (x := a) k hrj
            have hv2 := x_pow10 (k := k) (by omega)
            refine Or.inl ⟨by omega, ?_⟩
            refine And.intro ⟨rfl, show 0 ≤ I2 209 4 by omega, show I2 209 3 ≤ 940 by omega⟩ ?_
            rintro rv I3 L3 ⟨g1, g2, rfl⟩
            subst g1
            subst g2
            rw [hck]
            refine Or.inl ⟨by omega, ?_⟩
            refine Or.inl ⟨by omega, ?_⟩
            refine And.intro (show -2147483648 ≤ 10 * v + r_b I (a.toNat + k) - 48 ∧ 10 * v + r_b I (a.toNat + k) - 48 ≤ 2147483647 by omega) ?_
            intro s3 (hs3 : s3 = I3 209 13) _
            refine Or.inl ⟨by omega, ?_⟩
            refine And.intro (show -2147483648 ≤ s3 + 1 ∧ s3 + 1 ≤ 2147483647 by omega) ?_
            intro p (hpq : p = I3 209 4) (bp : 0 ≤ p ∧ p ≤ 940)
            refine Or.inl ⟨by omega, ?_⟩
            refine And.intro (show 0 ≤ p + 1 ∧ p + 1 ≤ 940 by omega) ?_
            refine hfin _ _ (x_fi_u (x_fi_u (x_fi_u hfi rfl) rfl) rfl) (x_fi_u hfl rfl) (show p + 1 = a + k + 1 by omega) hr12 (show s3 + 1 = (k : Int) + 1 by omega) ⟨hw7, ?_⟩
            rw [show min (k + 1) 3 = k + 1 by omega]
            show 10 * v + r_b I (a.toNat + k) - 48 = t_val (r_b I) a k * 10 + (r_b I (a.toNat + k) - 48)
            omega
      · obtain ⟨rfl, hal, he, rfl⟩ := h298
        obtain ⟨hra, hrf, hr4, hr12, hr13, hrj, hre⟩ := id hr
        obtain ⟨hsm, hal01, hali⟩ := hal
        obtain ⟨hw, hv⟩ := hwv
        have hk1 : 1 ≤ k := by
          have h1 := t_end_go (b := r_b I) (n := I 209 3) (x := a) (by omega) hrf
          have h2 := t_end_le (b := r_b I) (n := I 209 3) (x := a + 1) (by omega)
          omega
        obtain ⟨k0, rfl⟩ : ∃ k0, k = k0 + 1 := ⟨k - 1, by omega⟩
        have hnf := t_nl_first (b := r_b I) (x := a) k0
        have hb := t_nl_b (b := r_b I) (x := a) (k0 + 1)
        have htok : t_tok (r_b I) (I 209 3) (I 209 5) (I 209 4) = (if t_nl (r_b I) a (k0 + 1) = ((k0 + 1 : Nat) : Int) ∧ k0 + 1 ≤ 7 then (2, a, a + ((k0 + 1 : Nat) : Int), t_sp (r_b I) a (k0 + 1)) else if t_nl (r_b I) a (k0 + 1) = 0 ∧ k0 + 1 ≤ 3 then (4, a, a + ((k0 + 1 : Nat) : Int), t_val (r_b I) a (k0 + 1)) else (1, a, a + ((k0 + 1 : Nat) : Int), 0)) := by
          unfold t_tok
          rw [← ha, if_neg (by omega), he, if_neg (by omega), show (a + ((k0 + 1 : Nat) : Int) - a).toNat = k0 + 1 by omega]
        have hnone : ¬ (t_nl (r_b I) a (k0 + 1) = ((k0 + 1 : Nat) : Int) ∧ k0 + 1 ≤ 7) → ¬ (t_nl (r_b I) a (k0 + 1) = 0 ∧ k0 + 1 ≤ 3) → xo_next [xR 210] I L none (x_u I' 209 11 4) L' := fun q1 q2 => by
          refine ⟨rfl, x_fi_u hfi rfl, hfl, ?_⟩
          rw [htok, if_neg q1, if_neg q2]
          exact ⟨hr12, fun h => absurd (show (2 : Int) ≤ 1 from h) (by decide), Or.inr (Or.inl ⟨rfl, rfl⟩)⟩
        have hsmc : (sm = 1 ∧ t_al (r_b I a.toNat)) ∨ (sm = 0 ∧ ¬ t_al (r_b I a.toNat)) := by
          by_cases q : t_al (r_b I a.toNat)
          · rw [if_pos q] at hsm
            exact Or.inl ⟨hsm, q⟩
          · rw [if_neg q] at hsm
            exact Or.inr ⟨hsm, q⟩
        refine And.intro ?_ ?_
        · intro t1
          refine And.intro (by decide) ?_
          have h9 : ¬ ((sm = 1 ∧ t_nl (r_b I) a (k0 + 1) = ((k0 + 1 : Nat) : Int)) ∨ (sm = 0 ∧ t_nl (r_b I) a (k0 + 1) = 0)) := fun q => by
            have := hali.mpr q
            omega
          rcases hsmc with ⟨c1, c2⟩ | ⟨c1, c2⟩
          · have := hnf.1 c2
            exact hnone (fun q => h9 (Or.inl ⟨c1, q.1⟩)) (fun q => by omega)
          · have := hnf.2 c2
            exact hnone (fun q => by omega) (fun q => h9 (Or.inr ⟨c1, q.1⟩))
        · intro t1 s (hs : s = I' 209 13) _
          have h9 := hali.mp (by omega)
          rcases hsmc with ⟨c1, c2⟩ | ⟨c1, c2⟩
          · subst c1
            have hnk : t_nl (r_b I) a (k0 + 1) = ((k0 + 1 : Nat) : Int) := by
              rcases h9 with h9 | h9
              · exact h9.2
              · exact absurd h9.1 (by decide)
            refine And.intro (fun q => absurd q (by decide)) (fun _ => ?_)
            refine And.intro ?_ ?_
            · intro t2
              refine And.intro (fun q => absurd q (by decide)) (fun _ => ?_)
              refine And.intro (by decide) ?_
              refine ⟨rfl, x_fi_u hfi rfl, hfl, ?_⟩
              have hk7 : k0 + 1 ≤ 7 := by omega
              rw [htok, if_pos ⟨hnk, hk7⟩]
              have hg := t_gw (b := r_b I) (x := a) hnk hk7
              refine ⟨hr12, fun _ => hr4, Or.inr (Or.inr (Or.inl ⟨rfl, rfl, hg.1, ?_⟩))⟩
              rw [hg.2, ← show min (k0 + 1) 7 = k0 + 1 by omega]
              exact hw
            · intro t2
              refine And.intro (by decide) ?_
              exact hnone (fun q => by omega) (fun q => by omega)
          · subst c1
            have hnk : t_nl (r_b I) a (k0 + 1) = 0 := by
              rcases h9 with h9 | h9
              · exact absurd h9.1 (by decide)
              · exact h9.2
            refine And.intro (fun _ => ?_) (fun q => absurd rfl q)
            refine And.intro ?_ ?_
            · intro t2
              refine And.intro (fun _ => ?_) (fun q => absurd rfl q)
              refine And.intro (by decide) ?_
              refine ⟨rfl, x_fi_u hfi rfl, hfl, ?_⟩
              have hk3 : k0 + 1 ≤ 3 := by omega
              rw [htok, if_neg (by omega), if_pos ⟨hnk, hk3⟩]
              refine ⟨hr12, fun _ => hr4, Or.inr (Or.inr (Or.inr (Or.inl ⟨rfl, rfl, ?_⟩)))⟩
              rw [← show min (k0 + 1) 3 = k0 + 1 by omega]
              exact hv
            · intro t2
              refine And.intro (by decide) ?_
              exact hnone (fun q => by omega) (fun q => by omega)
end XM2
