section XS7
variable {EX : (Nat → Prop) → State → Heap → Prop} {l : Launch} {kc : Nat → ClassId} {D : va_G} {xb : Nat} {ad : Nat → Option Nat}
def xr_cap3 (kc : Nat → ClassId) (ad : Nat → Option Nat) : xPre := fun za I _ => za = [xR 210] ∧ (0 ≤ I 209 2 ∧ I 209 2 ≤ 940) ∧ goI kc ad I
def xo_cap3 : xPost := fun _ I L rv I' L' => r_cap (p_text (r_b I) (I 209 2)) rv I I' ∧ r_cap3 (p_text (r_b I) (I 209 2)) I L I' L' ∧ ∀ r k, kv_t r k = true → r ≠ 214 → L' r k = L r k
def xr_ln3 (kc : Nat → ClassId) (ad : Nat → Option Nat) : xPre := fun za I L => r_pre0 za I L ∧ za = [xR 210] ∧ goI kc ad I
def xo_ln3 : xPost := fun za I L rv I' L' => r_post0 p_line za I L rv I' L' ∧ (∀ r k, xy_c r k = true → y_in yk_281.2.2.2.2.1 r k = false → I' r k = I r k) ∧ ∀ r k, kv_t r k = true → L' r k = L r k
def ct_cap3 (kc : Nat → ClassId) (ad : Nat → Option Nat) : List (Nat × Nat × xPre × xPost) := [(165, 0, xr_tn2, xo_tn2), (171, 0, xr_m, xo_cl), (175, 1, xr_next, xo_next), (188, 5, xr_ln3 kc ad, xo_ln3), (179, 2, xr_sg, xo_sg)]
theorem ct_cap3_ok (hE : z_EX EX) : x_ctok EX l zTB zNT kc D vwCl xb yTY ad yP0 (x_ctl (ct_cap3 kc ad)) := x_ctl_cons (xk_tn2 hE) (x_ctl_cons (xk_cl hE) (x_ctl_cons (xk_next hE) (x_ctl_cons (x_andYV (K := yk_281) (M := ym_X12_line) hE (xk_ln hE) (fun _ => y_consV hE (j := 188) (show yk_281 ∈ y_cget yCTabV 188 from List.mem_cons_self)) rfl rfl (Or.inr (Or.inr rfl)) rfl (by decide +kernel) rfl (by decide) (by decide) (fun av h => x_ar1 h)) (x_ctl_cons (xk_sg hE) x_ctl_nil))))
def x_cpI3 (za : List xV) (I L : xF) (m pc : Nat) (lv : List (Nat × xV)) (sv : List xV) (I' L' : xF) : Prop := sv = [] ∧ za = [xR 210] ∧ (∀ r k, r < 209 → xy_c r k = true → I' r k = I r k) ∧
  ((pc = 35 ∧ lv = [(0, xR 210)] ∧ (∀ r k, kv_t r k = true → L' r k = L r k) ∧ (∀ t, t < 62 → I' 211 t = I 211 t) ∧ ∃ f q σ T pos, r_all (r_b I) (I 209 2) q σ T I' L' ∧ p_inv (r_b I) (I 209 2) f q σ T pos ∧ m = 2000 + f) ∨
   (∃ (q : Int) (σ : pS) (i : Nat), p_text (r_b I) (I 209 2) = .inr (q, σ) ∧ (I' 209 19 = q ∧ I' 209 15 = 0) ∧ rs_hf σ I' ∧ ((∀ r k, kv_t r k = true → r ≠ 214 → L' r k = L r k) ∧ rs_ln σ L') ∧ lv = [(0, xR 210), (1, .inl (i : Int))] ∧ ((pc = 80 ∧ i ≤ 299 ∧ m = 1000 + (299 - i) ∧ ∀ t, t < i → t < 62 → I' 211 t = I' 212 t) ∨ ((∀ t, t < 62 → I' 211 t = I' 212 t) ∧ ((pc = 117 ∧ i ≤ 22 ∧ m = 500 + (22 - i) ∧ ∀ t, t < i → L' 214 t = L' 214 (22 + t)) ∨ (pc = 146 ∧ i ≤ 8 ∧ m = 8 - i ∧ ∀ t, t < 22 → L' 214 t = L' 214 (22 + t)))))))
set_option maxRecDepth 20000 in
set_option maxHeartbeats 8000000 in
theorem xk_cap3 (hE : z_EX EX) : x_Ok EX l zTB zNT kc D vwCl xb yTY ad yP0 190 6 (xr_cap3 kc ad) xo_cap3 := by
  refine x_loop (M := ym_X12_capital) hE y_prog 90 rfl (by decide) (ct_cap3_ok hE) (fun za I L ⟨h, _⟩ => by subst h; exact (by decide : 1 ≤ 2)) x_cutC x_cpI3 (fun za I L ⟨h, ⟨h0, h1⟩, hg⟩ => ?_) (fun za I L ⟨_, _, hg⟩ m pc lv sv I' L' hc hi => ?_)
  · subst h
    refine And.intro (by decide) ?_
    refine And.intro ⟨900, rfl, by decide, by decide⟩ ?_
    rintro rv I1 L1 ⟨m, hm, rfl, rfl, rfl⟩
    cases hm
    refine And.intro (by decide) ?_
    refine And.intro (by decide) ?_
    refine And.intro (by decide) ?_
    refine And.intro rfl ?_
    rintro rv I2 L2 ⟨rfl, rfl, hfi, hz⟩
    have e : ∀ k, I2 209 k = x_u (x_u (x_u (x_u (x_u (x_u (x_u (x_u I 209 0 0) 209 3 (I 209 2)) 209 2 0) 209 4 0) 209 5 900) 209 15 0) 209 19 0) 209 20 0 209 k := fun k => hfi 209 k rfl
    have e3 : I2 209 3 = I 209 2 := e 3
    have e4 : I2 209 4 = 0 := e 4
    have e5 : I2 209 5 = 900 := e 5
    have e19 : I2 209 19 = 0 := e 19
    have e20 : I2 209 20 = 0 := e 20
    have eb : r_b I2 = r_b I := funext (fun j => by unfold r_b; rw [hfi 210 j rfl]; rfl)
    refine And.intro ⟨rfl, by omega, by omega, by omega, by omega, by omega⟩ ?_
    rintro rv I3 L3 ⟨rfl, f1, f2, f3⟩
    rw [eb, e3, e4, e5] at f3
    have f12 : ∀ k, I3 212 k = I2 212 k := fun k => f1 212 k rfl
    refine ⟨3000, [(0, xR 210)], ⟨rfl, trivial⟩, rfl, rfl, fun r k hr _ => ?_, Or.inl ⟨rfl, rfl, fun r k ht => f2 r k (kv_sW ht), fun t _ => ?_, 1000, 0, p_s0, _, 0, ⟨⟨(r_b_fi f1).trans eb, (f1 209 3 rfl).trans e3, (f1 209 5 rfl).trans e5, ⟨h0, h1⟩, (f1 209 19 rfl).trans e19, (f1 209 15 rfl).trans (e 15)⟩, f3, fun hq => ?_, ⟨(f12 0).trans (hz 0 (by decide)), (f12 1).trans (hz 1 (by decide)), (f12 2).trans (hz 2 (by decide)), (f12 7).trans (hz 7 (by decide))⟩, ⟨by decide, by decide, by decide, by decide⟩, ⟨fun i hi => absurd hi (Nat.not_lt_zero i), fun i hi => absurd hi (Nat.not_lt_zero i), fun i hi => absurd hi (Nat.not_lt_zero i)⟩, fun i hi => absurd hi (Nat.not_lt_zero i), ⟨by rw [f1 209 20 rfl]; omega, by rw [f1 209 20 rfl]; omega, fun j hj => by rw [f1 209 20 rfl, e20]; exact Nat.zero_testBit _⟩, fun j hj => ?_, fun c hc9 => absurd hc9 (Nat.not_lt_zero c)⟩, p_inv_0 h0 h1, rfl⟩⟩
    · have hn : r ≠ 209 := by omega
      rw [f1 r k (x_sN_lt hr), hfi r k (x_s212_lt hr), x_u_r hn, x_u_r hn, x_u_r hn, x_u_r hn, x_u_r hn, x_u_r hn, x_u_r hn, x_u_r hn]
    · rw [f1 211 t rfl, hfi 211 t rfl]
      rfl
    · have := t_tok_pos (b := r_b I) (most := 900) (Int.le_refl 0) h0 hq
      omega
    · rw [f12]
      match j, hj with
      | 0, _ => exact hz 3 (by decide)
      | 1, _ => exact hz 4 (by decide)
      | 2, _ => exact hz 5 (by decide)
      | 3, _ => exact hz 6 (by decide)
      | j + 4, hj => omega
  · obtain ⟨rfl, rfl, hFr, h35 | ⟨q, σ, i, htx, h19, hst, ⟨hLn, hln⟩, rfl, h80 | ⟨h11, h117 | h146⟩⟩⟩ := hi
    · obtain ⟨rfl, rfl, hLs, h11, f, q, σ, T, pos, h, hinv, rfl⟩ := h35
      intro k (hk : k = I' 209 11) _
      refine And.intro ?_ ?_
      · intro t1
        have hT := (r_tok_end h.2.1).mp (by omega)
        obtain ⟨s1, s2, s3, _, _, s6⟩ := h.2.2.2
        exact ⟨1299, [(0, xR 210), (1, .inl ((0 : Nat) : Int))], by omega, ⟨rfl, rfl, trivial⟩, rfl, rfl, hFr, Or.inr ⟨q, σ, 0, p_inv_end hinv hT, h.1.2.2.2.2, ⟨s1, s6.1, s2.2.2.1, s6.2⟩, ⟨fun r k ht _ => hLs r k ht, s3, s2.1, s2.2.1, s2.2.2.1⟩, rfl, Or.inl ⟨rfl, by omega, rfl, fun t ht => absurd ht (Nat.not_lt_zero t)⟩⟩⟩
      · intro t1
        have hT : T.1 ≠ 0 := fun q => t1 (by have := (r_tok_end h.2.1).mpr q; omega)
        refine And.intro ⟨⟨rfl, _, _, _, _, _, h⟩, rfl, goI_fr hg (fun r hr k hc => hFr r k (go_lt r hr) hc)⟩ ?_
        rintro rv I1 L1 ⟨hp, hfr1, hfl1⟩
        have hLs1 : ∀ r k, kv_t r k = true → L1 r k = L r k := fun r k ht => (hfl1 r k ht).trans (hLs r k ht)
        have hp1 := hp _ _ _ _ _ h
        have hFr1 : ∀ r k, r < 209 → xy_c r k = true → I1 r k = I r k := fun r k hr hc => (hfr1 r k hc (xs_281lt hr)).trans (hFr r k hr hc)
        have h11a : ∀ t, t < 62 → I1 211 t = I 211 t := fun t ht => (hfr1 211 t (xs_211 ⟨t, ht⟩) (xy_noreg (by decide +kernel) t)).trans (h11 t ht)
        rcases hr : p_line (r_b I) (I 209 2) σ T with ⟨at0, f0⟩ | ⟨σ1, T1⟩
        · rw [hr] at hp1
          obtain ⟨rfl, l1, l2⟩ := hp1
          refine And.intro (fun _ => ?_) (fun q => absurd rfl q)
          intro z (hz : z = I1 209 16) (bz : 0 ≤ z ∧ z ≤ 940)
          refine Or.inl ⟨by omega, ?_⟩
          unfold xo_cap3
          rw [p_inv_bad hinv hT hr]
          exact ⟨⟨by rw [hz, l2], l1, h11a⟩, fun k hk => hLs1 214 k (kv_22 ⟨k, hk⟩).2.2.2.1, fun r k ht _ => hLs1 r k ht⟩
        · rw [hr] at hp1
          obtain ⟨rfl, hc1⟩ := hp1
          refine And.intro (fun q => absurd q (by decide)) (fun _ => ?_)
          refine And.intro ⟨59, rfl, fun hk5 => r_all_bh hc1 (by have := (r_tok_sign hc1.2.1).1.mp hk5; omega)⟩ ?_
          rintro rv I2 L2 ⟨x, hx, ⟨g1, g2, rfl, hadv⟩ | ⟨g1, rfl, g3, g4⟩⟩
          · cases hx
            have h5 := (r_tok_sign hc1.2.1).1.mp g1
            have h59 := (r_tok_sign hc1.2.1).2 g1
            have hc2 := r_all_next (by omega) hc1 hadv
            obtain ⟨f', rfl, hinv'⟩ := p_inv_go hinv hT hr ⟨h5, by omega⟩
            obtain ⟨⟨a1, a2, a3, a4, a5⟩, c2, c3, c4⟩ := hc2
            have hq := hinv.2.2.1
            have hpo := hinv.2.1
            refine And.intro (fun _ => ?_) (fun q => absurd q (by decide))
            intro z2 (hz2 : z2 = I2 209 19) _
            have a51 := a5.1
            refine Or.inl ⟨by omega, ?_⟩
            refine And.intro (show -2147483648 ≤ z2 + 1 ∧ z2 + 1 ≤ 2147483647 by omega) ?_
            refine ⟨2000 + f', [(0, xR 210)], by omega, ⟨rfl, trivial⟩, rfl, rfl, fun r k hr2 hc9 => ?_, Or.inl ⟨rfl, rfl, fun r k ht => (hadv.2.2.1 r k (kv_sW ht)).trans (hLs1 r k ht), fun t ht => ?_, f', q + 1, σ1, _, T1.2.2.1, ⟨⟨a1, a2, a3, a4, (show z2 + 1 = q + 1 by omega), a5.2⟩, c2, c3, c4⟩, hinv', rfl⟩⟩
            · rw [x_u_r (show r ≠ 209 by omega), hadv.2.1 r k (x_sN_lt hr2)]
              exact hFr1 r k hr2 hc9
            · show I2 211 t = _
              rw [hadv.2.1 211 t rfl]
              exact h11a t ht
          · cases hx
            subst g3
            subst g4
            refine And.intro (fun q => absurd rfl q) (fun _ => ?_)
            intro z (hz : z = I1 209 12) (bz : 0 ≤ z ∧ z ≤ 940)
            refine Or.inl ⟨by omega, ?_⟩
            unfold xo_cap3
            rw [p_inv_bad2 hinv hT hr (fun q => g1 ⟨(r_tok_sign hc1.2.1).1.mpr q.1, by rw [(r_tok_sign hc1.2.1).2 ((r_tok_sign hc1.2.1).1.mpr q.1)]; exact q.2⟩)]
            exact ⟨⟨by rw [hz, hc1.2.1.1], rfl, h11a⟩, fun k hk => hLs1 214 k (kv_22 ⟨k, hk⟩).2.2.2.1, fun r k ht _ => hLs1 r k ht⟩
    · obtain ⟨rfl, hi, rfl, h11⟩ := h80
      have hti : ((i : Int)).toNat = i := by omega
      refine And.intro ?_ ?_
      · intro t1
        exact ⟨522, [(0, xR 210), (1, .inl ((0 : Nat) : Int))], by omega, ⟨rfl, rfl, trivial⟩, rfl, rfl, hFr, Or.inr ⟨q, σ, 0, htx, h19, hst, ⟨hLn, hln⟩, rfl, Or.inr ⟨fun t ht => h11 t (by omega) ht, Or.inl ⟨rfl, by omega, rfl, fun t ht => absurd ht (Nat.not_lt_zero t)⟩⟩⟩⟩
      · intro t1
        refine And.intro ?_ ?_
        · intro t2
          refine And.intro (show 0 ≤ (i : Int) ∧ (i : Int) < 299 by omega) ?_
          refine And.intro (fun w hw => ?_) ?_
          · have hw : y_seg x_sgS ((i : Int)).toNat = some w := hw
            rw [hti, show i = 62 + (i - 62) by omega] at hw
            exact x_bnd_ok (x_sgS0 ⟨i - 62, by omega⟩) w hw
          have hA : ∀ t, t < i + 1 → t < 62 → x_u I' 211 ((i : Int)).toNat 0 211 t = I' 212 t := fun t ht ht2 => by
            rw [x_u_if, if_neg (by omega)]
            exact h11 t (by omega) ht2
          exact Or.inl ⟨by omega, 1000 + (299 - (i + 1)), [(0, xR 210), (1, .inl ((i + 1 : Nat) : Int))], by omega, ⟨rfl, rfl, trivial⟩, rfl, rfl, (fun r k hr2 hc9 => (x_u_r (show r ≠ 211 by omega)).trans (hFr r k hr2 hc9)), Or.inr ⟨q, σ, i + 1, htx, h19, hst, ⟨hLn, hln⟩, rfl, Or.inl ⟨rfl, by omega, rfl, hA⟩⟩⟩
        · intro t2
          refine And.intro (show 0 ≤ (i : Int) ∧ (i : Int) < 62 by omega) ?_
          intro z hz0 hsz
          have hz0 : z = I' 212 i := hz0
          refine And.intro (show 0 ≤ (i : Int) ∧ (i : Int) < 299 by omega) ?_
          refine And.intro (fun w hw => ?_) ?_
          · have hw : y_seg x_sgS ((i : Int)).toNat = some w := hw
            have h9 : y_seg x_sgS ((i : Int)).toNat = y_seg x_sgH ((i : Int)).toNat := by rw [hti]; exact x_sgSH ⟨i, by omega⟩
            rw [h9] at hw
            exact hsz w hw
          have hA : ∀ t, t < i + 1 → t < 62 → x_u I' 211 ((i : Int)).toNat z 211 t = I' 212 t := fun t ht ht2 => by
            rw [x_u_if]
            by_cases hti2 : t = i
            · rw [if_pos (by omega), hti2]
              exact hz0
            · rw [if_neg (by omega)]
              exact h11 t (by omega) ht2
          exact Or.inl ⟨by omega, 1000 + (299 - (i + 1)), [(0, xR 210), (1, .inl ((i + 1 : Nat) : Int))], by omega, ⟨rfl, rfl, trivial⟩, rfl, rfl, (fun r k hr2 hc9 => (x_u_r (show r ≠ 211 by omega)).trans (hFr r k hr2 hc9)), Or.inr ⟨q, σ, i + 1, htx, h19, hst, ⟨hLn, hln⟩, rfl, Or.inl ⟨rfl, by omega, rfl, hA⟩⟩⟩
    · obtain ⟨rfl, hi, rfl, hcp⟩ := h117
      have hti : ((i : Int)).toNat = i := by omega
      refine And.intro ?_ ?_
      · intro t1
        exact ⟨8, [(0, xR 210), (1, .inl ((0 : Nat) : Int))], by omega, ⟨rfl, rfl, trivial⟩, rfl, rfl, hFr, Or.inr ⟨q, σ, 0, htx, h19, hst, ⟨hLn, hln⟩, rfl, Or.inr ⟨h11, Or.inr ⟨rfl, by omega, rfl, fun t ht => hcp t (by omega)⟩⟩⟩⟩
      · intro t1
        refine Or.inl ⟨by omega, ?_⟩
        refine And.intro (show 0 ≤ 22 + (i : Int) ∧ 22 + (i : Int) < 44 by omega) ?_
        intro z hz _
        have hz : z = L' 214 (22 + i) := by
          rw [show z = L' 214 (22 + (i : Int)).toNat from hz]
          exact congrArg (L' 214) (by omega)
        refine And.intro (show 0 ≤ (i : Int) ∧ (i : Int) < 44 by omega) ?_
        have hL1 : ∀ r k, kv_t r k = true → r ≠ 214 → x_u L' 214 ((i : Int)).toNat z r k = L r k := fun r k ht hr => (x_u_r hr).trans (hLn r k ht hr)
        have hL2 : rs_ln σ (x_u L' 214 ((i : Int)).toNat z) := by
          obtain ⟨⟨n1, n2, n3⟩, n4⟩ := hln
          exact ⟨⟨r_nm_u n1 (Or.inl (by omega)), r_nm_u n2 (Or.inl (by omega)), r_nm_u n3 (Or.inl (by omega))⟩, n4⟩
        have hL3 : ∀ t, t < i + 1 → x_u L' 214 ((i : Int)).toNat z 214 t = x_u L' 214 ((i : Int)).toNat z 214 (22 + t) := fun t ht => by
          rw [x_u_if, x_u_if, if_neg (show ¬ ((214 : Nat) = 214 ∧ 22 + t = ((i : Int)).toNat) by omega)]
          by_cases hti2 : t = i
          · rw [if_pos (by omega), hz, hti2]
          · rw [if_neg (by omega)]
            exact hcp t (by omega)
        exact Or.inl ⟨by omega, 500 + (22 - (i + 1)), [(0, xR 210), (1, .inl ((i + 1 : Nat) : Int))], by omega, ⟨rfl, rfl, trivial⟩, rfl, rfl, hFr, Or.inr ⟨q, σ, i + 1, htx, h19, hst, ⟨hL1, hL2⟩, rfl, Or.inr ⟨h11, Or.inl ⟨rfl, by omega, rfl, hL3⟩⟩⟩⟩
    · obtain ⟨rfl, hi, rfl, hcp⟩ := h146
      refine And.intro ?_ ?_
      · intro t1
        refine And.intro (by decide) ?_
        intro z (hz : z = I' 209 19) _
        unfold xo_cap3
        rw [htx]
        obtain ⟨s1, s6⟩ := hst
        refine ⟨⟨by rw [hz, h19.1], h19.2, ⟨(h11 0 (by decide)).trans s1.1, (h11 1 (by decide)).trans s1.2.1, (h11 2 (by decide)).trans s1.2.2.1, (h11 7 (by decide)).trans s1.2.2.2⟩, fun j hj => (h11 (3 + j) (by omega)).trans (s6.1 j hj), p_own_eq s6.2.2 (fun c hc => h11 (22 + c) (by have := s6.2.1; omega))⟩, ?_, hLn⟩
        obtain ⟨⟨n1, n2, n3⟩, m1, m2, m3⟩ := hln
        refine ⟨n3_of ((h11 0 (by decide)).trans s1.1) (fun k hk => ?_), n3_of ((h11 1 (by decide)).trans s1.2.1) (fun k hk => ?_), n3_of ((h11 2 (by decide)).trans s1.2.2.1) (fun k hk => ?_)⟩
        · obtain ⟨x, x1, x2, x3⟩ := n1 k hk
          exact ⟨x, x1, ((congrArg (L' 214) (Nat.zero_add k)).trans (hcp k (by omega))).trans x2, x3⟩
        · obtain ⟨x, x1, x2, x3⟩ := n2 k hk
          exact ⟨x, x1, ((hcp (8 + k) (by omega)).trans (congrArg (L' 214) (by omega))).trans x2, x3⟩
        · obtain ⟨x, x1, x2, x3⟩ := n3 k hk
          exact ⟨x, x1, ((hcp (14 + k) (by omega)).trans (congrArg (L' 214) (by omega))).trans x2, x3⟩
      · intro t1
        have hk := x_sgS8 ⟨i, by omega⟩
        refine Or.inl ⟨by omega, ?_⟩
        refine Or.inl ⟨by omega, ?_⟩
        refine And.intro (show 0 ≤ 22 + (i : Int) ∧ 22 + (i : Int) < 299 by omega) ?_
        intro z1 _ hs1
        have b1 : 0 ≤ z1 ∧ z1 ≤ 5 := hs1 (0, 5) (by show y_seg x_sgS (22 + (i : Int)).toNat = _; rw [show (22 + (i : Int)).toNat = 22 + i by omega]; exact hk.1)
        refine And.intro (show 0 ≤ 65 + (i : Int) ∧ 65 + (i : Int) < 299 by omega) ?_
        refine And.intro (fun w hw => ?_) ?_
        · have hw : y_seg x_sgS (65 + (i : Int)).toNat = some w := hw
          rw [show (65 + (i : Int)).toNat = 65 + i by omega] at hw
          have := x_bnd_ok hk.2.2.1 w hw
          omega
        refine Or.inl ⟨by omega, ?_⟩
        refine Or.inl ⟨by omega, ?_⟩
        refine And.intro (show 0 ≤ 22 + (i : Int) ∧ 22 + (i : Int) < 299 by omega) ?_
        intro z2 _ hs2
        have b2 : 0 ≤ z2 ∧ z2 ≤ 5 := hs2 (0, 5) (by show y_seg x_sgS (22 + (i : Int)).toNat = _; rw [show (22 + (i : Int)).toNat = 22 + i by omega]; exact hk.1)
        refine And.intro (show 0 ≤ 73 + (i : Int) ∧ 73 + (i : Int) < 299 by omega) ?_
        refine And.intro (fun w hw => ?_) ?_
        · have hw : y_seg x_sgS (73 + (i : Int)).toNat = some w := hw
          rw [show (73 + (i : Int)).toNat = 73 + i by omega] at hw
          have := x_bnd_ok hk.2.2.2.1 w hw
          omega
        refine Or.inl ⟨by omega, ?_⟩
        refine Or.inl ⟨by omega, ?_⟩
        refine And.intro (show 0 ≤ 38 + (i : Int) ∧ 38 + (i : Int) < 299 by omega) ?_
        intro z3 _ hs3
        have b3 : 0 ≤ z3 ∧ z3 ≤ 99 := hs3 (0, 99) (by show y_seg x_sgS (38 + (i : Int)).toNat = _; rw [show (38 + (i : Int)).toNat = 38 + i by omega]; exact hk.2.1)
        refine And.intro (show 0 ≤ 81 + (i : Int) ∧ 81 + (i : Int) < 299 by omega) ?_
        refine And.intro (fun w hw => ?_) ?_
        · have hw : y_seg x_sgS (81 + (i : Int)).toNat = some w := hw
          rw [show (81 + (i : Int)).toNat = 81 + i by omega] at hw
          have := x_bnd_ok hk.2.2.2.2 w hw
          omega
        have hA : ∀ t, t < 62 → x_u (x_u (x_u I' 211 (65 + (i : Int)).toNat z1) 211 (73 + (i : Int)).toNat z2) 211 (81 + (i : Int)).toNat z3 211 t = I' 212 t := fun t ht => by
          rw [x_u_if, if_neg (by omega), x_u_if, if_neg (by omega), x_u_if, if_neg (by omega)]
          exact h11 t ht
        exact Or.inl ⟨by omega, 8 - (i + 1), [(0, xR 210), (1, .inl ((i + 1 : Nat) : Int))], by omega, ⟨rfl, rfl, trivial⟩, rfl, rfl, (fun r k hr2 hc9 => ((x_u_r (show r ≠ 211 by omega)).trans ((x_u_r (show r ≠ 211 by omega)).trans (x_u_r (show r ≠ 211 by omega)))).trans (hFr r k hr2 hc9)), Or.inr ⟨q, σ, i + 1, htx, h19, hst, ⟨hLn, hln⟩, rfl, Or.inr ⟨hA, Or.inr ⟨rfl, by omega, rfl, hcp⟩⟩⟩⟩
end XS7
