/-! ===== the class's book() ===== -/
theorem q_ov_r {i : Nat} : ∀ {rv : Option xV}, q_ov (some (.inr (some i))) rv → rv = some (xR i)
  | some (.inr (.inr (some j))), h => by
    have h : i = j := h
    rw [h]
  | some (.inr (.inr none)), h => h.elim
  | some (.inr (.inl _)), h => h.elim
  | some (.inl _), h => h.elim
  | none, h => h.elim
theorem q_ov_n : ∀ {rv : Option xV}, q_ov none rv → rv = none
  | none, _ => rfl
  | some _, h => h.elim
theorem q_ov_i {lo hi : Int} : ∀ {rv : Option xV}, q_ov (some (.inl (lo, hi))) rv → ∃ z, rv = some (.inl z) ∧ lo ≤ z ∧ z ≤ hi
  | some (.inl z), h => ⟨z, rfl, h⟩
  | some (.inr _), h => h.elim
  | none, h => h.elim
def q_K8 : yCon := (8, [.inr (some 142)], [], [(some (.inr (some 146)), [], false)], [(145, 1, 4), (146, 0, 7), (147, 0, 7), (148, 0, 7), (149, 0, 7), (150, 0, 7), (151, 0, 5), (152, 0, 5)], 1, false, [])
def q_K51 : yCon := (51, [.inr (some 39), .inr (some 30)], [], [(none, [], false)], [(40, 1, 4), (41, 0, 7), (42, 0, 7), (43, 0, 7), (44, 0, 7), (45, 0, 7), (46, 0, 5), (47, 0, 5), (49, 1, 4), (50, 0, 7), (51, 0, 7), (52, 0, 7), (53, 0, 7), (54, 0, 7), (55, 0, 5), (56, 0, 5), (58, 1, 4), (59, 0, 7), (60, 0, 7), (61, 0, 7), (62, 0, 7), (63, 0, 7), (64, 0, 5), (65, 0, 5), (67, 1, 4), (68, 0, 7), (69, 0, 7), (70, 0, 7), (71, 0, 7), (72, 0, 7), (73, 0, 5), (74, 0, 5), (76, 1, 4), (77, 0, 7), (78, 0, 7), (79, 0, 7), (80, 0, 7), (81, 0, 7), (82, 0, 5), (83, 0, 5), (85, 1, 4), (86, 0, 7), (87, 0, 7), (88, 0, 7), (89, 0, 7), (90, 0, 7), (91, 0, 5), (92, 0, 5), (94, 1, 4), (95, 0, 7), (96, 0, 7), (97, 0, 7), (98, 0, 7), (99, 0, 7), (100, 0, 5), (101, 0, 5), (103, 1, 4), (104, 0, 7), (105, 0, 7), (106, 0, 7), (107, 0, 7), (108, 0, 7), (109, 0, 5), (110, 0, 5), (112, 1, 4), (113, 0, 7), (114, 0, 7), (115, 0, 7), (116, 0, 7), (117, 0, 7), (118, 0, 5), (119, 0, 5)], 1, false, [])
def q_K52 : yCon := (52, [.inr (some 39)], [], [(none, [], false)], [(38, 1, 2)], 1, false, [])
theorem q_K8c : y_ckE yP0 yTYV zTF yRC yGR yCTabV q_K8 [] 100 = true := by decide +kernel
theorem q_K51c : y_ckE yP0 yTYV zTF yRC yGR yCTabV q_K51 [] 100 = true := by decide +kernel
theorem q_K52c : y_ckE yP0 yTYV zTF yRC yGR yCTabV q_K52 [] 100 = true := by decide +kernel
/-- what stays: the FAULT, the tape's length -/
def q_kp (I I' : xF) : Prop := I' 0 10 = I 0 10 ∧ I' 1 2 = I 1 2
section XF2
variable {EX : (Nat → Prop) → State → Heap → Prop} {l : Launch} {kc : Nat → ClassId} {D : va_G} {xb : Nat} {ad : Nat → Option Nat}
theorem xf_8 (hE : z_EX EX) : x_Ok EX l zTB zNT kc D vwCl xb yTY ad yP0 8 1 (fun za I _ => za = [xR 142] ∧ goI kc ad I) (fun _ I _ rv I' _ => rv = some (xR 146) ∧ q_kp I I' ∧ goI kc ad I') :=
  x_Ok_weak (x_ofYG (K := q_K8) (Z := fun za => za = [xR 142]) (fun _ => hl_oV hE q_K8c) rfl rfl rfl rfl (fun za hz av h => by subst hz; exact x_ar1 h)) (Nat.le_refl _) (fun _ _ _ h => h) (fun za I L rv I' L' _ ⟨⟨o, ho, hv, _⟩, hf, hg⟩ => by
    have := List.mem_singleton.mp ho
    subst this
    exact ⟨q_ov_r hv, ⟨hf 0 10 (by decide), hf 1 2 (by decide)⟩, hg⟩)
theorem xf_51 (hE : z_EX EX) : x_Ok EX l zTB zNT kc D vwCl xb yTY ad yP0 51 1 (fun za I _ => za = [xR 39, xR 30] ∧ goI kc ad I) (fun _ I _ rv I' _ => rv = none ∧ q_kp I I' ∧ goI kc ad I') :=
  x_Ok_weak (x_ofYG (K := q_K51) (Z := fun za => za = [xR 39, xR 30]) (fun _ => hl_oV hE q_K51c) rfl rfl rfl rfl (fun za hz av h => by subst hz; exact x_ar2 h)) (Nat.le_refl _) (fun _ _ _ h => h) (fun za I L rv I' L' _ ⟨⟨o, ho, hv, _⟩, hf, hg⟩ => by
    have := List.mem_singleton.mp ho
    subst this
    exact ⟨q_ov_n hv, ⟨hf 0 10 (by decide), hf 1 2 (by decide)⟩, hg⟩)
theorem xf_52 (hE : z_EX EX) : x_Ok EX l zTB zNT kc D vwCl xb yTY ad yP0 52 1 (fun za I _ => za = [xR 39] ∧ goI kc ad I) (fun _ I _ rv I' _ => rv = none ∧ q_kp I I' ∧ goI kc ad I') :=
  x_Ok_weak (x_ofYG (K := q_K52) (Z := fun za => za = [xR 39]) (fun _ => hl_oV hE q_K52c) rfl rfl rfl rfl (fun za hz av h => by subst hz; exact x_ar1 h)) (Nat.le_refl _) (fun _ _ _ h => h) (fun za I L rv I' L' _ ⟨⟨o, ho, hv, _⟩, hf, hg⟩ => by
    have := List.mem_singleton.mp ho
    subst this
    exact ⟨q_ov_n hv, ⟨hf 0 10 (by decide), hf 1 2 (by decide)⟩, hg⟩)
def xo_jd : xPost := fun _ I _ rv I' _ => (∃ z : Int, rv = some (.inl z)) ∧ q_kp I I'
theorem q_jd {rv : Option xV} {o : yOut} {lo hi lo' hi' : Int} {a a' : List yF} (ho : o ∈ [(some (.inl (lo, hi)), a, false), (some (.inl (lo', hi')), a', false)]) (hv : q_ov o.1 rv) : ∃ z : Int, rv = some (.inl z) := by
  rcases List.mem_cons.mp ho with rfl | ho
  · obtain ⟨z, h, _⟩ := q_ov_i hv
    exact ⟨z, h⟩
  · have := List.mem_singleton.mp ho
    subst this
    obtain ⟨z, h, _⟩ := q_ov_i hv
    exact ⟨z, h⟩
theorem xf_5a (hE : z_EX EX) : x_Ok EX l zTB zNT kc D vwCl xb yTY ad yP0 5 6 (fun za I _ => za = [xR 137, xR 146] ∧ goI kc ad I) xo_jd :=
  x_Ok_weak (x_ofYG (K := yk_13) (Z := fun za => za = [xR 137, xR 146]) (fun _ => y_consV hE (j := 5) (show yk_13 ∈ y_cget yCTabV 5 from List.mem_cons_self)) rfl rfl rfl rfl (fun za hz av h => by subst hz; exact x_ar2 h)) (Nat.le_refl _) (fun _ _ _ h => h) (fun za I L rv I' L' _ ⟨⟨o, ho, hv, _⟩, hf, hg⟩ => ⟨q_jd ho hv, hf 0 10 (by decide), hf 1 2 (by decide)⟩)
theorem xf_5b (hE : z_EX EX) : x_Ok EX l zTB zNT kc D vwCl xb yTY ad yP0 5 6 (fun za I _ => za = [xR 137, xR 30] ∧ goI kc ad I) xo_jd :=
  x_Ok_weak (x_ofYG (K := yk_14) (Z := fun za => za = [xR 137, xR 30]) (fun _ => y_consV hE (j := 5) (show yk_14 ∈ y_cget yCTabV 5 from List.mem_cons_of_mem _ List.mem_cons_self)) rfl rfl rfl rfl (fun za hz av h => by subst hz; exact x_ar2 h)) (Nat.le_refl _) (fun _ _ _ h => h) (fun za I L rv I' L' _ ⟨⟨o, ho, hv, _⟩, hf, hg⟩ => ⟨q_jd ho hv, hf 0 10 (by decide), hf 1 2 (by decide)⟩)
def cf_bo (kc : Nat → ClassId) (ad : Nat → Option Nat) : List (Nat × Nat × xPre × xPost) := [(0, 5, (fun za I L => xr_bt za I L ∧ za = [xR 137, xR 2, xR 13] ∧ goI kc ad I), (fun za I L rv I' L' => xo_bt za I L rv I' L' ∧ (∀ r k, xy_c r k = true → y_in yk_0.2.2.2.2.1 r k = false → I' r k = I r k) ∧ goI kc ad I')), (155, 0, xr_ct, xo_ct), (8, 1, (fun za I _ => za = [xR 142] ∧ goI kc ad I), (fun _ I _ rv I' _ => rv = some (xR 146) ∧ q_kp I I' ∧ goI kc ad I')), (51, 1, (fun za I _ => za = [xR 39, xR 30] ∧ goI kc ad I), (fun _ I _ rv I' _ => rv = none ∧ q_kp I I' ∧ goI kc ad I')), (52, 1, (fun za I _ => za = [xR 39] ∧ goI kc ad I), (fun _ I _ rv I' _ => rv = none ∧ q_kp I I' ∧ goI kc ad I')), (5, 6, (fun za I L => (za = [xR 137, xR 146] ∧ goI kc ad I) ∨ (za = [xR 137, xR 30] ∧ goI kc ad I)), xo_jd)]
theorem x_ar3 {i j k : Nat} {av : List Value} (h : z_L (x_v ad) [xR i, xR j, xR k] av) : z_L (y_pv ad) [.inr (some i), .inr (some j), .inr (some k)] av := by
  match av, h with
  | [_, _, _], h => exact h
  | [], h => exact h.elim
  | [_], h => exact h.2.elim
  | [_, _], h => exact h.2.2.elim
  | _ :: _ :: _ :: _ :: _, h => exact h.2.2.2.elim
theorem cf_bo_ok (hE : z_EX EX) : x_ctok EX l zTB zNT kc D vwCl xb yTY ad yP0 (x_ctl (cf_bo kc ad)) := x_ctl_cons (x_andYG (K := yk_0) (M := ym_X0_readText) hE (xf_bt hE) (fun _ => y_consV hE (j := 0) (show yk_0 ∈ y_cget yCTabV 0 from List.mem_cons_self)) rfl rfl (Or.inr (Or.inr rfl)) rfl rfl rfl (by decide) (by decide) (fun av h => x_ar3 h)) (x_ctl_cons (xk_ct hE) (x_ctl_cons (xf_8 hE) (x_ctl_cons (xf_51 hE) (x_ctl_cons (xf_52 hE) (x_ctl_cons (x_Ok_or (xf_5a hE) (xf_5b hE)) x_ctl_nil)))))
def xr_bC (kc : Nat → ClassId) (ad : Nat → Option Nat) : xPre := fun za I L => (∃ k : Int, za = [xR 1, .inl k]) ∧ (0 ≤ I 1 2 ∧ I 1 2 ≤ 940) ∧ (∃ S M C, n3_c 12 S M C I L) ∧ goI kc ad I
def xo_bC : xPost := fun za I L _ I' _ => ∃ k : Int, za = [xR 1, .inl k] ∧ ((k ≠ 0 ∧ k ≠ 1 ∧ q_kp I I') ∨ ((k = 0 ∨ k = 1) ∧ I' 1 2 = 0 ∧ ∀ S M C, n3_c 12 S M C I L → I' 0 10 = q_fl (q_text (I 2) (I 1 2) S M C)))
set_option maxHeartbeats 4000000 in
theorem xf_bo (hE : z_EX EX) : x_Ok EX l zTB zNT kc D vwCl xb yTY ad yP0 148 7 (xr_bC kc ad) xo_bC := by
  refine x_meth (M := ym_X11_book) hE y_prog 80 rfl (by decide) (cf_bo_ok hE) (fun za I L ⟨⟨k, h⟩, _⟩ => by subst h; exact (by decide : 2 ≤ 3)) (fun za I L ⟨⟨k, h⟩, ⟨h0, h1⟩, hN, hg⟩ => ?_)
  subst h
  by_cases hk0 : k = 0
  · subst hk0
    refine And.intro (fun _ => ?_) (fun q => absurd rfl q)
    refine And.intro ⟨⟨rfl, ⟨h0, h1⟩, hN⟩, rfl, hg⟩ ?_
    rintro rv I1 L1 ⟨⟨hrv, hq⟩, _, hgo⟩
    have hg2 : goI kc ad (x_u (x_u I1 1 2 0) 0 10 (I1 1 9)) := goI_fr hgo (fun r hr k _ => by
      have n1 : r ≠ 1 := fun e => by
        subst e
        exact absurd hr (by decide)
      have n0 : r ≠ 0 := fun e => by
        subst e
        exact absurd hr (by decide)
      exact (x_u_r n0).trans (x_u_r n1))
    rcases hrv with rfl | rfl
    · refine And.intro rfl ?_
      rintro rv I2 L2 ⟨rfl, rfl, rfl⟩
      refine And.intro (fun q => absurd rfl q) (fun _ => ?_)
      intro z (hz : z = I1 1 10) (bz : 0 ≤ z ∧ z ≤ 940)
      refine Or.inl ⟨by omega, ?_⟩
      exact ⟨0, rfl, Or.inr ⟨Or.inl rfl, rfl, hq⟩⟩
    · refine And.intro rfl ?_
      rintro rv I2 L2 ⟨rfl, rfl, rfl⟩
      refine And.intro (fun _ => ?_) (fun q => absurd q (by decide))
      refine And.intro (fun q => absurd rfl q) (fun _ => ?_)
      refine And.intro ⟨rfl, hg2⟩ ?_
      rintro rv I3 L3 ⟨rfl, ⟨k1, k2⟩, hg3⟩
      refine And.intro (Or.inl ⟨rfl, hg3⟩) ?_
      rintro rv I4 L4 ⟨⟨z, rfl⟩, k3, k4⟩
      exact ⟨0, rfl, Or.inr ⟨Or.inl rfl, k4.trans k2, fun S M C h => (k3.trans k1).trans (hq S M C h)⟩⟩
  · by_cases hk1 : k = 1
    · subst hk1
      refine And.intro (fun q => absurd q hk0) (fun _ => ?_)
      refine And.intro (fun _ => ?_) (fun q => absurd rfl q)
      refine And.intro ⟨⟨rfl, ⟨h0, h1⟩, hN⟩, rfl, hg⟩ ?_
      rintro rv I1 L1 ⟨⟨hrv, hq⟩, _, hgo⟩
      have hg2 : goI kc ad (x_u (x_u I1 1 2 0) 0 10 (I1 1 9)) := goI_fr hgo (fun r hr k _ => by
        have n1 : r ≠ 1 := fun e => by
          subst e
          exact absurd hr (by decide)
        have n0 : r ≠ 0 := fun e => by
          subst e
          exact absurd hr (by decide)
        exact (x_u_r n0).trans (x_u_r n1))
      rcases hrv with rfl | rfl
      · refine And.intro rfl ?_
        rintro rv I2 L2 ⟨rfl, rfl, rfl⟩
        refine And.intro (fun q => absurd rfl q) (fun _ => ?_)
        intro z (hz : z = I1 1 10) (bz : 0 ≤ z ∧ z ≤ 940)
        refine Or.inl ⟨by omega, ?_⟩
        exact ⟨1, rfl, Or.inr ⟨Or.inr rfl, rfl, hq⟩⟩
      · refine And.intro rfl ?_
        rintro rv I2 L2 ⟨rfl, rfl, rfl⟩
        refine And.intro (fun _ => ?_) (fun q => absurd q (by decide))
        refine And.intro (fun _ => ?_) (fun q => absurd q (by decide))
        refine And.intro ⟨rfl, hg2⟩ ?_
        rintro rv I3 L3 ⟨rfl, ⟨k1, k2⟩, hg3⟩
        refine And.intro ⟨rfl, hg3⟩ ?_
        rintro rv I4 L4 ⟨rfl, ⟨k3, k4⟩, hg4⟩
        refine And.intro (Or.inr ⟨rfl, hg4⟩) ?_
        rintro rv I5 L5 ⟨⟨z, rfl⟩, k5, k6⟩
        exact ⟨1, rfl, Or.inr ⟨Or.inr rfl, (k6.trans k4).trans k2, fun S M C h => ((k5.trans k3).trans k1).trans (hq S M C h)⟩⟩
    · refine And.intro (fun q => absurd q hk0) (fun _ => ?_)
      refine And.intro (fun q => absurd q hk1) (fun _ => ?_)
      exact ⟨k, rfl, Or.inl ⟨hk0, hk1, rfl, rfl⟩⟩
end XF2
