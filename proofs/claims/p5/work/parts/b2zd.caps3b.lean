section XS6
variable {EX : (Nat → Prop) → State → Heap → Prop} {l : Launch} {kc : Nat → ClassId} {D : va_G} {xb : Nat} {ad : Nat → Option Nat}
def xr_cc3 (kc : Nat → ClassId) (ad : Nat → Option Nat) : xPre := fun za I _ => za = [xR 1] ∧ (0 ≤ I 1 2 ∧ I 1 2 ≤ 940) ∧ goI kc ad I
def xo_cc3 : xPost := fun _ I L rv I' L' => (c_cap (p_text (I 2) (I 1 2)) rv I I' ∧ I' 1 2 = 0) ∧ c_cap3 (p_text (I 2) (I 1 2)) I L I' L' ∧ ∀ r k, kv_t r k = true → r ≠ 13 → L' r k = L r k
def ct_cc3 (kc : Nat → ClassId) (ad : Nat → Option Nat) : List (Nat × Nat × xPre × xPost) := [(39, 5, (fun za I L => xr_rt za I L ∧ za = [xR 17] ∧ goI kc ad I), (fun za I L rv I' L' => xo_rt za I L rv I' L' ∧ (∀ r k, xy_c r k = true → y_in yk_44.2.2.2.2.1 r k = false → I' r k = I r k) ∧ ∀ r k, kv_t r k = true → L' r k = L r k)), (155, 0, xr_ct, xo_ct), (32, 1, xr2 4 17, xo_lc2 4 17), (67, 1, xr_bg, xo_fr119V), (54, 0, xr_sc, xo_sc), (50, 0, xr_pc, xo_pc)]
theorem ct_cc3_ok (hE : z_EX EX) : x_ctok EX l zTB zNT kc D vwCl xb yTY ad yP0 (x_ctl (ct_cc3 kc ad)) := x_ctl_cons (x_andYV (K := yk_44) (M := ym_X4_readText) hE (xk_rt hE) (fun _ => y_consV hE (j := 39) (show yk_44 ∈ y_cget yCTabV 39 from List.mem_cons_self)) rfl rfl (Or.inr (Or.inr rfl)) rfl rfl rfl (by decide) (by decide) (fun av h => x_ar1 h)) (x_ctl_cons (xk_ct hE) (x_ctl_cons (xk_lc_4_17 hE) (x_ctl_cons (xk_bgV hE) (x_ctl_cons (xk_sc hE) (x_ctl_cons (xk_pc hE) x_ctl_nil)))))
theorem xs_12 : (xy_c 12 3 = true ∧ y_in yk_44.2.2.2.2.1 12 3 = false) ∧ ∀ k : Fin 22, xy_c 14 k.val = true ∧ y_in yk_44.2.2.2.2.1 14 k.val = false := by decide +kernel
theorem lcI_14 (I : xF) {k : Nat} (hk : k < 22) : lcI 4 17 I 14 k = I 27 k := by
  unfold lcI ncI
  show x_cp (x_cp (lcA 4 17 I) 27 14 22) 28 15 22 14 k = I 27 k
  rw [x_cp_if, if_neg (fun q => absurd q.1 (by decide)), x_cp_if, if_pos ⟨rfl, hk⟩]
  rfl
theorem xk_cc3 (hE : z_EX EX) : x_Ok EX l zTB zNT kc D vwCl xb yTY ad yP0 116 6 (xr_cc3 kc ad) xo_cc3 := by
  refine x_meth2 (M := ym_X11_capital) hE y_prog 60 rfl (by decide) (ct_cc3_ok hE) (fun za I L ⟨h, _⟩ => by subst h; exact (by decide : 1 ≤ 2)) (fun za I L ⟨h, ⟨h0, h1⟩, hg⟩ => ?_)
  subst h
  refine And.intro ⟨⟨rfl, h0, h1⟩, rfl, hg⟩ ?_
  rintro rv I1 L1 ⟨hp, hfr, hfl⟩
  have hp : c_text (p_text (I 2) (I 1 2)) rv I1 L1 := hp
  rcases hr : p_text (I 2) (I 1 2) with ⟨at0, f0⟩ | ⟨q, σ⟩
  · rw [hr] at hp
    obtain ⟨rfl, l1, l2⟩ := hp
    refine And.intro rfl ?_
    rintro rv I2 L2 ⟨rfl, rfl, rfl⟩
    refine And.intro (fun q => absurd rfl q) (fun _ => ?_)
    intro z (hz : z = I1 1 10) (bz : 0 ≤ z ∧ z ≤ 940)
    refine Or.inl ⟨by omega, ?_⟩
    refine ⟨⟨?_, rfl⟩, ?_, fun r k ht _ => hfl r k ht⟩
    rotate_left
    · rw [hr]
      exact ⟨hfr 12 3 xs_12.1.1 xs_12.1.2, fun k hk => hfr 14 k (xs_12.2 ⟨k, hk⟩).1 (xs_12.2 ⟨k, hk⟩).2, fun k hk => hfl 13 k (kv_22 ⟨k, hk⟩).1⟩
    rw [hr]
    refine ⟨by rw [hz, l2], l1, fun k hk => ?_, fun k hk => ?_⟩
    · have h9 := xs_4 ⟨k, hk⟩
      exact hfr 4 k h9.1.1 h9.1.2
    · have h9 := xs_4 ⟨k, hk⟩
      exact hfr 7 k h9.2.1 h9.2.2
  · rw [hr] at hp
    obtain ⟨rfl, l1, l2, l3⟩ := hp
    refine And.intro rfl ?_
    rintro rv I2 L2 ⟨rfl, rfl, rfl⟩
    refine And.intro (fun _ => ?_) (fun q => absurd q (by decide))
    refine And.intro rfl ?_
    rintro rv I3 L3 ⟨rfl, rfl, rfl⟩
    refine And.intro rfl ?_
    rintro rv I4 L4 ⟨rfl, f4, g4⟩
    refine And.intro rfl ?_
    rintro rv I5 L5 ⟨rfl, rfl, rfl⟩
    refine And.intro rfl ?_
    rintro rv I6 L6 ⟨rfl, rfl, rfl⟩
    intro z (hz : z = I4 16 2) _
    have e1 : I4 16 2 = q := by
      rw [f4 16 2 (by decide)]
      exact l2
    have e2 : I4 1 2 = 0 := by
      rw [f4 1 2 (by decide)]
      rfl
    have e3 : I4 0 10 = 0 := by
      rw [f4 0 10 (by decide)]
      exact l1
    have e4 : ∀ k, k < 8 → I4 4 k = I1 17 k := by
      intro k hk
      rw [f4 4 k (xy_noreg (by decide) k)]
      match k, hk with
      | 0, _ => rfl
      | 1, _ => rfl
      | 2, _ => rfl
      | 3, _ => rfl
      | 4, _ => rfl
      | 5, _ => rfl
      | 6, _ => rfl
      | 7, _ => rfl
      | k + 8, hk => omega
    have e7 : ∀ k, k < 8 → I4 7 k = I1 20 k := by
      intro k hk
      rw [f4 7 k (xy_noreg (by decide) k)]
      match k, hk with
      | 0, _ => rfl
      | 1, _ => rfl
      | 2, _ => rfl
      | 3, _ => rfl
      | 4, _ => rfl
      | 5, _ => rfl
      | 6, _ => rfl
      | 7, _ => rfl
      | k + 8, hk => omega
    have l3n := l3.2.2.1
    have l3b := l3.2.1
    refine ⟨⟨?_, e2⟩, ?_, fun r k ht h13 => ?_⟩
    rotate_left
    · rw [hr]
      have h22 : I1 25 3 ≤ 22 := by have := l3n.1; omega
      refine n3_c_eq (r := 25) (I := I1) (L := L2) ⟨l3n.2.1, l3n.2.2.1, l3n.2.2.2.1⟩ ((f4 12 3 (by decide)).trans rfl) (fun k hk => ?_) (fun k hk => ?_)
      · show L6 13 k = _
        rw [g4 13 k (kv_22 ⟨k, by omega⟩).1, x_cp_if, if_pos ⟨rfl, by omega⟩]
      · show I4 14 k = _
        rw [f4 14 k (xy_noreg (by decide) k)]
        exact lcI_14 _ (by omega)
    · show L6 r k = L r k
      rw [g4 r k ht, x_cp_if, if_neg (fun q => h13 q.1)]
      exact hfl r k ht
    rw [hr]
    obtain ⟨g1, g2, g3, g4, g5, g6⟩ := l3
    refine ⟨by rw [hz, e1], e3, ⟨(e4 0 (by decide)).trans g1.1, (e4 1 (by decide)).trans g1.2.1, (e4 2 (by decide)).trans g1.2.2.1, (e4 3 (by decide)).trans g1.2.2.2⟩, fun j hj => (e4 (4 + j) (by omega)).trans (g6.1 j hj), ⟨g2.2.1, g2.2.2.1⟩, p_own_eq g6.2 (fun c hc => e7 c (by have := g2.2.2.1; omega))⟩
end XS6
