/-! ===== the reference's book() ===== -/
def q_sgT : List (Nat × Int × Int) := [(3, (.negSucc 2147483647), (.ofNat 2147483647)), (8, (.ofNat 0), (.ofNat 30)), (8, (.ofNat 0), (.ofNat 5)), (28, (.negSucc 2147483647), (.ofNat 2147483647)), (8, (.ofNat 0), (.ofNat 7)), (1, (.ofNat 0), (.ofNat 8)), (3, (.negSucc 2147483647), (.ofNat 2147483647)), (8, (.ofNat 0), (.ofNat 30)), (8, (.ofNat 0), (.ofNat 5)), (28, (.negSucc 2147483647), (.ofNat 2147483647)), (8, (.ofNat 0), (.ofNat 7)), (1, (.ofNat 0), (.ofNat 8)), (3, (.negSucc 2147483647), (.ofNat 2147483647)), (8, (.ofNat 0), (.ofNat 30)), (8, (.ofNat 0), (.ofNat 5)), (28, (.negSucc 2147483647), (.ofNat 2147483647)), (8, (.ofNat 0), (.ofNat 7)), (1, (.ofNat 0), (.ofNat 8)), (3, (.negSucc 2147483647), (.ofNat 2147483647)), (8, (.ofNat 0), (.ofNat 30)), (8, (.ofNat 0), (.ofNat 5)), (28, (.negSucc 2147483647), (.ofNat 2147483647)), (8, (.ofNat 0), (.ofNat 7)), (1, (.ofNat 0), (.ofNat 8)), (3, (.negSucc 2147483647), (.ofNat 2147483647)), (8, (.ofNat 0), (.ofNat 30)), (8, (.ofNat 0), (.ofNat 5)), (28, (.negSucc 2147483647), (.ofNat 2147483647)), (8, (.ofNat 0), (.ofNat 7)), (1, (.ofNat 0), (.ofNat 8)), (3, (.negSucc 2147483647), (.ofNat 2147483647)), (8, (.ofNat 0), (.ofNat 30)), (8, (.ofNat 0), (.ofNat 5)), (28, (.negSucc 2147483647), (.ofNat 2147483647)), (8, (.ofNat 0), (.ofNat 7)), (1, (.ofNat 0), (.ofNat 8)), (3, (.negSucc 2147483647), (.ofNat 2147483647)), (8, (.ofNat 0), (.ofNat 30)), (8, (.ofNat 0), (.ofNat 5)), (28, (.negSucc 2147483647), (.ofNat 2147483647)), (8, (.ofNat 0), (.ofNat 7)), (1, (.ofNat 0), (.ofNat 8)), (3, (.negSucc 2147483647), (.ofNat 2147483647)), (8, (.ofNat 0), (.ofNat 30)), (8, (.ofNat 0), (.ofNat 5)), (28, (.negSucc 2147483647), (.ofNat 2147483647)), (8, (.ofNat 0), (.ofNat 7)), (1, (.ofNat 0), (.ofNat 8))]
def q_sgU : List (Nat × Int × Int) := [(3, (.negSucc 2147483647), (.ofNat 2147483647)), (8, (.ofNat 0), (.ofNat 30)), (8, (.ofNat 0), (.ofNat 5)), (28, (.negSucc 2147483647), (.ofNat 2147483647)), (8, (.ofNat 0), (.ofNat 7)), (1, (.ofNat 0), (.ofNat 8))]
theorem q_sgTU : ∀ u : Fin 8, ∀ i : Fin 56, y_seg q_sgT (56 * u.val + i.val) = y_seg q_sgU i.val := by decide +kernel
/-- what the members leave that a BOOK's LINES go through -/
def q_rl (I I' : xF) : Prop := (∀ c, c < 23 → I' 209 c = I 209 c) ∧ I' 209 36 = I 209 36 ∧ (∀ r c, r < 209 → I' r c = I r c) ∧ ∀ c, I' 213 c = I 213 c
theorem q_rl_t {I I' I2 : xF} (h : q_rl I I') (h2 : q_rl I' I2) : q_rl I I2 := ⟨fun c hc => (h2.1 c hc).trans (h.1 c hc), h2.2.1.trans h.2.1, fun r c hr => (h2.2.2.1 r c hr).trans (h.2.2.1 r c hr), fun c => (h2.2.2.2 c).trans (h.2.2.2 c)⟩
theorem q_rl_0 {I : xF} : q_rl I I := ⟨fun _ _ => rfl, rfl, fun _ _ _ => rfl, fun _ => rfl⟩
theorem q_rl_u {I : xF} {r k : Nat} {z : Int} (h1 : 209 < r) (h2 : r ≠ 213) : q_rl I (x_u I r k z) := ⟨fun c _ => x_u_r (by omega), x_u_r (by omega), fun r' c hr => x_u_r (by omega), fun c => x_u_r (by omega)⟩
theorem q_rl_38 {I : xF} {z : Int} : q_rl I (x_u I 209 38 z) := ⟨fun c hc => x_u_k (by omega), rfl, fun r' c hr => x_u_r (by omega), fun c => rfl⟩
theorem q_rl_fm {I I' : xF} (h : q_rl I I') {j : Nat} (hq : q_fm I j) : q_fm I' j := by
  unfold q_fm at hq ⊢
  rw [h.2.2.2, h.2.2.2, h.2.2.2]
  exact hq
def q_fms (I : xF) : Prop := ∀ j : Nat, (j : Int) < I 209 36 → q_fm I j
theorem q_fms_rl {I I' : xF} (h : q_rl I I') (hq : q_fms I) : q_fms I' := fun j hj => q_rl_fm h (hq j (by rw [← h.2.1]; exact hj))
section XF4
variable {EX : (Nat → Prop) → State → Heap → Prop} {l : Launch} {kc : Nat → ClassId} {D : va_G} {xb : Nat} {ad : Nat → Option Nat}
theorem q_goI {I I' : xF} (h : q_rl I I') (hg : goI kc ad I) : goI kc ad I' := goI_fr hg (fun r hr k _ => h.2.2.1 r k (go_lt r hr))
theorem q_ar4 {a c d lo1 hi1 lo2 hi2 lo3 hi3 : Int} (h1 : lo1 ≤ a ∧ a ≤ hi1) (h2 : lo2 ≤ c ∧ c ≤ hi2) (h3 : lo3 ≤ d ∧ d ≤ hi3) (av : List Value) (h : z_L (x_v ad) [xR 210, .inl a, .inl c, .inl d] av) : z_L (y_pv ad) [.inr (some 210), .inl (lo1, hi1), .inl (lo2, hi2), .inl (lo3, hi3)] av := by
  match av, h with
  | [_, _, _, _], ⟨g0, ⟨x1, e1, q1⟩, ⟨x2, e2, q2⟩, ⟨x3, e3, q3⟩, _⟩ => exact ⟨g0, ⟨x1, e1, by omega, by omega⟩, ⟨x2, e2, by omega, by omega⟩, ⟨x3, e3, by omega, by omega⟩, trivial⟩
  | [], h => exact h.elim
  | [_], h => exact h.2.elim
  | [_, _], h => exact h.2.2.elim
  | [_, _, _], h => exact h.2.2.2.elim
  | _ :: _ :: _ :: _ :: _ :: _, h => exact h.2.2.2.2.elim
def q_Z (ad : Nat → Option Nat) (f : Nat) (za : List xV) : Prop := ∀ av, z_L (x_v ad) za av → z_L (y_pv ad) (hk_dK f).2.1 av
def xo_ds : xPost := fun _ I _ rv I' _ => (∃ z : Int, rv = some (.inl z) ∧ 0 ≤ z ∧ z ≤ 41) ∧ q_rl I I'
theorem xf_ds1 (hE : z_EX EX) {f : Nat} (hf : f < 5) : x_Ok EX l zTB zNT kc D vwCl xb yTY ad yP0 260 7 (fun za I _ => q_Z ad f za ∧ goI kc ad I) xo_ds :=
  x_Ok_weak (x_ofYG (K := hk_dK f) (Z := q_Z ad f) (fun _ => hk_d_ok hE hf) rfl rfl rfl rfl (fun za hz => hz)) (Nat.le_refl _) (fun _ _ _ h => h) (fun za I L rv I' L' _ ⟨⟨o, ho, hv, _⟩, hfr, hg⟩ => by
    have := List.mem_singleton.mp ho
    subst this
    obtain ⟨z, z1, z2, z3⟩ := q_ov_i hv
    have e : ∀ r c, r ≠ 211 → I' r c = I r c := fun r c hr => hfr r c (y_in_no (fun q hq h1 h2 => by
      have := List.mem_singleton.mp hq
      subst this
      exact absurd h1.symm hr))
    exact ⟨⟨z, z1, z2, z3⟩, fun c _ => e 209 c (by decide), e 209 36 (by decide), fun r c hr => e r c (by omega), fun c => e 213 c (by decide)⟩)
theorem xf_ds (hE : z_EX EX) : x_Ok EX l zTB zNT kc D vwCl xb yTY ad yP0 260 7 (fun za I _ => (∃ f, f < 5 ∧ q_Z ad f za) ∧ goI kc ad I) xo_ds := by
  intro y cc maxL ret tab na sp hP d hd za av ws sz I L hav ⟨⟨f, hf, hz⟩, hg⟩ hag hwt had
  exact xf_ds1 hE hf y cc maxL ret tab na sp hP d hd za av ws sz I L hav ⟨hz, hg⟩ hag hwt had
def xr_g (kc : Nat → ClassId) (ad : Nat → Option Nat) : xPre := fun za I _ => za = [xR 210] ∧ goI kc ad I
theorem xf_228 (hE : z_EX EX) : x_Ok EX l zTB zNT kc D vwCl xb yTY ad yP0 228 0 (xr_g kc ad) (fun _ I _ rv I' _ => rv = none ∧ q_rl I I') :=
  x_Ok_weak (x_ofYG (K := yk_314) (Z := fun za => za = [xR 210]) (fun _ => y_consV hE (j := 228) (show yk_314 ∈ y_cget yCTabV 228 from List.mem_cons_self)) rfl rfl rfl rfl (fun za hz av h => by subst hz; exact x_ar1 h)) (Nat.le_refl _) (fun _ _ _ h => h) (fun za I L rv I' L' _ ⟨⟨o, ho, hv, _⟩, hfr, hg⟩ => by
    have := List.mem_singleton.mp ho
    subst this
    have e : ∀ r c, r ≠ 217 → I' r c = I r c := fun r c hr => hfr r c (y_in_no (fun q hq h1 h2 => by
      have := List.mem_singleton.mp hq
      subst this
      exact absurd h1.symm hr))
    exact ⟨q_ov_n hv, fun c _ => e 209 c (by decide), e 209 36 (by decide), fun r c hr => e r c (by omega), fun c => e 213 c (by decide)⟩)
theorem xf_229 (hE : z_EX EX) : x_Ok EX l zTB zNT kc D vwCl xb yTY ad yP0 229 0 (xr_g kc ad) (fun _ I _ rv I' _ => rv = none ∧ q_rl I I') :=
  x_Ok_weak (x_ofYG (K := yk_315) (Z := fun za => za = [xR 210]) (fun _ => y_consV hE (j := 229) (show yk_315 ∈ y_cget yCTabV 229 from List.mem_cons_self)) rfl rfl rfl rfl (fun za hz av h => by subst hz; exact x_ar1 h)) (Nat.le_refl _) (fun _ _ _ h => h) (fun za I L rv I' L' _ ⟨⟨o, ho, hv, _⟩, hfr, hg⟩ => by
    have := List.mem_singleton.mp ho
    subst this
    have e : ∀ r c, r ≠ 211 → I' r c = I r c := fun r c hr => hfr r c (y_in_no (fun q hq h1 h2 => by
      have := List.mem_singleton.mp hq
      subst this
      exact absurd h1.symm hr))
    exact ⟨q_ov_n hv, fun c _ => e 209 c (by decide), e 209 36 (by decide), fun r c hr => e r c (by omega), fun c => e 213 c (by decide)⟩)
theorem xf_226 (hE : z_EX EX) : x_Ok EX l zTB zNT kc D vwCl xb yTY ad yP0 226 0 (xr_g kc ad) (fun _ I _ rv I' _ => rv = none ∧ q_rl I I' ∧ 1 ≤ I' 209 23 ∧ I' 209 23 ≤ 8) :=
  x_Ok_weak (x_ofYG (K := yk_312) (Z := fun za => za = [xR 210]) (fun _ => y_consV hE (j := 226) (show yk_312 ∈ y_cget yCTabV 226 from List.mem_cons_self)) rfl rfl rfl rfl (fun za hz av h => by subst hz; exact x_ar1 h)) (Nat.le_refl _) (fun _ _ _ h => h) (fun za I L rv I' L' _ ⟨⟨o, ho, hv, hs⟩, hfr, hg⟩ => by
    have := List.mem_singleton.mp ho
    subst this
    have e : ∀ r c, r ≠ 216 → ¬ (r = 209 ∧ c = 23) → I' r c = I r c := fun r c hr hr2 => hfr r c (y_in_no (fun q hq h1 h2 => by
      rcases List.mem_cons.mp hq with rfl | hq
      · exact hr2 ⟨h1.symm, by have h3 : 23 ≤ c := h2.1; have h4 : c ≤ 23 := h2.2; omega⟩
      · have := List.mem_singleton.mp hq
        subst this
        exact absurd h1.symm hr))
    have h9 := hs _ List.mem_cons_self
    exact ⟨q_ov_n hv, ⟨fun c hc => e 209 c (by decide) (by omega), e 209 36 (by decide) (by decide), fun r c hr => e r c (by omega) (by omega), fun c => e 213 c (by decide) (by omega)⟩, h9.1, h9.2⟩)
def q_ph (I L I' : xF) : Prop := ∀ S M C, n3_r (I 211) (L 214) S M C → I' 209 15 = q_fl (q_text (r_b I) (I 209 2) S M C)
theorem q_ph_rl {I L I' I2 : xF} (h : q_ph I L I') (hr : q_rl I' I2) : q_ph I L I2 := fun S M C hN => (hr.1 15 (by decide)).trans (h S M C hN)
def q_bI (kc : Nat → ClassId) (ad : Nat → Option Nat) (za : List xV) (I L : xF) (m pc : Nat) (lv : List (Nat × xV)) (sv : List xV) (I' L' : xF) : Prop := sv = [] ∧ goI kc ad I' ∧ q_fms I' ∧ ∃ k : Int, za = [xR 210, .inl k] ∧ (k = 0 ∨ k = 1) ∧
  ((pc = 39 ∧ lv = [(0, xR 210), (1, .inl k)] ∧ ∃ f : Nat, I' 209 36 + f = 40 ∧ 0 ≤ I' 209 36 ∧ m = 10000 + f ∧ ∀ S M C, n3_r (I 211) (L 214) S M C → ∃ T, rb_st (r_b I) (I 209 2) S M C T I' L' ∧ q_text (r_b I) (I 209 2) S M C = q_bk (r_b I) (I 209 2) S M C (f + 1) T) ∨
   (q_ph I L I' ∧ ((pc = 89 ∧ ∃ i : Nat, lv = [(0, xR 210), (1, .inl k), (2, .inl (i : Int))] ∧ i ≤ 4 ∧ m + i = 5000) ∨ (pc = 120 ∧ ∃ (i : Nat) (c w : Int), lv = [(0, xR 210), (1, .inl k), (2, .inl c), (3, .inl w), (4, .inl (i : Int))] ∧ i ≤ 41 ∧ m + i = 3000) ∨ (pc = 259 ∧ k = 1 ∧ ∃ (i : Nat) (w : Int), lv = [(0, xR 210), (1, .inl k), (3, .inl w), (4, .inl (i : Int))] ∧ i ≤ 56 ∧ m + i = 1000 ∧ 1 ≤ I' 209 23 ∧ I' 209 23 ≤ 8))))
def q_cutB : Nat → Bool := fun pc => Nat.beq pc 39 || Nat.beq pc 89 || Nat.beq pc 120 || Nat.beq pc 259
def xr_bR (kc : Nat → ClassId) (ad : Nat → Option Nat) : xPre := fun za I L => (∃ k : Int, za = [xR 210, .inl k]) ∧ (0 ≤ I 209 2 ∧ I 209 2 ≤ 940) ∧ (I 211 0 ≤ 8 ∧ I 211 1 ≤ 6 ∧ I 211 2 ≤ 8) ∧ (∃ S M C, n3_r (I 211) (L 214) S M C) ∧ goI kc ad I
def xo_bR : xPost := fun za I L _ I' _ => ∃ k : Int, za = [xR 210, .inl k] ∧ ((k ≠ 0 ∧ k ≠ 1 ∧ I' 209 15 = I 209 15) ∨ ((k = 0 ∨ k = 1) ∧ q_ph I L I'))
def cf_bR (kc : Nat → ClassId) (ad : Nat → Option Nat) : List (Nat × Nat × xPre × xPost) := [(166, 0, xr_ii, xo_ii), (165, 0, xr_tn2, xo_tn2), (175, 1, xr_next, xo_next), (259, 4, xr_bl, xo_bl), (179, 2, xr_sg, xo_sg), (228, 0, xr_g kc ad, fun _ I _ rv I' _ => rv = none ∧ q_rl I I'), (260, 7, (fun za I _ => (∃ f, f < 5 ∧ q_Z ad f za) ∧ goI kc ad I), xo_ds), (226, 0, xr_g kc ad, fun _ I _ rv I' _ => rv = none ∧ q_rl I I' ∧ 1 ≤ I' 209 23 ∧ I' 209 23 ≤ 8), (229, 0, xr_g kc ad, fun _ I _ rv I' _ => rv = none ∧ q_rl I I')]
theorem cf_bR_ok (hE : z_EX EX) : x_ctok EX l zTB zNT kc D vwCl xb yTY ad yP0 (x_ctl (cf_bR kc ad)) := x_ctl_cons (xk_ii hE) (x_ctl_cons (xk_tn2 hE) (x_ctl_cons (xk_next hE) (x_ctl_cons (xf_bl hE) (x_ctl_cons (xk_sg hE) (x_ctl_cons (xf_228 hE) (x_ctl_cons (xf_ds hE) (x_ctl_cons (xf_226 hE) (x_ctl_cons (xf_229 hE) x_ctl_nil))))))))
/-- a LINE's three numbers are as some form asks -/
theorem q_dz {I : xF} {j : Nat} (h : q_fm I j) {a c d : Int} (ha : a = I 213 (3 * j)) (hc : c = I 213 (3 * j + 1)) (hd : d = I 213 (3 * j + 2)) (bd : -2147483648 ≤ d ∧ d ≤ 2147483647) : ∃ f, f < 5 ∧ q_Z ad f [xR 210, .inl a, .inl c, .inl d] := by
  rcases h with ⟨h1, h2, h3⟩ | ⟨h1, h2, h3⟩ | ⟨h1, h2, h3⟩ | ⟨h1, h2⟩ | ⟨h1, h2⟩
  · exact ⟨0, by decide, q_ar4 (by omega) (by omega) (by omega)⟩
  · exact ⟨1, by decide, q_ar4 (by omega) (by omega) (by omega)⟩
  · exact ⟨2, by decide, q_ar4 (by omega) (by omega) (by omega)⟩
  · exact ⟨3, by decide, q_ar4 (by omega) (by omega) (by omega)⟩
  · exact ⟨4, by decide, q_ar4 (by omega) (by omega) (by omega)⟩
set_option maxRecDepth 20000 in
set_option maxHeartbeats 8000000 in
theorem xf_bR (hE : z_EX EX) : x_Ok EX l zTB zNT kc D vwCl xb yTY ad yP0 261 8 (xr_bR kc ad) xo_bR := by
  refine x_loop (M := ym_X12_book) hE y_prog 100 rfl (by decide) (cf_bR_ok hE) (fun za I L ⟨⟨k, h⟩, _⟩ => by subst h; exact (by decide : 2 ≤ 5)) q_cutB (q_bI kc ad) (fun za I L ⟨⟨k, h⟩, ⟨h0, h1⟩, hb, _, hg⟩ => ?_) (fun za I L ⟨_, _, _, ⟨S0, M0, C0, hN0⟩, _⟩ m pc lv sv I' L' hc hi => ?_)
  · subst h
    refine And.intro (by decide) ?_
    refine And.intro ⟨k, 0, 1, rfl⟩ ?_
    rintro rv I1 L1 ⟨e1, e2, v, a, c, hz, ⟨g1, g2, rfl⟩ | ⟨g1, rfl⟩⟩
    · cases hz
      subst e1
      subst e2
      refine And.intro (fun _ => ?_) (fun q => absurd q (by decide))
      refine And.intro ⟨400, rfl, by decide, by decide⟩ ?_
      rintro rv I0 L0 ⟨m, hm, rfl, rfl, rfl⟩
      cases hm
      refine And.intro (by decide) ?_
      refine And.intro (by decide) ?_
      refine And.intro ⟨rfl, (by decide : (0 : Int) ≤ 0), h0, h1, (by decide : (0 : Int) ≤ 400), (by decide : (400 : Int) ≤ 940)⟩ ?_
      rintro rv I2 L2 ⟨rfl, f1, f2, f3⟩
      have f3 : r_tok (t_tok (r_b I) (I 209 2) 400 0) I2 L2 := f3
      have e36 : I2 209 36 = 0 := f1 209 36 rfl
      refine ⟨10040, [(0, xR 210), (1, .inl k)], ⟨rfl, rfl, trivial⟩, rfl, goI_fr hg (fun r hr c _ => (f1 r c (x_sN_f (by have := go_lt r hr; omega))).trans ?_), fun j hj => absurd hj (by omega), k, rfl, by omega, Or.inl ⟨rfl, rfl, 40, by omega, by omega, rfl, fun S M C hN => ⟨_, ⟨⟨(r_b_fi f1).trans rfl, f1 209 3 rfl, f1 209 5 rfl, ⟨h0, h1⟩, f1 209 15 rfl⟩, f3, ⟨0, Int.le_refl _, h0, rfl⟩, n3_r_eq hN (fun i _ => f1 211 i rfl) hb (fun c _ => f2 214 c rfl), by rw [f1 211 0 rfl, f1 211 1 rfl, f1 211 2 rfl]; exact hb⟩, rfl⟩⟩⟩
      have hr9 := go_lt r hr
      simp only [x_u_r (show r ≠ 209 by omega)]
    · cases hz
      subst e1
      subst e2
      refine And.intro (fun q => absurd rfl q) (fun _ => ?_)
      exact ⟨k, rfl, Or.inl ⟨by omega, by omega, rfl⟩⟩
  · obtain ⟨rfl, hg, hfm, k, rfl, hk, ⟨rfl, rfl, f, hf, hf0, rfl, hq⟩ | ⟨hph, ⟨rfl, i, rfl, hi, hm⟩ | ⟨rfl, i, c, w, rfl, hi, hm⟩ | ⟨rfl, hk1, i, w, rfl, hi, hm, hu1, hu2⟩⟩⟩ := hi
    · obtain ⟨T0, hst0, _⟩ := hq _ _ _ hN0
      intro kd (hkd : kd = I' 209 11) _
      refine And.intro ?_ ?_
      · intro t1
        refine And.intro ⟨rfl, hg⟩ ?_
        rintro rv I1 L1 ⟨rfl, hr⟩
        have hph : q_ph I L I' := fun S M C hN => by
          obtain ⟨T, hst, hqt⟩ := hq _ _ _ hN
          rw [hqt, q_bk_end ((r_tok_end hst.2.1).mp (hkd.symm.trans t1))]
          exact hst.1.2.2.2.2
        exact ⟨5000, [(0, xR 210), (1, .inl k), (2, .inl ((0 : Nat) : Int))], by omega, ⟨rfl, rfl, rfl, trivial⟩, rfl, q_goI hr hg, q_fms_rl hr hfm, k, rfl, hk, Or.inr ⟨q_ph_rl hph hr, Or.inl ⟨rfl, 0, rfl, by omega, rfl⟩⟩⟩
      · intro t1
        have hT : ∀ {b n S M C T}, rb_st b n S M C T I' L' → T.1 ≠ 0 := fun h q => t1 (hkd.trans ((r_tok_end h.2.1).mpr q))
        refine And.intro ⟨rfl, _, _, _, _, _, _, hst0⟩ ?_
        rintro rv I1 L1 ⟨hrv, hF, hp⟩
        obtain ⟨j, hj⟩ : ∃ j : Nat, I' 209 36 = (j : Int) := ⟨(I' 209 36).toNat, by omega⟩
        have hjt : (I' 209 36).toNat = j := by omega
        rw [hjt] at hrv hF
        have hg1 : goI kc ad I1 := goI_fr hg (fun r hr c _ => by
          have := go_lt r hr
          exact hF.1 r c (by omega) (by omega))
        rcases hrv with rfl | ⟨rfl, hlt, hfj⟩
        · refine And.intro (fun _ => ?_) (fun q => absurd rfl q)
          intro z _ _
          refine Or.inr (fun w _ _ => ?_)
          refine ⟨k, rfl, Or.inr ⟨hk, fun S M C hN => ?_⟩⟩
          obtain ⟨T, hst, hqt⟩ := hq _ _ _ hN
          obtain ⟨at0, f0, hr, hf0⟩ := rb_out_0 (hp _ _ _ _ _ _ hst)
          rw [hqt, q_bk_bad (hT hst) (by omega) hr]
          exact hf0
        · refine And.intro (fun q => absurd q (by decide)) (fun _ => ?_)
          obtain ⟨T1, hr1, hst1⟩ := rb_out_1 (hp _ _ _ _ _ _ hst0)
          have hl : ∀ S M C, n3_r (I 211) (L 214) S M C → ∃ T1, rb_st (r_b I) (I 209 2) S M C T1 I1 L1 ∧ q_text (r_b I) (I 209 2) S M C = if T1.1 = 5 ∧ T1.2.2.2 = 59 then q_bk (r_b I) (I 209 2) S M C f (q_nx (r_b I) (I 209 2) T1) else some (T1.2.1, 1) := fun S M C hN => by
            obtain ⟨T, hst, hqt⟩ := hq _ _ _ hN
            obtain ⟨T1, hr, hst1⟩ := rb_out_1 (hp _ _ _ _ _ _ hst)
            exact ⟨T1, hst1, hqt.trans (q_bk_go (hT hst) (by omega) hr)⟩
          refine And.intro ⟨59, rfl, fun hk5 => rb_bh3 hst1 hk5⟩ ?_
          rintro rv I2 L2 ⟨x, hx, ⟨g1, g2, rfl, hnx⟩ | ⟨g1, rfl, g3, g4⟩⟩
          · cases hx
            refine And.intro (fun _ => ?_) (fun q => absurd q (by decide))
            have hG := rb_g_nx hnx
            have e36 : I2 209 36 = (j : Int) := hG.2.trans (hF.2.1.trans hj)
            intro z2 (hz2 : z2 = I2 209 36) (bz2 : 0 ≤ z2 ∧ z2 ≤ 40)
            refine Or.inl ⟨by omega, ?_⟩
            refine And.intro (show 0 ≤ z2 + 1 ∧ z2 + 1 ≤ 40 by omega) ?_
            have e213 : ∀ c, x_u I2 209 36 (z2 + 1) 213 c = I1 213 c := fun c => (x_u_r (by decide)).trans (hG.1 213 c (by decide))
            refine ⟨10000 + (f - 1), [(0, xR 210), (1, .inl k)], by omega, ⟨rfl, rfl, trivial⟩, rfl, goI_fr hg1 (fun r hr c _ => by
              have := go_lt r hr
              exact (x_u_r (show r ≠ 209 by omega)).trans (hG.1 r c (by omega))), fun j2 hj2 => ?_, k, rfl, hk, Or.inl ⟨rfl, rfl, f - 1, (show z2 + 1 + ((f - 1 : Nat) : Int) = 40 by omega), (show 0 ≤ z2 + 1 by omega), rfl, fun S M C hN => ?_⟩⟩
            · have hj3 : (j2 : Int) < z2 + 1 := hj2
              unfold q_fm
              rw [e213, e213, e213]
              rcases Nat.lt_or_ge j2 j with h9 | h9
              · have hq9 := hfm j2 (by omega)
                unfold q_fm at hq9
                rw [← hF.2.2 _ (show 3 * j2 < 3 * j by omega), ← hF.2.2 _ (show 3 * j2 + 1 < 3 * j by omega), ← hF.2.2 _ (show 3 * j2 + 2 < 3 * j by omega)] at hq9
                exact hq9
              · have : j2 = j := by omega
                subst this
                exact hfj
            · obtain ⟨T1, hs1, hqt⟩ := hl _ _ _ hN
              have h5 := (r_tok_sign hs1.2.1).1.mp g1
              have h59 := (r_tok_sign hs1.2.1).2 g1
              rw [if_pos ⟨h5, by omega⟩] at hqt
              refine ⟨_, rb_mv (rb_next (by omega) hs1 hnx) (fun r c hr _ => (x_u_if _ _ _ _ _ _).trans (if_neg (fun q => hr ⟨q.1, by omega⟩))), ?_⟩
              rw [show f - 1 + 1 = f by omega]
              exact hqt
          · cases hx
            subst g3
            subst g4
            refine And.intro (fun q => absurd rfl q) (fun _ => ?_)
            intro z _ _
            refine Or.inr (fun w _ _ => ?_)
            refine ⟨k, rfl, Or.inr ⟨hk, fun S M C hN => ?_⟩⟩
            obtain ⟨T1, hs1, hqt⟩ := hl _ _ _ hN
            have hsg := r_tok_sign hs1.2.1
            rw [hqt, if_neg (fun q => g1 ⟨hsg.1.mpr q.1, by rw [hsg.2 (hsg.1.mpr q.1)]; exact q.2⟩)]
            rfl
    · refine And.intro ?_ ?_
      · intro t1
        refine And.intro (by decide) ?_
        intro a _ _
        exact ⟨3000, [(0, xR 210), (1, .inl k), (2, .inl a), (3, .inl (-1)), (4, .inl ((0 : Nat) : Int))], by omega, ⟨rfl, rfl, rfl, rfl, rfl, trivial⟩, rfl, hg, hfm, k, rfl, hk, Or.inr ⟨hph, Or.inr (Or.inl ⟨rfl, 0, a, -1, rfl, by omega, rfl⟩)⟩⟩
      · intro t1
        have hti : ((i : Int)).toNat = i := by omega
        refine And.intro (show 0 ≤ (i : Int) ∧ (i : Int) < 4 by omega) ?_
        refine And.intro (fun q hq => ?_) ?_
        · rw [x_seg1 (by omega)] at hq
          cases hq
          exact (by decide)
        have hr : q_rl I' (x_u I' 219 ((i : Int)).toNat 0) := q_rl_u (by decide) (by decide)
        exact Or.inl ⟨by omega, 5000 - (i + 1), [(0, xR 210), (1, .inl k), (2, .inl ((i + 1 : Nat) : Int))], by omega, ⟨rfl, rfl, rfl, trivial⟩, rfl, q_goI hr hg, q_fms_rl hr hfm, k, rfl, hk, Or.inr ⟨q_ph_rl hph hr, Or.inl ⟨rfl, i + 1, rfl, by omega, by omega⟩⟩⟩
    · intro z (hz : z = I' 209 36) (bz : 0 ≤ z ∧ z ≤ 40)
      refine And.intro ?_ ?_
      · intro t1
        refine And.intro (by decide) ?_
        intro a _ has
        refine And.intro (by decide) ?_
        refine And.intro (fun q hq => ?_) ?_
        · rw [x_seg1 (by decide)] at hq
          cases hq
          exact has (-2147483648, 2147483647) rfl
        refine And.intro (by decide) ?_
        intro a2 _ has2
        refine Or.inr (fun w9 w91 w92 => ?_)
        refine And.intro (by decide) ?_
        refine And.intro (fun q hq => ?_) ?_
        · rw [x_seg1 (by decide)] at hq
          cases hq
          exact ⟨w91, w92⟩
        refine And.intro (by decide) ?_
        have hr : q_rl I' (x_u (x_u (x_u I' 219 2 a) 219 3 w9) 209 38 1) := q_rl_t (q_rl_t (q_rl_u (by decide) (by decide)) (q_rl_u (by decide) (by decide))) q_rl_38
        refine And.intro ?_ ?_
        · intro t8
          have hk0 : k = 0 := by omega
          refine And.intro (fun q => absurd hk0 q) (fun _ => ?_)
          refine And.intro ⟨rfl, q_goI hr hg⟩ ?_
          rintro rv J K ⟨rfl, hJ⟩
          exact ⟨k, rfl, Or.inr ⟨hk, q_ph_rl hph (q_rl_t hr hJ)⟩⟩
        · intro t8
          refine And.intro (by decide) ?_
          intro v1 _ _
          refine And.intro ?_ ?_
          · intro t9
            refine And.intro (fun _ => ?_) (fun q => absurd q (by omega))
            exact ⟨k, rfl, Or.inr ⟨hk, q_ph_rl hph hr⟩⟩
          · intro t9
            refine And.intro ⟨rfl, q_goI hr hg⟩ ?_
            rintro rv J K ⟨rfl, hJ, u1, u2⟩
            have hr2 := q_rl_t hr hJ
            exact ⟨1000, [(0, xR 210), (1, .inl k), (3, .inl w), (4, .inl ((0 : Nat) : Int))], by omega, ⟨rfl, rfl, rfl, rfl, trivial⟩, rfl, q_goI hr2 hg, q_fms_rl hr2 hfm, k, rfl, hk, Or.inr ⟨q_ph_rl hph hr2, Or.inr (Or.inr ⟨rfl, t8, 0, w, rfl, by omega, rfl, u1, u2⟩)⟩⟩
      · intro t1
        refine And.intro ?_ ?_
        · intro t2
          refine And.intro (by decide) ?_
          intro a _ has
          refine And.intro (by decide) ?_
          refine And.intro (fun q hq => ?_) ?_
          · rw [x_seg1 (by decide)] at hq
            cases hq
            exact has (-2147483648, 2147483647) rfl
          refine And.intro (by decide) ?_
          intro a2 _ has2
          refine Or.inr (fun w9 w91 w92 => ?_)
          refine And.intro (by decide) ?_
          refine And.intro (fun q hq => ?_) ?_
          · rw [x_seg1 (by decide)] at hq
            cases hq
            exact ⟨w91, w92⟩
          refine And.intro (by decide) ?_
          have hr : q_rl I' (x_u (x_u (x_u I' 219 2 a) 219 3 w9) 209 38 1) := q_rl_t (q_rl_t (q_rl_u (by decide) (by decide)) (q_rl_u (by decide) (by decide))) q_rl_38
          refine And.intro ?_ ?_
          · intro t8
            have hk0 : k = 0 := by omega
            refine And.intro (fun q => absurd hk0 q) (fun _ => ?_)
            refine And.intro ⟨rfl, q_goI hr hg⟩ ?_
            rintro rv J K ⟨rfl, hJ⟩
            exact ⟨k, rfl, Or.inr ⟨hk, q_ph_rl hph (q_rl_t hr hJ)⟩⟩
          · intro t8
            refine And.intro (by decide) ?_
            intro v1 _ _
            refine And.intro ?_ ?_
            · intro t9
              refine And.intro (fun _ => ?_) (fun q => absurd q (by omega))
              exact ⟨k, rfl, Or.inr ⟨hk, q_ph_rl hph hr⟩⟩
            · intro t9
              refine And.intro ⟨rfl, q_goI hr hg⟩ ?_
              rintro rv J K ⟨rfl, hJ, u1, u2⟩
              have hr2 := q_rl_t hr hJ
              exact ⟨1000, [(0, xR 210), (1, .inl k), (3, .inl w), (4, .inl ((0 : Nat) : Int))], by omega, ⟨rfl, rfl, rfl, rfl, trivial⟩, rfl, q_goI hr2 hg, q_fms_rl hr2 hfm, k, rfl, hk, Or.inr ⟨q_ph_rl hph hr2, Or.inr (Or.inr ⟨rfl, t8, 0, w, rfl, by omega, rfl, u1, u2⟩)⟩⟩
        · intro t2
          have hi40 : i < 40 := by omega
          have t0 : (3 * (i : Int)).toNat = 3 * i := by omega
          have t1' : (3 * (i : Int) + 1).toNat = 3 * i + 1 := by omega
          have t2' : (3 * (i : Int) + 2).toNat = 3 * i + 2 := by omega
          refine Or.inl ⟨by omega, ?_⟩
          refine And.intro (show 0 ≤ 3 * (i : Int) ∧ 3 * (i : Int) < 135 by omega) ?_
          intro a (ha : a = I' 213 (3 * (i : Int)).toNat) _
          refine Or.inl ⟨by omega, ?_⟩
          refine Or.inl ⟨by omega, ?_⟩
          refine And.intro (show 0 ≤ 3 * (i : Int) + 1 ∧ 3 * (i : Int) + 1 < 135 by omega) ?_
          intro a1 (ha1 : a1 = I' 213 (3 * (i : Int) + 1).toNat) _
          refine Or.inl ⟨by omega, ?_⟩
          refine Or.inl ⟨by omega, ?_⟩
          refine And.intro (show 0 ≤ 3 * (i : Int) + 2 ∧ 3 * (i : Int) + 2 < 135 by omega) ?_
          intro a2 (ha2 : a2 = I' 213 (3 * (i : Int) + 2).toNat) has2
          rw [t0] at ha
          rw [t1'] at ha1
          rw [t2'] at ha2
          have b2 := has2 (-2147483648, 2147483647) (show y_seg q_sgB (3 * (i : Int) + 2).toNat = _ by rw [t2']; exact (q_sgB3 ⟨i, hi40⟩).2.2)
          refine And.intro ⟨q_dz (hfm i (by omega)) ha ha1 ha2 b2, hg⟩ ?_
          rintro rv J K ⟨⟨z9, rfl, z91, z92⟩, hJ⟩
          refine And.intro (by decide) ?_
          refine And.intro (fun q hq => ?_) ?_
          · rw [x_seg1 (by decide)] at hq
            cases hq
            exact (show (-2147483648 : Int) ≤ z9 ∧ z9 ≤ 2147483647 by omega)
          refine And.intro (by decide) ?_
          intro v0 _ _
          have hr : q_rl I' (x_u J 219 0 z9) := q_rl_t hJ (q_rl_u (by decide) (by decide))
          refine And.intro ?_ ?_
          · intro t3
            refine And.intro (by decide) ?_
            intro v1 _ _
            refine Or.inr (fun w9 w91 w92 => ?_)
            refine And.intro (by decide) ?_
            refine And.intro (fun q hq => ?_) ?_
            · rw [x_seg1 (by decide)] at hq
              cases hq
              exact ⟨w91, w92⟩
            have hr2 : q_rl I' (x_u (x_u J 219 0 z9) 219 1 w9) := q_rl_t hr (q_rl_u (by decide) (by decide))
            exact Or.inl ⟨by omega, 3000 - (i + 1), [(0, xR 210), (1, .inl k), (2, .inl c), (3, .inl w), (4, .inl ((i + 1 : Nat) : Int))], by omega, ⟨rfl, rfl, rfl, rfl, rfl, trivial⟩, rfl, q_goI hr2 hg, q_fms_rl hr2 hfm, k, rfl, hk, Or.inr ⟨q_ph_rl hph hr2, Or.inr (Or.inl ⟨rfl, i + 1, c, w, rfl, by omega, by omega⟩)⟩⟩
          · intro t3
            exact Or.inl ⟨by omega, 3000 - (i + 1), [(0, xR 210), (1, .inl k), (2, .inl c), (3, .inl (i : Int)), (4, .inl ((i + 1 : Nat) : Int))], by omega, ⟨rfl, rfl, rfl, rfl, rfl, trivial⟩, rfl, q_goI hr hg, q_fms_rl hr hfm, k, rfl, hk, Or.inr ⟨q_ph_rl hph hr, Or.inr (Or.inl ⟨rfl, i + 1, c, i, rfl, by omega, by omega⟩)⟩⟩
    · refine And.intro ?_ ?_
      · intro t1
        refine And.intro (fun _ => ?_) (fun q => absurd q (by omega))
        exact ⟨k, rfl, Or.inr ⟨hk, hph⟩⟩
      · intro t1
        have hti : ((i : Int)).toNat = i := by omega
        intro u (hu : u = I' 209 23) _
        refine Or.inl ⟨by omega, ?_⟩
        refine Or.inl ⟨by omega, ?_⟩
        refine Or.inl ⟨by omega, ?_⟩
        refine And.intro (show 0 ≤ (i : Int) ∧ (i : Int) < 56 by omega) ?_
        intro a _ has
        refine And.intro (show 0 ≤ 56 * (u - 1) + (i : Int) ∧ 56 * (u - 1) + (i : Int) < 448 by omega) ?_
        refine And.intro (fun q hq => ?_) ?_
        · have hq : y_seg q_sgT (56 * (u - 1) + (i : Int)).toNat = some q := hq
          rw [show (56 * (u - 1) + (i : Int)).toNat = 56 * (u - 1).toNat + i by omega, q_sgTU ⟨(u - 1).toNat, by omega⟩ ⟨i, by omega⟩] at hq
          exact has q (show y_seg q_sgU ((i : Int)).toNat = _ by rw [hti]; exact hq)
        have hr : q_rl I' (x_u I' 216 (56 * (u - 1) + (i : Int)).toNat a) := q_rl_u (by decide) (by decide)
        exact Or.inl ⟨by omega, 1000 - (i + 1), [(0, xR 210), (1, .inl k), (3, .inl w), (4, .inl ((i + 1 : Nat) : Int))], by omega, ⟨rfl, rfl, rfl, rfl, trivial⟩, rfl, q_goI hr hg, q_fms_rl hr hfm, k, rfl, hk, Or.inr ⟨q_ph_rl hph hr, Or.inr (Or.inr ⟨rfl, hk1, i + 1, w, rfl, by omega, by omega, hu1, hu2⟩)⟩⟩
end XF4
