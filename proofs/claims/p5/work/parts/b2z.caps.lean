/-! ===== an exact contract and one by bounds, of one member ===== -/
theorem xy_and3 {l : Launch} {y : MethodName} {tb : List Cond} {rm : Room} {Pc : Array Value → State → Prop} {D : va_G} {cl : List vw_C} {ws : va_W} {sz : Nat} {ret : Option FieldType} {P1 P2 : Option Value → va_W → Prop} {free : Addr → Prop} (hr : ret = none ∨ ret = some .int ∨ ret = some .boolean) (h1 : Met l y tb rm Pc (y_Q D cl ws sz ret P1) 0 0 free) (h2 : Met l y tb rm Pc (y_Q D cl ws sz ret P2) 0 0 free) : Met l y tb rm Pc (y_Q D cl ws sz ret (fun rv u => P1 rv u ∧ ∃ u2, P2 rv u2 ∧ ∃ H, va_P D cl u H ∧ va_P D cl u2 H)) 0 0 free := by
  intro p e a1 a2 a3 s m args below a4 a5 a6 a7
  obtain ⟨n, o, g1, g2, g3, g4, g5⟩ := h1 p e a1 a2 a3 s m args below a4 a5 a6 a7
  obtain ⟨n', o', k1, k2, k3, k4, k5⟩ := h2 p e a1 a2 a3 s m args below a4 a5 a6 a7
  obtain ⟨rfl, rfl⟩ := the_end_unique (f := fun k => stepsAlone p.tables e k s) g1 g3 k1 k3
  refine ⟨n, o, g1, g2, g3, ?_, g5⟩
  rcases hr with rfl | rfl | rfl
  · obtain ⟨⟨u, e1, q1, q2⟩, q3⟩ := g4
    obtain ⟨⟨u', e1', q1', q2'⟩, q3'⟩ := k4
    exact ⟨⟨u, e1, ⟨q1, u', q1', _, q2.1, q2'.1⟩, q2⟩, q3⟩
  · obtain ⟨⟨r, u, e1, q1, q2⟩, q3⟩ := g4
    obtain ⟨⟨r', u', e1', q1', q2'⟩, q3'⟩ := k4
    rw [e1] at e1'
    cases e1'
    exact ⟨⟨r, u, e1, ⟨q1, u', q1', _, q2.1, q2'.1⟩, q2⟩, q3⟩
  · obtain ⟨⟨r, u, e1, q1, q2⟩, q3⟩ := g4
    obtain ⟨⟨r', u', e1', q1', q2'⟩, q3'⟩ := k4
    rw [e1] at e1'
    cases e1'
    exact ⟨⟨r, u, e1, ⟨q1, u', q1', _, q2.1, q2'.1⟩, q2⟩, q3⟩
/-- cells of ints that a heap alone says, and that are there -/
def xy_c (r k : Nat) : Bool := xy_t r k && (y_ty yTY r k).isSome
/-- rows that groups speak of -/
def goL : List Nat := [14, 15, 27, 28, 134, 135, 166, 167, 193, 194, 137, 138, 139]
theorem go_lt : ∀ r ∈ goL, r < 209 := by decide
theorem go_T : ∀ r ∈ goL, ∃ sg, y_T yTY r = some (.inr (.inl (0, sg))) := List.forall_mem_cons.mpr ⟨⟨_, rfl⟩, List.forall_mem_cons.mpr ⟨⟨_, rfl⟩, List.forall_mem_cons.mpr ⟨⟨_, rfl⟩, List.forall_mem_cons.mpr ⟨⟨_, rfl⟩, List.forall_mem_cons.mpr ⟨⟨_, rfl⟩, List.forall_mem_cons.mpr ⟨⟨_, rfl⟩, List.forall_mem_cons.mpr ⟨⟨_, rfl⟩, List.forall_mem_cons.mpr ⟨⟨_, rfl⟩, List.forall_mem_cons.mpr ⟨⟨_, rfl⟩, List.forall_mem_cons.mpr ⟨⟨_, rfl⟩, List.forall_mem_cons.mpr ⟨⟨_, rfl⟩, List.forall_mem_cons.mpr ⟨⟨_, rfl⟩, List.forall_mem_cons.mpr ⟨⟨_, rfl⟩, fun _ h => absurd h List.not_mem_nil⟩⟩⟩⟩⟩⟩⟩⟩⟩⟩⟩⟩⟩
theorem go_G : ∀ g ∈ yGR, g.1 ∈ goL ∧ ∀ q ∈ g.2.2, q.1 ∈ goL := by decide
theorem go_c {kc : Nat → ClassId} {ad : Nat → Option Nat} {ws : va_W} (hw : y_w kc ad yTY ws) {r : Nat} (hr : r ∈ goL) {k : Nat} {x : Int32} (hx : y_at ws r k = some x) : xy_c r k = true := by
  obtain ⟨sg, hT⟩ := go_T r hr
  rcases Nat.lt_or_ge k (y_len sg) with h | h
  · obtain ⟨q, hq⟩ := y_seg_some h
    unfold xy_c xy_t y_ty
    rw [hT]
    dsimp only
    rw [hq]
    rfl
  · rw [(xy_row hw hT k).2 h] at hx
    cases hx
/-- what binds rows of a world, said of a store -/
def goI (kc : Nat → ClassId) (ad : Nat → Option Nat) (I : xF) : Prop := ∀ ws, y_w kc ad yTY ws → (∀ r ∈ goL, ∀ k x, y_at ws r k = some x → x.toInt = I r k) → y_Go yGR ws
theorem goI_fr {kc : Nat → ClassId} {ad : Nat → Option Nat} {I I' : xF} (h : goI kc ad I) (hf : ∀ r ∈ goL, ∀ k, xy_c r k = true → I' r k = I r k) : goI kc ad I' := fun ws hw ha => h ws hw (fun r hr k x hx => (ha r hr k x hx).trans (hf r hr k (go_c hw hr hx)))
theorem goI_of {kc : Nat → ClassId} {ad : Nat → Option Nat} {ws0 : va_W} (hw0 : y_w kc ad yTY ws0) (hG : y_Go yGR ws0) : goI kc ad (x_of ws0 x_0) := by
  intro ws hw ha i g hg j x hx h1 h2 q hq y hy
  have hm := List.mem_of_getElem? hg
  have key : ∀ r ∈ goL, ∀ (k : Nat) (z : Int32), y_at ws r k = some z → y_at ws0 r k = some z := by
    intro r hr k z hz
    obtain ⟨sg, hT⟩ := go_T r hr
    rcases Nat.lt_or_ge k (y_len sg) with h | h
    · obtain ⟨z0, hz0⟩ := (xy_row hw0 hT k).1 h
      have h9 := ha r hr k z hz
      unfold x_of at h9
      rw [hz0] at h9
      rw [hz0]
      exact congrArg some (y_i32 h9.symm)
    · rw [(xy_row hw hT k).2 h] at hz
      cases hz
  exact hG i g hg j x (key _ (go_G g hm).1 j x hx) h1 h2 q hq y (key _ ((go_G g hm).2 q hq) j y hy)
section XS1
variable {EX : (Nat → Prop) → State → Heap → Prop} {l : Launch} {kc : Nat → ClassId} {D : va_G} {xb : Nat} {ad : Nat → Option Nat}
theorem x_andY (hE : z_EX EX) {j d0 d1 : Nat} {Pre : xPre} {Post : xPost} {K : yCon} {za0 : List xV} {M : yM} (hX : x_Ok EX l zTB zNT kc D vwCl xb yTY ad yP0 j d0 Pre Post) (hK : y_ConOk EX l zTB zNT kc D vwCl xb yTY yGR w_R ad yP0 K) (e0 : K.1 = j) (hM : yP0 j = some M) (hr : M.2.2.2.1 = none ∨ M.2.2.2.1 = some .int ∨ M.2.2.2.1 = some .boolean) (e1 : K.2.2.1 = []) (e2 : K.2.2.2.2.2.2.2.all (fun rk => (y_ty yTY rk.1 rk.2).isSome) = true) (e3 : K.2.2.2.2.2.2.1 = false) (hd0 : d0 ≤ d1) (hd1 : K.2.2.2.2.2.1 ≤ d1) (hza : ∀ av, z_L (x_v ad) za0 av → z_L (y_pv ad) K.2.1 av) : x_Ok EX l zTB zNT kc D vwCl xb yTY ad yP0 j d1 (fun za I L => Pre za I L ∧ za = za0 ∧ goI kc ad I) (fun za I L rv I' L' => Post za I L rv I' L' ∧ ∀ r k, xy_c r k = true → y_in K.2.2.2.2.1 r k = false → I' r k = I r k) := by
  intro y cc maxL ret tab na sp hP d hd za av ws sz I L hav ⟨hpre, hz0, hgo⟩ hag hwt had
  obtain ⟨env0, hnam⟩ := y_names hwt e2
  have m1 := hX y cc maxL ret tab na sp hP d (by omega) za av ws sz I L hav hpre hag hwt had
  have m2 := hK y cc maxL ret tab na sp (by rw [e0]; exact hP) d (by omega) av ws sz env0 (hza av (by rw [← hz0]; exact hav)) (fun f hf => by rw [e1] at hf; cases hf) (fun h => by rw [e3] at h; cases h) (hgo ws hwt (fun r _ k x hx => hag.1 r k x hx)) hwt had hnam
  have hret : ret = none ∨ ret = some .int ∨ ret = some .boolean := by
    rw [hM] at hP
    cases hP
    exact hr
  refine y_Met_conv (xy_and3 hret m1 m2) (fun rv u hpo => ?_)
  obtain ⟨⟨zr, I', L', q1, q2, q3, q4, q5⟩, u2, ⟨o, ho, p1, p2, p3, p4, p5, p6, p7⟩, H9, t1, t9⟩ := hpo
  refine ⟨zr, I', L', q1, q2, ⟨q3, fun r k hc hin => ?_⟩, q4, q5⟩
  unfold xy_c at hc
  rw [Bool.and_eq_true] at hc
  obtain ⟨q, hq⟩ := Option.isSome_iff_exists.mp hc.2
  obtain ⟨x, x1, _⟩ := y_ty_ok hwt hq
  have e := xy_same q4 p5 q5 p7 t1 t9 hc.1
  rw [p6 r k hin, x1] at e
  rw [← q2.1 r k x e, hag.1 r k x x1]
/-! ===== the class's capital() ===== -/
def c_cap (r : (Int × Int) ⊕ (Int × pS)) (rv : Option xV) (I I' : xF) : Prop := match r with
  | .inl (at0, f) => rv = some (.inl (-1 - at0)) ∧ I' 0 10 = f ∧ (∀ k, k < 8 → I' 4 k = I 4 k) ∧ ∀ k, k < 8 → I' 7 k = I 7 k
  | .inr (q, σ) => rv = some (.inl q) ∧ I' 0 10 = 0 ∧ (I' 4 0 = σ.1.length ∧ I' 4 1 = σ.2.1.length ∧ I' 4 2 = σ.2.2.1.length ∧ I' 4 3 = σ.2.2.2.1.length) ∧ (∀ j : Nat, j < 4 → I' 4 (4 + j) = σ.2.2.2.2.2 j) ∧ (σ.2.1.length ≤ 6 ∧ σ.2.2.1.length ≤ 8) ∧ p_own σ.2.1 σ.2.2.1.length σ.2.2.2.2.2 (I' 7)
def xr_cc2 (kc : Nat → ClassId) (ad : Nat → Option Nat) : xPre := fun za I _ => za = [xR 1] ∧ (0 ≤ I 1 2 ∧ I 1 2 ≤ 940) ∧ goI kc ad I
def xo_cc2 : xPost := fun _ I L rv I' L' => c_cap (p_text (I 2) (I 1 2)) rv I I' ∧ I' 1 2 = 0
def ct_cc2 (kc : Nat → ClassId) (ad : Nat → Option Nat) : List (Nat × Nat × xPre × xPost) := [(39, 5, (fun za I L => xr_rt za I L ∧ za = [xR 17] ∧ goI kc ad I), (fun za I L rv I' L' => xo_rt za I L rv I' L' ∧ ∀ r k, xy_c r k = true → y_in yk_44.2.2.2.2.1 r k = false → I' r k = I r k)), (155, 0, xr_ct, xo_ct), (32, 1, xr2 4 17, xo_lc2 4 17), (67, 1, xr_bg, xo_fr119), (54, 0, xr_sc, xo_sc), (50, 0, xr_pc, xo_pc)]
theorem ct_cc2_ok (hE : z_EX EX) : x_ctok EX l zTB zNT kc D vwCl xb yTY ad yP0 (x_ctl (ct_cc2 kc ad)) := x_ctl_cons (x_andY (K := yk_44) (M := ym_X4_readText) hE (xk_rt hE) (y_cons hE (j := 39) (show yk_44 ∈ y_cget yCTab 39 from List.mem_cons_self)) rfl rfl (Or.inr (Or.inr rfl)) rfl rfl rfl (by decide) (by decide) (fun av h => x_ar1 h)) (x_ctl_cons (xk_ct hE) (x_ctl_cons (xk_lc_4_17 hE) (x_ctl_cons (xk_bg hE) (x_ctl_cons (xk_sc hE) (x_ctl_cons (xk_pc hE) x_ctl_nil)))))
theorem xs_4 : ∀ k : Fin 8, (xy_c 4 k.val = true ∧ y_in yk_44.2.2.2.2.1 4 k.val = false) ∧ xy_c 7 k.val = true ∧ y_in yk_44.2.2.2.2.1 7 k.val = false := by decide +kernel
theorem xk_cc2 (hE : z_EX EX) : x_Ok EX l zTB zNT kc D vwCl xb yTY ad yP0 116 6 (xr_cc2 kc ad) xo_cc2 := by
  refine x_meth2 (M := ym_X11_capital) hE y_prog 60 rfl (by decide) (ct_cc2_ok hE) (fun za I L ⟨h, _⟩ => by subst h; exact (by decide : 1 ≤ 2)) (fun za I L ⟨h, ⟨h0, h1⟩, hg⟩ => ?_)
  subst h
  refine And.intro ⟨⟨rfl, h0, h1⟩, rfl, hg⟩ ?_
  rintro rv I1 L1 ⟨hp, hfr⟩
  have hp : c_text (p_text (I 2) (I 1 2)) rv I1 L1 := hp
  rcases hr : p_text (I 2) (I 1 2) with ⟨at0, f0⟩ | ⟨q, σ⟩
  · rw [hr] at hp
    obtain ⟨rfl, l1, l2⟩ := hp
    refine And.intro rfl ?_
    rintro rv I2 L2 ⟨rfl, rfl, rfl⟩
    refine And.intro (fun q => absurd rfl q) (fun _ => ?_)
    intro z (hz : z = I1 1 10) (bz : 0 ≤ z ∧ z ≤ 940)
    refine Or.inl ⟨by omega, ?_⟩
    refine ⟨?_, rfl⟩
    rw [hr]
    refine ⟨by rw [hz, l2], l1, fun k hk => ?_, fun k hk => ?_⟩
    · have h9 := xs_4 ⟨k, hk⟩
      exact hfr 4 k h9.1.1 h9.1.2
    · have h9 := xs_4 ⟨k, hk⟩
      exact hfr 7 k h9.2.1 h9.2.2
  · rw [hr] at hp
    obtain ⟨rfl, l1, l2, l3⟩ := hp
    refine And.intro rfl ?_
    rintro rv I2 L2 ⟨rfl, rfl, rfl⟩
    refine And.intro (fun _ => ?_) (fun q => absurd q (by decide))
    refine And.intro rfl ?_
    rintro rv I3 L3 ⟨rfl, rfl, rfl⟩
    refine And.intro rfl ?_
    rintro rv I4 L4 ⟨rfl, f4⟩
    refine And.intro rfl ?_
    rintro rv I5 L5 ⟨rfl, rfl, rfl⟩
    refine And.intro rfl ?_
    rintro rv I6 L6 ⟨rfl, rfl, rfl⟩
    intro z (hz : z = I4 16 2) _
    have e1 : I4 16 2 = q := by
      rw [f4 16 2 (by decide)]
      exact l2
    have e2 : I4 1 2 = 0 := by
      rw [f4 1 2 (by decide)]
      rfl
    have e3 : I4 0 10 = 0 := by
      rw [f4 0 10 (by decide)]
      exact l1
    have e4 : ∀ k, k < 8 → I4 4 k = I1 17 k := by
      intro k hk
      rw [f4 4 k (xy_noreg (by decide) k)]
      match k, hk with
      | 0, _ => rfl
      | 1, _ => rfl
      | 2, _ => rfl
      | 3, _ => rfl
      | 4, _ => rfl
      | 5, _ => rfl
      | 6, _ => rfl
      | 7, _ => rfl
      | k + 8, hk => omega
    have e7 : ∀ k, k < 8 → I4 7 k = I1 20 k := by
      intro k hk
      rw [f4 7 k (xy_noreg (by decide) k)]
      match k, hk with
      | 0, _ => rfl
      | 1, _ => rfl
      | 2, _ => rfl
      | 3, _ => rfl
      | 4, _ => rfl
      | 5, _ => rfl
      | 6, _ => rfl
      | 7, _ => rfl
      | k + 8, hk => omega
    refine ⟨?_, e2⟩
    rw [hr]
    obtain ⟨g1, g2, g3, g4, g5, g6⟩ := l3
    refine ⟨by rw [hz, e1], e3, ⟨(e4 0 (by decide)).trans g1.1, (e4 1 (by decide)).trans g1.2.1, (e4 2 (by decide)).trans g1.2.2.1, (e4 3 (by decide)).trans g1.2.2.2⟩, fun j hj => (e4 (4 + j) (by omega)).trans (g6.1 j hj), ⟨g2.2.1, g2.2.2.1⟩, p_own_eq g6.2 (fun c hc => e7 c (by have := g2.2.2.1; omega))⟩
/-! ===== the reference's capital() ===== -/
def r_cap (r : (Int × Int) ⊕ (Int × pS)) (rv : Option xV) (I I' : xF) : Prop := match r with
  | .inl (at0, f) => rv = some (.inl (-1 - at0)) ∧ I' 209 15 = f ∧ ∀ t, t < 62 → I' 211 t = I 211 t
  | .inr (q, σ) => rv = some (.inl q) ∧ I' 209 15 = 0 ∧ (I' 211 0 = σ.1.length ∧ I' 211 1 = σ.2.1.length ∧ I' 211 2 = σ.2.2.1.length ∧ I' 211 7 = σ.2.2.2.1.length) ∧ (∀ j : Nat, j < 4 → I' 211 (3 + j) = σ.2.2.2.2.2 j) ∧ p_own σ.2.1 σ.2.2.1.length σ.2.2.2.2.2 (fun c => I' 211 (22 + c))
def xr_cap2 (kc : Nat → ClassId) (ad : Nat → Option Nat) : xPre := fun za I _ => za = [xR 210] ∧ (0 ≤ I 209 2 ∧ I 209 2 ≤ 940) ∧ goI kc ad I
def xo_cap2 : xPost := fun _ I L rv I' L' => r_cap (p_text (r_b I) (I 209 2)) rv I I'
def xr_ln2 (kc : Nat → ClassId) (ad : Nat → Option Nat) : xPre := fun za I L => r_pre0 za I L ∧ za = [xR 210] ∧ goI kc ad I
def xo_ln2 : xPost := fun za I L rv I' L' => r_post0 p_line za I L rv I' L' ∧ ∀ r k, xy_c r k = true → y_in yk_281.2.2.2.2.1 r k = false → I' r k = I r k
def ct_cap2 (kc : Nat → ClassId) (ad : Nat → Option Nat) : List (Nat × Nat × xPre × xPost) := [(165, 0, xr_tn2, xo_tn2), (171, 0, xr_m, xo_cl), (175, 1, xr_next, xo_next), (188, 5, xr_ln2 kc ad, xo_ln2), (179, 2, xr_sg, xo_sg)]
theorem ct_cap2_ok (hE : z_EX EX) : x_ctok EX l zTB zNT kc D vwCl xb yTY ad yP0 (x_ctl (ct_cap2 kc ad)) := x_ctl_cons (xk_tn2 hE) (x_ctl_cons (xk_cl hE) (x_ctl_cons (xk_next hE) (x_ctl_cons (x_andY (K := yk_281) (M := ym_X12_line) hE (xk_ln hE) (y_cons hE (j := 188) (show yk_281 ∈ y_cget yCTab 188 from List.mem_cons_self)) rfl rfl (Or.inr (Or.inr rfl)) rfl (by decide +kernel) rfl (by decide) (by decide) (fun av h => x_ar1 h)) (x_ctl_cons (xk_sg hE) x_ctl_nil))))
def rs_hf (σ : pS) (I : xF) : Prop := (I 212 0 = σ.1.length ∧ I 212 1 = σ.2.1.length ∧ I 212 2 = σ.2.2.1.length ∧ I 212 7 = σ.2.2.2.1.length) ∧ (∀ j : Nat, j < 4 → I 212 (3 + j) = σ.2.2.2.2.2 j) ∧ σ.2.2.1.length ≤ 8 ∧ p_own σ.2.1 σ.2.2.1.length σ.2.2.2.2.2 (fun c => I 212 (22 + c))
def x_cpI2 (za : List xV) (I L : xF) (m pc : Nat) (lv : List (Nat × xV)) (sv : List xV) (I' L' : xF) : Prop := sv = [] ∧ za = [xR 210] ∧ (∀ r k, r < 209 → xy_c r k = true → I' r k = I r k) ∧
  ((pc = 35 ∧ lv = [(0, xR 210)] ∧ (∀ t, t < 62 → I' 211 t = I 211 t) ∧ ∃ f q σ T pos, r_all (r_b I) (I 209 2) q σ T I' L' ∧ p_inv (r_b I) (I 209 2) f q σ T pos ∧ m = 2000 + f) ∨
   (∃ (q : Int) (σ : pS) (i : Nat), p_text (r_b I) (I 209 2) = .inr (q, σ) ∧ (I' 209 19 = q ∧ I' 209 15 = 0) ∧ rs_hf σ I' ∧ lv = [(0, xR 210), (1, .inl (i : Int))] ∧ ((pc = 80 ∧ i ≤ 299 ∧ m = 1000 + (299 - i) ∧ ∀ t, t < i → t < 62 → I' 211 t = I' 212 t) ∨ ((∀ t, t < 62 → I' 211 t = I' 212 t) ∧ ((pc = 117 ∧ i ≤ 22 ∧ m = 500 + (22 - i)) ∨ (pc = 146 ∧ i ≤ 8 ∧ m = 8 - i))))))
theorem xs_211 : ∀ t : Fin 62, xy_c 211 t.val = true := by decide +kernel
theorem xs_281 : ∀ q ∈ yk_281.2.2.2.2.1, 209 ≤ q.1 := by decide +kernel
theorem xs_281lt {r k : Nat} (h : r < 209) : y_in yk_281.2.2.2.2.1 r k = false := y_in_no (fun q hq h1 => by have := xs_281 q hq; omega)
theorem x_sN_lt {r k : Nat} (h : r < 209) : x_sN r k = false := by
  unfold x_sN
  cases hb : Nat.beq r 209 with
  | true => exact absurd (Nat.eq_of_beq_eq_true hb) (by omega)
  | false => rfl
theorem x_s212_lt {r k : Nat} (h : r < 209) : x_s212 r k = false := by
  unfold x_s212
  cases hb : Nat.beq r 212 with
  | true => exact absurd (Nat.eq_of_beq_eq_true hb) (by omega)
  | false => rfl
set_option maxRecDepth 20000 in
set_option maxHeartbeats 8000000 in
theorem xk_cap2 (hE : z_EX EX) : x_Ok EX l zTB zNT kc D vwCl xb yTY ad yP0 190 6 (xr_cap2 kc ad) xo_cap2 := by
  refine x_loop (M := ym_X12_capital) hE y_prog 90 rfl (by decide) (ct_cap2_ok hE) (fun za I L ⟨h, _⟩ => by subst h; exact (by decide : 1 ≤ 2)) x_cutC x_cpI2 (fun za I L ⟨h, ⟨h0, h1⟩, hg⟩ => ?_) (fun za I L ⟨_, _, hg⟩ m pc lv sv I' L' hc hi => ?_)
  · subst h
    refine And.intro (by decide) ?_
    refine And.intro ⟨900, rfl, by decide, by decide⟩ ?_
    rintro rv I1 L1 ⟨m, hm, rfl, rfl, rfl⟩
    cases hm
    refine And.intro (by decide) ?_
    refine And.intro (by decide) ?_
    refine And.intro (by decide) ?_
    refine And.intro rfl ?_
    rintro rv I2 L2 ⟨rfl, rfl, hfi, hz⟩
    have e : ∀ k, I2 209 k = x_u (x_u (x_u (x_u (x_u (x_u (x_u (x_u I 209 0 0) 209 3 (I 209 2)) 209 2 0) 209 4 0) 209 5 900) 209 15 0) 209 19 0) 209 20 0 209 k := fun k => hfi 209 k rfl
    have e3 : I2 209 3 = I 209 2 := e 3
    have e4 : I2 209 4 = 0 := e 4
    have e5 : I2 209 5 = 900 := e 5
    have e19 : I2 209 19 = 0 := e 19
    have e20 : I2 209 20 = 0 := e 20
    have eb : r_b I2 = r_b I := funext (fun j => by unfold r_b; rw [hfi 210 j rfl]; rfl)
    refine And.intro ⟨rfl, by omega, by omega, by omega, by omega, by omega⟩ ?_
    rintro rv I3 L3 ⟨rfl, f1, f2, f3⟩
    rw [eb, e3, e4, e5] at f3
    have f12 : ∀ k, I3 212 k = I2 212 k := fun k => f1 212 k rfl
    refine ⟨3000, [(0, xR 210)], ⟨rfl, trivial⟩, rfl, rfl, fun r k hr _ => ?_, Or.inl ⟨rfl, rfl, fun t _ => ?_, 1000, 0, p_s0, _, 0, ⟨⟨(r_b_fi f1).trans eb, (f1 209 3 rfl).trans e3, (f1 209 5 rfl).trans e5, ⟨h0, h1⟩, (f1 209 19 rfl).trans e19, (f1 209 15 rfl).trans (e 15)⟩, f3, fun hq => ?_, ⟨(f12 0).trans (hz 0 (by decide)), (f12 1).trans (hz 1 (by decide)), (f12 2).trans (hz 2 (by decide)), (f12 7).trans (hz 7 (by decide))⟩, ⟨by decide, by decide, by decide, by decide⟩, ⟨fun i hi => absurd hi (Nat.not_lt_zero i), fun i hi => absurd hi (Nat.not_lt_zero i), fun i hi => absurd hi (Nat.not_lt_zero i)⟩, fun i hi => absurd hi (Nat.not_lt_zero i), ⟨by rw [f1 209 20 rfl]; omega, by rw [f1 209 20 rfl]; omega, fun j hj => by rw [f1 209 20 rfl, e20]; exact Nat.zero_testBit _⟩, fun j hj => ?_, fun c hc9 => absurd hc9 (Nat.not_lt_zero c)⟩, p_inv_0 h0 h1, rfl⟩⟩
    · have hn : r ≠ 209 := by omega
      rw [f1 r k (x_sN_lt hr), hfi r k (x_s212_lt hr), x_u_r hn, x_u_r hn, x_u_r hn, x_u_r hn, x_u_r hn, x_u_r hn, x_u_r hn, x_u_r hn]
    · rw [f1 211 t rfl, hfi 211 t rfl]
      rfl
    · have := t_tok_pos (b := r_b I) (most := 900) (Int.le_refl 0) h0 hq
      omega
    · rw [f12]
      match j, hj with
      | 0, _ => exact hz 3 (by decide)
      | 1, _ => exact hz 4 (by decide)
      | 2, _ => exact hz 5 (by decide)
      | 3, _ => exact hz 6 (by decide)
      | j + 4, hj => omega
  · obtain ⟨rfl, rfl, hFr, h35 | ⟨q, σ, i, htx, h19, hst, rfl, h80 | ⟨h11, h117 | h146⟩⟩⟩ := hi
    · obtain ⟨rfl, rfl, h11, f, q, σ, T, pos, h, hinv, rfl⟩ := h35
      intro k (hk : k = I' 209 11) _
      refine And.intro ?_ ?_
      · intro t1
        have hT := (r_tok_end h.2.1).mp (by omega)
        obtain ⟨s1, s2, _, _, _, s6⟩ := h.2.2.2
        exact ⟨1299, [(0, xR 210), (1, .inl ((0 : Nat) : Int))], by omega, ⟨rfl, rfl, trivial⟩, rfl, rfl, hFr, Or.inr ⟨q, σ, 0, p_inv_end hinv hT, h.1.2.2.2.2, ⟨s1, s6.1, s2.2.2.1, s6.2⟩, rfl, Or.inl ⟨rfl, by omega, rfl, fun t ht => absurd ht (Nat.not_lt_zero t)⟩⟩⟩
      · intro t1
        have hT : T.1 ≠ 0 := fun q => t1 (by have := (r_tok_end h.2.1).mpr q; omega)
        refine And.intro ⟨⟨rfl, _, _, _, _, _, h⟩, rfl, goI_fr hg (fun r hr k hc => hFr r k (go_lt r hr) hc)⟩ ?_
        rintro rv I1 L1 ⟨hp, hfr1⟩
        have hp1 := hp _ _ _ _ _ h
        have hFr1 : ∀ r k, r < 209 → xy_c r k = true → I1 r k = I r k := fun r k hr hc => (hfr1 r k hc (xs_281lt hr)).trans (hFr r k hr hc)
        have h11a : ∀ t, t < 62 → I1 211 t = I 211 t := fun t ht => (hfr1 211 t (xs_211 ⟨t, ht⟩) (xy_noreg (by decide +kernel) t)).trans (h11 t ht)
        rcases hr : p_line (r_b I) (I 209 2) σ T with ⟨at0, f0⟩ | ⟨σ1, T1⟩
        · rw [hr] at hp1
          obtain ⟨rfl, l1, l2⟩ := hp1
          refine And.intro (fun _ => ?_) (fun q => absurd rfl q)
          intro z (hz : z = I1 209 16) (bz : 0 ≤ z ∧ z ≤ 940)
          refine Or.inl ⟨by omega, ?_⟩
          unfold xo_cap2
          rw [p_inv_bad hinv hT hr]
          exact ⟨by rw [hz, l2], l1, h11a⟩
        · rw [hr] at hp1
          obtain ⟨rfl, hc1⟩ := hp1
          refine And.intro (fun q => absurd q (by decide)) (fun _ => ?_)
          refine And.intro ⟨59, rfl, fun hk5 => r_all_bh hc1 (by have := (r_tok_sign hc1.2.1).1.mp hk5; omega)⟩ ?_
          rintro rv I2 L2 ⟨x, hx, ⟨g1, g2, rfl, hadv⟩ | ⟨g1, rfl, g3, g4⟩⟩
          · cases hx
            have h5 := (r_tok_sign hc1.2.1).1.mp g1
            have h59 := (r_tok_sign hc1.2.1).2 g1
            have hc2 := r_all_next (by omega) hc1 hadv
            obtain ⟨f', rfl, hinv'⟩ := p_inv_go hinv hT hr ⟨h5, by omega⟩
            obtain ⟨⟨a1, a2, a3, a4, a5⟩, c2, c3, c4⟩ := hc2
            have hq := hinv.2.2.1
            have hpo := hinv.2.1
            refine And.intro (fun _ => ?_) (fun q => absurd q (by decide))
            intro z2 (hz2 : z2 = I2 209 19) _
            have a51 := a5.1
            refine Or.inl ⟨by omega, ?_⟩
            refine And.intro (show -2147483648 ≤ z2 + 1 ∧ z2 + 1 ≤ 2147483647 by omega) ?_
            refine ⟨2000 + f', [(0, xR 210)], by omega, ⟨rfl, trivial⟩, rfl, rfl, fun r k hr2 hc9 => ?_, Or.inl ⟨rfl, rfl, fun t ht => ?_, f', q + 1, σ1, _, T1.2.2.1, ⟨⟨a1, a2, a3, a4, (show z2 + 1 = q + 1 by omega), a5.2⟩, c2, c3, c4⟩, hinv', rfl⟩⟩
            · rw [x_u_r (show r ≠ 209 by omega), hadv.2.1 r k (x_sN_lt hr2)]
              exact hFr1 r k hr2 hc9
            · show I2 211 t = _
              rw [hadv.2.1 211 t rfl]
              exact h11a t ht
          · cases hx
            subst g3
            subst g4
            refine And.intro (fun q => absurd rfl q) (fun _ => ?_)
            intro z (hz : z = I1 209 12) (bz : 0 ≤ z ∧ z ≤ 940)
            refine Or.inl ⟨by omega, ?_⟩
            unfold xo_cap2
            rw [p_inv_bad2 hinv hT hr (fun q => g1 ⟨(r_tok_sign hc1.2.1).1.mpr q.1, by rw [(r_tok_sign hc1.2.1).2 ((r_tok_sign hc1.2.1).1.mpr q.1)]; exact q.2⟩)]
            exact ⟨by rw [hz, hc1.2.1.1], rfl, h11a⟩
    · obtain ⟨rfl, hi, rfl, h11⟩ := h80
      have hti : ((i : Int)).toNat = i := by omega
      refine And.intro ?_ ?_
      · intro t1
        exact ⟨522, [(0, xR 210), (1, .inl ((0 : Nat) : Int))], by omega, ⟨rfl, rfl, trivial⟩, rfl, rfl, hFr, Or.inr ⟨q, σ, 0, htx, h19, hst, rfl, Or.inr ⟨fun t ht => h11 t (by omega) ht, Or.inl ⟨rfl, by omega, rfl⟩⟩⟩⟩
      · intro t1
        refine And.intro ?_ ?_
        · intro t2
          refine And.intro (show 0 ≤ (i : Int) ∧ (i : Int) < 299 by omega) ?_
          refine And.intro (fun w hw => ?_) ?_
          · have hw : y_seg x_sgS ((i : Int)).toNat = some w := hw
            rw [hti, show i = 62 + (i - 62) by omega] at hw
            exact x_bnd_ok (x_sgS0 ⟨i - 62, by omega⟩) w hw
          have hA : ∀ t, t < i + 1 → t < 62 → x_u I' 211 ((i : Int)).toNat 0 211 t = I' 212 t := fun t ht ht2 => by
            rw [x_u_if, if_neg (by omega)]
            exact h11 t (by omega) ht2
          exact Or.inl ⟨by omega, 1000 + (299 - (i + 1)), [(0, xR 210), (1, .inl ((i + 1 : Nat) : Int))], by omega, ⟨rfl, rfl, trivial⟩, rfl, rfl, (fun r k hr2 hc9 => (x_u_r (show r ≠ 211 by omega)).trans (hFr r k hr2 hc9)), Or.inr ⟨q, σ, i + 1, htx, h19, hst, rfl, Or.inl ⟨rfl, by omega, rfl, hA⟩⟩⟩
        · intro t2
          refine And.intro (show 0 ≤ (i : Int) ∧ (i : Int) < 62 by omega) ?_
          intro z hz0 hsz
          have hz0 : z = I' 212 i := hz0
          refine And.intro (show 0 ≤ (i : Int) ∧ (i : Int) < 299 by omega) ?_
          refine And.intro (fun w hw => ?_) ?_
          · have hw : y_seg x_sgS ((i : Int)).toNat = some w := hw
            have h9 : y_seg x_sgS ((i : Int)).toNat = y_seg x_sgH ((i : Int)).toNat := by rw [hti]; exact x_sgSH ⟨i, by omega⟩
            rw [h9] at hw
            exact hsz w hw
          have hA : ∀ t, t < i + 1 → t < 62 → x_u I' 211 ((i : Int)).toNat z 211 t = I' 212 t := fun t ht ht2 => by
            rw [x_u_if]
            by_cases hti2 : t = i
            · rw [if_pos (by omega), hti2]
              exact hz0
            · rw [if_neg (by omega)]
              exact h11 t (by omega) ht2
          exact Or.inl ⟨by omega, 1000 + (299 - (i + 1)), [(0, xR 210), (1, .inl ((i + 1 : Nat) : Int))], by omega, ⟨rfl, rfl, trivial⟩, rfl, rfl, (fun r k hr2 hc9 => (x_u_r (show r ≠ 211 by omega)).trans (hFr r k hr2 hc9)), Or.inr ⟨q, σ, i + 1, htx, h19, hst, rfl, Or.inl ⟨rfl, by omega, rfl, hA⟩⟩⟩
    · obtain ⟨rfl, hi, rfl⟩ := h117
      refine And.intro ?_ ?_
      · intro t1
        exact ⟨8, [(0, xR 210), (1, .inl ((0 : Nat) : Int))], by omega, ⟨rfl, rfl, trivial⟩, rfl, rfl, hFr, Or.inr ⟨q, σ, 0, htx, h19, hst, rfl, Or.inr ⟨h11, Or.inr ⟨rfl, by omega, rfl⟩⟩⟩⟩
      · intro t1
        refine Or.inl ⟨by omega, ?_⟩
        refine And.intro (show 0 ≤ 22 + (i : Int) ∧ 22 + (i : Int) < 44 by omega) ?_
        intro z _ _
        refine And.intro (show 0 ≤ (i : Int) ∧ (i : Int) < 44 by omega) ?_
        exact Or.inl ⟨by omega, 500 + (22 - (i + 1)), [(0, xR 210), (1, .inl ((i + 1 : Nat) : Int))], by omega, ⟨rfl, rfl, trivial⟩, rfl, rfl, hFr, Or.inr ⟨q, σ, i + 1, htx, h19, hst, rfl, Or.inr ⟨h11, Or.inl ⟨rfl, by omega, rfl⟩⟩⟩⟩
    · obtain ⟨rfl, hi, rfl⟩ := h146
      refine And.intro ?_ ?_
      · intro t1
        refine And.intro (by decide) ?_
        intro z (hz : z = I' 209 19) _
        unfold xo_cap2
        rw [htx]
        obtain ⟨s1, s6⟩ := hst
        exact ⟨by rw [hz, h19.1], h19.2, ⟨(h11 0 (by decide)).trans s1.1, (h11 1 (by decide)).trans s1.2.1, (h11 2 (by decide)).trans s1.2.2.1, (h11 7 (by decide)).trans s1.2.2.2⟩, fun j hj => (h11 (3 + j) (by omega)).trans (s6.1 j hj), p_own_eq s6.2.2 (fun c hc => h11 (22 + c) (by have := s6.2.1; omega))⟩
      · intro t1
        have hk := x_sgS8 ⟨i, by omega⟩
        refine Or.inl ⟨by omega, ?_⟩
        refine Or.inl ⟨by omega, ?_⟩
        refine And.intro (show 0 ≤ 22 + (i : Int) ∧ 22 + (i : Int) < 299 by omega) ?_
        intro z1 _ hs1
        have b1 : 0 ≤ z1 ∧ z1 ≤ 5 := hs1 (0, 5) (by show y_seg x_sgS (22 + (i : Int)).toNat = _; rw [show (22 + (i : Int)).toNat = 22 + i by omega]; exact hk.1)
        refine And.intro (show 0 ≤ 65 + (i : Int) ∧ 65 + (i : Int) < 299 by omega) ?_
        refine And.intro (fun w hw => ?_) ?_
        · have hw : y_seg x_sgS (65 + (i : Int)).toNat = some w := hw
          rw [show (65 + (i : Int)).toNat = 65 + i by omega] at hw
          have := x_bnd_ok hk.2.2.1 w hw
          omega
        refine Or.inl ⟨by omega, ?_⟩
        refine Or.inl ⟨by omega, ?_⟩
        refine And.intro (show 0 ≤ 22 + (i : Int) ∧ 22 + (i : Int) < 299 by omega) ?_
        intro z2 _ hs2
        have b2 : 0 ≤ z2 ∧ z2 ≤ 5 := hs2 (0, 5) (by show y_seg x_sgS (22 + (i : Int)).toNat = _; rw [show (22 + (i : Int)).toNat = 22 + i by omega]; exact hk.1)
        refine And.intro (show 0 ≤ 73 + (i : Int) ∧ 73 + (i : Int) < 299 by omega) ?_
        refine And.intro (fun w hw => ?_) ?_
        · have hw : y_seg x_sgS (73 + (i : Int)).toNat = some w := hw
          rw [show (73 + (i : Int)).toNat = 73 + i by omega] at hw
          have := x_bnd_ok hk.2.2.2.1 w hw
          omega
        refine Or.inl ⟨by omega, ?_⟩
        refine Or.inl ⟨by omega, ?_⟩
        refine And.intro (show 0 ≤ 38 + (i : Int) ∧ 38 + (i : Int) < 299 by omega) ?_
        intro z3 _ hs3
        have b3 : 0 ≤ z3 ∧ z3 ≤ 99 := hs3 (0, 99) (by show y_seg x_sgS (38 + (i : Int)).toNat = _; rw [show (38 + (i : Int)).toNat = 38 + i by omega]; exact hk.2.1)
        refine And.intro (show 0 ≤ 81 + (i : Int) ∧ 81 + (i : Int) < 299 by omega) ?_
        refine And.intro (fun w hw => ?_) ?_
        · have hw : y_seg x_sgS (81 + (i : Int)).toNat = some w := hw
          rw [show (81 + (i : Int)).toNat = 81 + i by omega] at hw
          have := x_bnd_ok hk.2.2.2.2 w hw
          omega
        have hA : ∀ t, t < 62 → x_u (x_u (x_u I' 211 (65 + (i : Int)).toNat z1) 211 (73 + (i : Int)).toNat z2) 211 (81 + (i : Int)).toNat z3 211 t = I' 212 t := fun t ht => by
          rw [x_u_if, if_neg (by omega), x_u_if, if_neg (by omega), x_u_if, if_neg (by omega)]
          exact h11 t ht
        exact Or.inl ⟨by omega, 8 - (i + 1), [(0, xR 210), (1, .inl ((i + 1 : Nat) : Int))], by omega, ⟨rfl, rfl, trivial⟩, rfl, rfl, (fun r k hr2 hc9 => ((x_u_r (show r ≠ 211 by omega)).trans ((x_u_r (show r ≠ 211 by omega)).trans (x_u_r (show r ≠ 211 by omega)))).trans (hFr r k hr2 hc9)), Or.inr ⟨q, σ, i + 1, htx, h19, hst, rfl, Or.inr ⟨hA, Or.inr ⟨rfl, by omega, rfl⟩⟩⟩⟩
end XS1
