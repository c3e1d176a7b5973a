/-! ===== members that are known by bounds: what they leave of the FAULT ===== -/
def q_ov (p : Option yP) (rv : Option xV) : Prop := match p, rv with
  | none, none => True
  | some (.inl (lo, hi)), some (.inl z) => lo ≤ z ∧ z ≤ hi
  | some (.inr (some i)), some (.inr (.inr (some j))) => i = j
  | _, _ => False
def q_okp (p : Option yP) : Bool := match p with
  | some (.inr none) => false
  | _ => true
theorem q_ov_of {ad : Nat → Option Nat} : ∀ {p : Option yP} {rv : Option Value}, q_okp p = true → z_L (y_pv ad) p.toList rv.toList → ∃ zr : Option xV, z_L (x_v ad) zr.toList rv.toList ∧ q_ov p zr
  | none, none, _, _ => ⟨none, trivial, trivial⟩
  | none, some _, _, h => h.elim
  | some (.inl (lo, hi)), some v, _, ⟨⟨x, h1, h2, h3⟩, _⟩ => ⟨some (.inl x.toInt), ⟨⟨x, h1, rfl⟩, trivial⟩, h2, h3⟩
  | some (.inl (lo, hi)), none, _, h => h.elim
  | some (.inr (some i)), some v, _, ⟨⟨a, h1, h2⟩, _⟩ => ⟨some (.inr (.inr (some i))), ⟨⟨a, h1, h2⟩, trivial⟩, rfl⟩
  | some (.inr (some i)), none, _, h => h.elim
  | some (.inr none), _, h, _ => by cases h
section XYG
variable {EX : (Nat → Prop) → State → Heap → Prop} {l : Launch} {kc : Nat → ClassId} {D : va_G} {xb : Nat} {ad : Nat → Option Nat}
theorem x_Ok_weak {j d0 d1 : Nat} {Pre Pre' : xPre} {Post Post' : xPost} (hX : x_Ok EX l zTB zNT kc D vwCl xb yTY ad yP0 j d0 Pre Post) (hd : d0 ≤ d1) (h1 : ∀ za I L, Pre' za I L → Pre za I L) (h2 : ∀ za I L rv I' L', Pre' za I L → Post za I L rv I' L' → Post' za I L rv I' L') : x_Ok EX l zTB zNT kc D vwCl xb yTY ad yP0 j d1 Pre' Post' := by
  intro y cc maxL ret tab na sp hP d hd2 za av ws sz I L hav hpre hag hwt had
  refine y_Met_conv (hX y cc maxL ret tab na sp hP d (by omega) za av ws sz I L hav (h1 za I L hpre) hag hwt had) (fun rv u ⟨zr, I', L', q1, q2, q3, q4, q5⟩ => ⟨zr, I', L', q1, q2, h2 _ _ _ _ _ _ hpre q3, q4, q5⟩)
theorem x_Ok_or {j d0 : Nat} {Pre Pre' : xPre} {Post : xPost} (h1 : x_Ok EX l zTB zNT kc D vwCl xb yTY ad yP0 j d0 Pre Post) (h2 : x_Ok EX l zTB zNT kc D vwCl xb yTY ad yP0 j d0 Pre' Post) : x_Ok EX l zTB zNT kc D vwCl xb yTY ad yP0 j d0 (fun za I L => Pre za I L ∨ Pre' za I L) Post := by
  intro y cc maxL ret tab na sp hP d hd za av ws sz I L hav hpre hag hwt had
  rcases hpre with h | h
  · exact h1 y cc maxL ret tab na sp hP d hd za av ws sz I L hav h hag hwt had
  · exact h2 y cc maxL ret tab na sp hP d hd za av ws sz I L hav h hag hwt had
theorem goI_kk {kc' : Nat → ClassId} (hk : ∀ k, k < 1000 → kc' k = kc k) {I : xF} (h : goI kc' ad I) : goI kc ad I := fun ws hw ha => h ws (kv_kk hk hw) ha
theorem x_ofYG {K : yCon} {Z : List xV → Prop} (h : ∀ kc' : Nat → ClassId, y_ConOk EX l zTB zNT kc' D vwCl xb yTYV yGR w_R ad yP0 K) (e1 : K.2.2.1 = []) (e2 : K.2.2.2.2.2.2.2.all (fun rk => (y_ty yTYV rk.1 rk.2).isSome) = true) (e3 : K.2.2.2.2.2.2.1 = false) (e4 : K.2.2.2.1.all (fun o => q_okp o.1) = true) (hza : ∀ za, Z za → ∀ av, z_L (x_v ad) za av → z_L (y_pv ad) K.2.1 av) : x_Ok EX l zTB zNT kc D vwCl xb yTY ad yP0 K.1 K.2.2.2.2.2.1 (fun za I _ => Z za ∧ goI kc ad I) (fun _ I L rv I' L' => (∃ o ∈ K.2.2.2.1, q_ov o.1 rv ∧ ∀ f ∈ o.2.1, f.2.1.1 ≤ I' f.1.1 f.1.2 ∧ I' f.1.1 f.1.2 ≤ f.2.1.2) ∧ (∀ r k, y_in K.2.2.2.2.1 r k = false → I' r k = I r k) ∧ goI kc ad I') := by
  intro y cc maxL ret tab na sp hP d hd za av ws sz I L hav ⟨hz, hgo⟩ hag hwt had
  have hwV := kv_K hwt
  obtain ⟨env0, hnam⟩ := y_names hwV e2
  refine y_Met_conv (h (kv_mk kc ws) y cc maxL ret tab na sp hP d hd av ws sz env0 (hza za hz av hav) (fun f hf => by rw [e1] at hf; cases hf) (fun h => by rw [e3] at h; cases h) (hgo ws hwt (fun r _ k x hx => hag.1 r k x hx)) hwV had hnam) (fun rv u ⟨o, ho, g1, g2, g3, g4, g5, g6, g7⟩ => ?_)
  obtain ⟨zr, z1, z2⟩ := q_ov_of (List.all_eq_true.mp e4 o ho) g1
  have hwu : y_w kc ad yTY u := kv_kk kv_mk_k' (kv_W g5)
  refine ⟨zr, x_of u I, x_ofl u L, z1, x_of_ag u I L, ⟨⟨o, ho, z2, fun f hf => ?_⟩, fun r k hrk => ?_, ?_⟩, hwu, g7⟩
  · obtain ⟨x, x1, x2, x3, _⟩ := g2 f hf
    unfold x_of
    rw [x1]
    exact ⟨x2, x3⟩
  · have h9 := g6 r k hrk
    unfold x_of
    rw [h9]
    split
    next x hx => exact hag.1 r k x hx
    next => rfl
  · refine goI_fr (goI_of hwu g4) (fun r hr k hc => ?_)
    unfold xy_c at hc
    rw [Bool.and_eq_true] at hc
    obtain ⟨q, hq⟩ := Option.isSome_iff_exists.mp hc.2
    obtain ⟨x, x1, _⟩ := y_ty_ok hwu hq
    unfold x_of
    rw [x1]
/-- an exact contract, and what binds rows behind it -/
theorem x_andYG (hE : z_EX EX) {j d0 d1 : Nat} {Pre : xPre} {Post : xPost} {K : yCon} {za0 : List xV} {M : yM} (hX : x_Ok EX l zTB zNT kc D vwCl xb yTY ad yP0 j d0 Pre Post) (hK : ∀ kc' : Nat → ClassId, y_ConOk EX l zTB zNT kc' D vwCl xb yTYV yGR w_R ad yP0 K) (e0 : K.1 = j) (hM : yP0 j = some M) (hr : M.2.2.2.1 = none ∨ M.2.2.2.1 = some .int ∨ M.2.2.2.1 = some .boolean) (e1 : K.2.2.1 = []) (e2 : K.2.2.2.2.2.2.2.all (fun rk => (y_ty yTYV rk.1 rk.2).isSome) = true) (e3 : K.2.2.2.2.2.2.1 = false) (hd0 : d0 ≤ d1) (hd1 : K.2.2.2.2.2.1 ≤ d1) (hza : ∀ av, z_L (x_v ad) za0 av → z_L (y_pv ad) K.2.1 av) : x_Ok EX l zTB zNT kc D vwCl xb yTY ad yP0 j d1 (fun za I L => Pre za I L ∧ za = za0 ∧ goI kc ad I) (fun za I L rv I' L' => Post za I L rv I' L' ∧ (∀ r k, xy_c r k = true → y_in K.2.2.2.2.1 r k = false → I' r k = I r k) ∧ goI kc ad I') := by
  intro y cc maxL ret tab na sp hP d hd za av ws sz I L hav ⟨hpre, hz0, hgo⟩ hag hwt had
  have hwV := kv_K hwt
  obtain ⟨env0, hnam⟩ := y_names hwV e2
  have m1 := hX y cc maxL ret tab na sp hP d (by omega) za av ws sz I L hav hpre hag hwt had
  have m2 := hK (kv_mk kc ws) y cc maxL ret tab na sp (by rw [e0]; exact hP) d (by omega) av ws sz env0 (hza av (by rw [← hz0]; exact hav)) (fun f hf => by rw [e1] at hf; cases hf) (fun h => by rw [e3] at h; cases h) (hgo ws hwt (fun r _ k x hx => hag.1 r k x hx)) hwV had hnam
  have hret : ret = none ∨ ret = some .int ∨ ret = some .boolean := by
    rw [hM] at hP
    cases hP
    exact hr
  refine y_Met_conv (xy_and3 hret m1 m2) (fun rv u hpo => ?_)
  obtain ⟨⟨zr, I', L', q1, q2, q3, q4, q5⟩, u2, ⟨o, ho, p1, p2, p3, p4, p5, p6, p7⟩, H9, t1, t9⟩ := hpo
  have q4m : y_w (kv_mk kc ws) ad yTY u := kv_kk kv_mk_k q4
  have hwu2 : y_w kc ad yTY u2 := kv_kk kv_mk_k' (kv_W p5)
  have key : ∀ r k, xy_c r k = true → ∃ x, y_at u2 r k = some x ∧ x.toInt = I' r k := fun r k hc => by
    unfold xy_c at hc
    rw [Bool.and_eq_true] at hc
    obtain ⟨q, hq⟩ := Option.isSome_iff_exists.mp hc.2
    obtain ⟨x, x1, _⟩ := y_ty_ok hwu2 hq
    have e := xy_same q4m (kv_W p5) q5 p7 t1 t9 hc.1
    rw [x1] at e
    exact ⟨x, x1, q2.1 r k x e⟩
  refine ⟨zr, I', L', q1, q2, ⟨q3, fun r k hc hin => ?_, ?_⟩, q4, q5⟩
  · obtain ⟨x, x1, x2⟩ := key r k hc
    rw [p6 r k hin] at x1
    rw [← x2, hag.1 r k x x1]
  · refine goI_fr (goI_of hwu2 p4) (fun r hr k hc => ?_)
    obtain ⟨x, x1, x2⟩ := key r k hc
    rw [← x2]
    unfold x_of
    rw [x1]
end XYG
