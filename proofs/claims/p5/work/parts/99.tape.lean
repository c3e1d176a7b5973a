theorem zl_B {xs : Nat → Int32} {lo hi : Int} (h1 : lo ≤ (xs 1).toInt) (h2 : (xs 1).toInt ≤ hi) : z_B [(-2147483648, 2147483647), (lo, hi), (-2147483648, 2147483647), (-2147483648, 2147483647), (-2147483648, 2147483647), (-2147483648, 2147483647)] xs := by
  intro i lo' hi' hg
  match i, hg with
  | 0, hg => cases hg; exact z_any _
  | 1, hg => cases hg; exact ⟨h1, h2⟩
  | 2, hg => cases hg; exact z_any _
  | 3, hg => cases hg; exact z_any _
  | 4, hg => cases hg; exact z_any _
  | 5, hg => cases hg; exact z_any _
  | i + 6, hg => simp at hg
/-! ===== a world without the place outside ===== -/
def z_n0V (v : zV) : Bool := match v with
  | .inr (.inl (some 0)) => false
  | _ => true
def z_n0C (c : zC) : Bool := match c with
  | .inl (_, fs) => fs.all z_n0V
  | .inr (.inr (.inr (_, es))) => es.all (fun o => decide (o ≠ some 0))
  | _ => true
theorem z_ad_x {xb xb' : Nat} {ws : va_W} {i : Nat} (h : i ≠ 0) : z_ad xb' ws i = z_ad xb ws i := by
  cases i with
  | zero => exact absurd rfl h
  | succ i => rfl
theorem z_n0V_ok {env : Nat → Int32} {xb xb' : Nat} {ws : va_W} {v : zV} {x : Value} (h : z_n0V v = true) (hv : z_v env (z_ad xb ws) v x) : z_v env (z_ad xb' ws) v x := by
  match v, h, hv with
  | .inl _, _, hv => exact hv
  | .inr (.inl none), _, hv => exact hv
  | .inr (.inl (some (i + 1))), _, hv => exact hv
  | .inr (.inr _), _, hv => exact hv
theorem z_n0L_ok {env : Nat → Int32} {xb xb' : Nat} {ws : va_W} : ∀ {fs : List zV} {vs : List Value}, fs.all z_n0V = true → z_L (z_v env (z_ad xb ws)) fs vs → z_L (z_v env (z_ad xb' ws)) fs vs
  | [], [], _, _ => trivial
  | f :: fs, v :: vs, h, hl => by
    rw [List.all_cons, Bool.and_eq_true] at h
    exact ⟨z_n0V_ok h.1 hl.1, z_n0L_ok h.2 hl.2⟩
  | [], _ :: _, _, hl => hl.elim
  | _ :: _, [], _, hl => hl.elim
theorem z_n0C_ok {env : Nat → Int32} {kc : Nat → ClassId} {xb xb' : Nat} {ws : va_W} {c : zC} {q : va_E} (h : z_n0C c = true) (hc : z_c env kc (z_ad xb ws) c q) : z_c env kc (z_ad xb' ws) c q := by
  match c, h, hc with
  | .inl (_, fs), h, ⟨vs, h1, h2⟩ => exact ⟨vs, h1, z_n0L_ok h h2⟩
  | .inr (.inl (_, _)), _, hc => exact hc
  | .inr (.inr (.inl _)), _, hc => exact hc
  | .inr (.inr (.inr (_, es))), h, ⟨f, h1, h2⟩ =>
    refine ⟨f, h1, fun j y hj => ?_⟩
    have hy : y ≠ some 0 := by
      have := List.all_eq_true.mp h y (List.mem_of_getElem? hj)
      simpa using this
    have h3 := h2 j y hj
    match y, hy, h3 with
    | none, _, h3 => exact h3
    | some 0, hy, _ => exact absurd rfl hy
    | some (i + 1), _, h3 => exact h3
theorem z_n0W_ok {env : Nat → Int32} {kc : Nat → ClassId} {xb xb' : Nat} {ws : va_W} {w : zW} (h : w.all z_n0C = true) (hw : z_w xb env kc w ws) : z_w xb' env kc w ws := by
  unfold z_w at hw ⊢
  have hgo : ∀ (w2 : zW) (ws2 : va_W), w2.all z_n0C = true → z_L (fun c q => z_c env kc (z_ad xb ws) c q.2) w2 ws2 → z_L (fun c q => z_c env kc (z_ad xb' ws) c q.2) w2 ws2 := by
    intro w2
    induction w2 with
    | nil =>
      intro ws2 _ h2
      cases ws2 with
      | nil => trivial
      | cons _ _ => exact h2.elim
    | cons c w2 ih =>
      intro ws2 h1 h2
      cases ws2 with
      | nil => exact h2.elim
      | cons q ws2 =>
        rw [List.all_cons, Bool.and_eq_true] at h1
        exact ⟨z_n0C_ok h1.1 h2.1, ih ws2 h1.2 h2.2⟩
  exact hgo w ws h hw
def zTx : String := "seat man coat cold summer holds moths limit lies lent kept wears day or and not bare held of under worth days cloth number "
set_option maxHeartbeats 4000000 in
/-- Tape(): two rows are made -/
theorem zt_contract {EX : (Nat → Prop) → State → Heap → Prop} (hE : z_EX EX) {aK aV : Nat} (hsub : ∀ (A : Nat → Prop) (U : State) (H : Heap), EX A U H → zEs aK aV A U H ∧ vk_R "HeldCoats$Tape" 19 zTx aK U) {l : Launch} {kc : Nat → ClassId} {D : va_G} {xb : Nat} {env : Nat → Int32} {d : Nat} (hd : 10 ≤ d) : z_Met EX l zTB zNS kc D vwCl xb env ⟨"HeldCoats$Tape", "<init>", "()V"⟩ prog_12_method_1_code 5 none (z_rm d 2 964) [.inr (.inl (some 2))] zwT none zwT2 2 964 := by
  intro av ws0 sz hav hws
  refine Met.ofW (cc := prog_12_method_1_code) (maxL := 5) (ret := none) (by decide) rfl ?_
  intro p e s m args below meth c s₁ Bd hml hv
  obtain ⟨rfl, hsz, hP, hK, hD0, hN, hEx⟩ := hv
  subst hsz
  have hx := Bd.exec
  have hb := Bd.bytes
  have hts0 := atoms_spec (ws := Cond.code ⟨"HeldCoats$Tape", "<init>", "()V"⟩ prog_12_method_1_code 5 none :: zTB) Bd.pre
  have hts : ∀ w ∈ zTB, w.before av.toArray s = true := fun w hw => hts0 w (List.mem_cons_of_mem _ hw)
  have hown : s.vm.findClass "HeldCoats$Tape" = some m.cls := findClass_of_methodNamed Bd.named
  have hsum : (lg_sl av).length ≤ 5 := by rw [z_sl_len, ← z_cats hav]; decide
  have hA : ∀ q, s.heap.size ≤ q → va_A ws0 s.heap.size q := fun q h => Or.inr h
  obtain ⟨hEs, hR0⟩ := hsub _ _ _ hEx
  rw [lg_entry_eq]
  have hB : z_B [(-2147483648, 2147483647), (-2147483648, 2147483647), (-2147483648, 2147483647), (-2147483648, 2147483647), (-2147483648, 2147483647), (-2147483648, 2147483647)] env := zl_B (z_any _).1 (z_any _).2
  have hav2 : z_L (z_v env (z_ad aK ws0)) [.inr (.inl (some 2))] av := z_n0L_ok (by decide) hav
  refine z_run_ok (xb := aK) hE hB z_prog z_no_ok 8000 (some (.inr zbs)) 10 2 964 zm_X10_init 0 _ 95 _ (z_is_ok zr_tape) zo_X10_init p e _ s m av.toArray below meth c _ (va_A ws0 s.heap.size) s.heap (fun i => if i = 0 then none else z_ad xb ws0 i) ⟨hx, hb, hml, hown, fun h => (name_of_methodNamed Bd.named Bd.method).1.trans h, hts, hK, hN, hA, by show 10 + 1 ≤ d + 1; omega, by show 100 * 10 + 100 ≤ 100 * d + 100; omega, Nat.le_refl _, Nat.le_refl _, rfl, hEx, fun _ h => by cases h⟩ ?_ ?_ _ [] ws0 s.heap [] ⟨⟨_, lv_entry av hsum, z_ent_ok 0 hav2⟩, trivial, z_n0W_ok (by decide +kernel) hws, ?_, hP, hD0.self, va_S.rf⟩
  · intro bs hbs
    cases hbs
    intro pc zl st w nc ns
    refine ⟨fun hdc kk => ?_, fun hdc ⟨hst, hn1, hn2⟩ kk => ?_, fun t k v hdc ⟨hst, hn1, hn2⟩ hv hk kk => ?_⟩
    · intro ls sv ws H locs ⟨h1, h2, h3⟩
      refine va_ldcS hx hb hown hR0 hdc ?_
      exact kk ls _ ws H locs ⟨h1, ⟨⟨aK, rfl, rfl⟩, h2⟩, h3⟩
    · intro ls sv ws H locs ⟨h1, h2, h3, h6, hP1, hD1, hS1⟩
      obtain ⟨_, sv', rfl, ⟨a, ha, rfl⟩, h4⟩ := z_st1 h2
      obtain rfl : a = aK := (Option.some.inj ha).symm
      have hs2 : (sv'.map fun v => v.category).sum ≤ 8 := by rw [← z_cats h4]; exact hst
      obtain ⟨lv, hlv, hz⟩ := id h1
      refine zp_V (As := []) (rest := sv') hx hb hml hlv.1 hown hts hEs hA hS1 (zc_length l _ aV _) zYs_J0_length_8abf5 zx_41 zx_42 zx_43 (zO_recv (hEs.1.kept hS1.2.1)) ⟨by show 3 + 1 ≤ d + 1; omega, by show 8 + (1 + 11) + 300 ≤ 100 * d + 100; omega⟩ rfl hs2 hdc ⟨hn1, hn2⟩ (fun H1 locs1 hz1 hk1 hS2 => ?_)
      exact kk ls _ ws H1 locs1 ⟨h1, ⟨⟨_, rfl, by show (123 : Int32) = Int32.ofNat zbs.length; rw [zbs_len]; rfl⟩, h4⟩, h3, h6, hP1.kept (fun j q hq => hk1 q.1 (hP1 j q hq).lt), hD1, hS2⟩
    · intro ls sv ws H locs ⟨h1, h2, h3, h6, hP1, hD1, hS1⟩
      obtain ⟨_, sv', rfl, ⟨x0, rfl, hx0⟩, h4⟩ := z_st1 h2
      obtain ⟨_, sv'', rfl, ⟨a, ha, rfl⟩, h5⟩ := z_st1 h4
      obtain rfl : a = aK := (Option.some.inj ha).symm
      obtain ⟨hk1, hk2⟩ := hk x0 hx0
      rw [zbs_len] at hk1
      have hj2 : k < 123 := by rw [← zbs_len]; exact (List.getElem?_eq_some_iff.mp hv).1
      have hv2 : zbs.getD k 0 = v := by rw [List.getD_eq_getElem?_getD, hv]; rfl
      have hs2 : (sv''.map fun v => v.category).sum ≤ 8 := by rw [← z_cats h5]; exact hst
      obtain ⟨lv, hlv, hz⟩ := id h1
      refine zp_V (As := [.int x0]) (rest := sv'') hx hb hml hlv.1 hown hts hEs hA hS1 (zc_charAt l _ aV _ x0 k hk1 hk2 hj2) zYs_J0_charAt_5068e zx_51 zx_52 zx_53 (zO_recv (hEs.1.kept hS1.2.1)) ⟨by show 7 + 1 ≤ d + 1; omega, by show 8 + (2 + 11) + 700 ≤ 100 * d + 100; omega⟩ rfl hs2 hdc ⟨hn1, hn2⟩ (fun H1 locs1 hz1 hk1 hS2 => ?_)
      exact kk ls _ ws H1 locs1 ⟨h1, ⟨⟨_, rfl, hv2⟩, h5⟩, h3, h6, hP1.kept (fun j q hq => hk1 q.1 (hP1 j q hq).lt), hD1, hS2⟩
  · intro ls sv ws H locs ⟨_, g2, g3, g6, hP1, hD1, hS1⟩
    obtain rfl : sv = [] := by
      cases sv with
      | nil => rfl
      | cons _ _ => exact g2.elim
    refine W.vret hx hb Bd.returns (fun t' ht hW => ⟨⟨ws, rfl, ⟨z_n0W_ok (by decide +kernel) g3, fun i a hi => ?_⟩, by rw [ht]; exact hP1, hD1⟩, hS1.F ht⟩) hS1.2.2 (zo_X10_init.2 _ (z_find_in (t := zt_X10_init) (pc := 95) (I := .return_) (inf := []) (by decide +kernel))).1 (hlocks := Bd.notSynchronized)
    cases i with
    | zero => exact hi
    | succ i => exact g6 (i + 1) a hi
  · intro i a hi
    dsimp only at hi
    split at hi
    next => cases hi
    next h0 => rw [z_ad_x (xb := xb) h0]; exact hi
