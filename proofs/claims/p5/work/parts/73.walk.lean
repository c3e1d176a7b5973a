/-! ===== the same, where what binds cells may be said anew ===== -/
section YWR
variable {EX : (Nat → Prop) → State → Heap → Prop} {l : Launch} {TB : List Cond} {NT : List (String × Nat × MethodName × String)} {cl : List vw_C} {kc : Nat → ClassId} {D : va_G} {xb : Nat} {TY : List (List yC)} {TF : Nat → Nat → FieldType} {GR : List yGr} {ad : Nat → Option Nat} {P : Nat → Option yM}
/-- the same place, said closer -/
def y_goR2 (kc : Nat → ClassId) (TY : List (List yC)) (RI : va_W → Prop) (ad : Nat → Option Nat) (nL : Nat) {σ : Type} (Dom : σ → Prop) (HD : σ → yCut) (rank : σ → Nat) (Φ : va_W → σ → Array Slot → va_W → Prop) (a : σ) : Prop :=
  ∀ (w0 ws : va_W) (ls : Array Slot) (vs : List Value), Φ w0 a ls ws → ((HD a).2.2.2.2 = true → RI ws) → y_w kc ad TY ws → z_L (y_pv ad) ((HD a).2.1.map (fun a => a.2)) vs → lv_has ls nL (((HD a).2.1.map (fun a => a.1)).zip vs) → (∀ f ∈ (HD a).2.2.1, y_fv2 [] ws f) →
    ∃ b, Dom b ∧ rank b < rank a ∧ (HD b).1 = (HD a).1 ∧ ((HD b).2.2.2.2 = true → RI ws) ∧ Φ w0 b ls ws ∧ (∃ us : List Value, z_L (y_pv ad) ((HD b).2.1.map (fun a => a.2)) us ∧ lv_has ls nL (((HD b).2.1.map (fun a => a.1)).zip us)) ∧ (∀ f ∈ (HD b).2.2.1, y_fv2 [] ws f)
set_option maxHeartbeats 1000000 in
theorem y_walkR {RC : yR} {RI : va_W → Prop} (hE : z_EX EX) (hRI : y_RI RC RI) (hall : y_all TB NT cl TF P) {CT : List (List (List yCon))} {n d0 fu : Nat} (hCT : ∀ j K', K' ∈ y_cget CT j → K'.1 = j ∧ (K'.2.2.2.2.2.1 < n → y_ConOk EX l TB NT kc D cl xb TY GR RI ad P K')) {j : Nat} {y : MethodName} {cc : ByteArray} {maxL : Nat} {ret : Option FieldType} {tab : List (List zE)} {na : Nat} {sp : List Nat} (hP : P j = some (y, cc, maxL, ret, tab, na, sp)) {σ : Type} {Dom : σ → Prop} {HD : σ → yCut} {E : σ → yR} {rank : σ → Nat} {effM : yR} {Φ : va_W → σ → Array Slot → va_W → Prop} {Post : va_W → Option Value → va_W → Prop} (hstep : ∀ a, Dom a → y_go1 kc P TY TF GR RC RI CT ad (y, cc, maxL, ret, tab, na, sp) fu n d0 Dom HD E rank effM Φ Post a ∨ y_goR2 kc TY RI ad maxL Dom HD rank Φ a)
    {a0 : σ} {w0 : va_W} (h0 : Dom a0) (hpc : (HD a0).1 = 0) (hloc : (HD a0).2.1.map (fun a => a.1) = List.range (HD a0).2.1.length) (hri : (HD a0).2.2.2.2 = true → RI w0) (hcat : ((HD a0).2.1.map (fun a => a.2)).all (fun p => match p with | .inr none => false | _ => true) = true) (hlen : (HD a0).2.1.length ≤ maxL) {d : Nat} (hd : d0 ≤ d) {av : List Value} {sz : Nat} (hav : z_L (y_pv ad) ((HD a0).2.1.map (fun a => a.2)) av) (hfs : ∀ f ∈ (HD a0).2.2.1, y_fv2 [] w0 f) (hΦ : ∀ ls, Φ w0 a0 ls w0) (hGo : y_Go GR w0) (hwt : y_w kc ad TY w0) (had : z_ad xb w0 = ad) :
    Met l y (.code y cc maxL ret :: TB) (z_rm d 0 0) (va_Pc av (z_pre EX NT D cl kc w0 sz)) (y_Q D cl w0 sz ret (fun rv u => Post w0 rv u ∧ y_Go GR u ∧ y_w kc ad TY u ∧ y_fr effM w0 u ∧ z_ad xb u = ad)) 0 0 (va_A w0 sz) := by
  subst had
  have hM : y_Mok TB NT cl TF P (y, cc, maxL, ret, tab, na, sp) := hall.2 _ _ hP
  refine Met.ofW (cc := cc) (maxL := maxL) (ret := ret) hM.1 rfl ?_
  intro p e s m args below meth c s₁ Bd hml hv
  obtain ⟨rfl, hsz, hP0, hK, hD0, hN, hEx⟩ := hv
  subst hsz
  have hts0 := atoms_spec (ws := Cond.code y cc maxL ret :: TB) Bd.pre
  have hts : ∀ w ∈ TB, w.before av.toArray s = true := fun w hw => hts0 w (List.mem_cons_of_mem _ hw)
  have hown : s.vm.findClass y.cls = some m.cls := findClass_of_methodNamed Bd.named
  have hname : y.name = "<init>" → meth.name = "<init>" := fun h => (name_of_methodNamed Bd.named Bd.method).1.trans h
  have hmain : ∀ (N : Nat) (a : σ), Dom a → rank a < N → ∀ (ls : Array Slot) (ws : va_W) (H : Heap) (locs : List Loc), y_HM xb kc D cl (va_A w0 s.heap.size) s.heap maxL TY effM GR RI w0 [] (HD a) ls ws H locs → Φ w0 a ls ws → W p l e (z_rm d 0 0) s m av.toArray below meth c H locs 0 0 (MQ below (y_Q D cl w0 s.heap.size ret (fun rv u => Post w0 rv u ∧ y_Go GR u ∧ y_w kc (z_ad xb w0) TY u ∧ y_fr effM w0 u ∧ z_ad xb u = z_ad xb w0)) av.toArray s 0 0 (va_A w0 s.heap.size)) (F0 m (HD a).1 ls []) := by
    intro N
    induction N with
    | zero => intro a _ h; exact absurd h (Nat.not_lt_zero _)
    | succ N ih =>
      intro a ha hr ls ws H locs hHM hphi
      rcases hstep a ha with hg | hg
      · obtain ⟨cut, es, hes, hsub, hq⟩ := hg
        -- the frame from this place on
        have hHM2 : y_HM xb kc D cl (va_A w0 s.heap.size) s.heap maxL TY (E a) GR RI ws [] (HD a) ls ws H locs := by
          obtain ⟨k1, k2, k3, k4, k5, k6, k7, k8⟩ := hHM
          refine ⟨by rw [k7]; exact k1, k2, k3, k4, by rw [k7]; exact k5, y_fr_refl, rfl, k8⟩
        have hadw : z_ad xb ws = z_ad xb w0 := hHM.2.2.2.2.2.2.1
        have hfrw : y_fr effM w0 ws := hHM.2.2.2.2.2.1
        obtain ⟨e0, _, hB, hS⟩ := y_HM_to (RB := (0, [])) (env0 := []) ⟨rfl, rfl, fun _ _ h => by cases h⟩ hHM2
        have hctx : y_ctx EX TB NT cl kc D p (z_rm d 0 0) s m av.toArray meth c (va_A w0 s.heap.size) s.heap xb ws (z_ad xb w0) 0 0 false d0 (y, cc, maxL, ret, tab, na, sp) := ⟨Bd.exec, Bd.bytes, hml, hown, hname, hts, hK, hN, fun q h => Or.inr h, by show d0 + 1 ≤ d + 1; omega, by show 100 * d0 + 100 ≤ 100 * d + 100; omega, Nat.zero_le _, Nat.zero_le _, rfl, hEx, hadw⟩
        refine y_run_ok (l := l) (kc := kc) (D := D) (xb := xb) (TY := TY) (ad := z_ad xb w0) (eff := E a) (RC := RC) (GR := GR) (RI := RI) hE hRI hall (y_ct_ok (eff := E a) (RC := RC) hRI hCT) fu false d0 (y, cc, maxL, ret, tab, na, sp) cut true _ _ _ es hes hM p e (z_rm d 0 0) s m av.toArray below meth c _ (va_A w0 s.heap.size) s.heap ws 0 0 e0 hctx (fun h9 => by cases h9) hB (fun q hin env he hB' => ?_) ls [] ws H locs hS
        intro ls' sv' ws' H' locs' hS'
        have hS2 := hS'
        obtain ⟨s1, s2, sk, sf, sG, sw, sfr, sad, sP, sD, sS⟩ := hS'
        have hfr' : y_fr effM w0 ws' := y_fr_trans hfrw (y_fr_sub hsub sfr)
        rw [hadw] at s1 s2 sw sad
        have hl0 := hS.1
        rw [hadw] at hl0
        rcases hq q hin with ⟨b, hb, hlt, hhit, hgo⟩ | ⟨rz, hrz, hex, hcp, hgo⟩
        · unfold y_hit at hhit
          rw [Bool.and_eq_true] at hhit
          have hpcq : (HD b).1 = q.2.1 := by simpa using hhit.1
          obtain ⟨hsv, hm⟩ := y_HM_of (n := 0) (env0 := []) rfl (List.nil_prefix) hB' hhit.2 hS2
          subst hsv
          rw [← hpcq]
          refine ih b hb (by omega) ls' ws' H' locs' ?_ (hgo w0 ws ws' ls ls' e0 env hphi hHM.2.2.1 sf hl0 hS.2.2.1 he hHM.2.2.2.2.1 sw sfr hB' s1 sk)
          obtain ⟨k1, k2, k3, k4, k5, k6, k7, k8⟩ := hm
          exact ⟨by rw [hadw] at k1; exact k1, k2, k3, k4, sw, hfr', by rw [k7, hadw], k8⟩
        · have hpost : ∀ rv, z_L (y_v env (z_ad xb w0)) rz.toList rv.toList → y_Go GR ws' → Post w0 rv ws' := fun rv hrv hGo' => hgo w0 ws ws' ls rv e0 env hphi hHM.2.2.1 sf hl0 hS.2.2.1 he hHM.2.2.2.2.1 sw hGo' sfr hfr' hB' sk hrv
          have hG0 : y_Go GR ws' := by rw [hex, hcp] at sG; exact y_Go_of sG
          obtain ⟨B', pc', zl', st', kn', fl'⟩ := q
          dsimp only at hrz hB' s1 s2 sk hpost ⊢
          refine y_ret (RI := fun u => ∀ rv, z_L (y_v env (z_ad xb w0)) rz.toList rv.toList → Post w0 rv u) (eff := effM) (TY := TY) (kc := kc) (GR := GR) (fl := (true, [], [])) (zl := zl') (kn := kn') Bd.exec Bd.bytes hB' Bd.returns Bd.notSynchronized (fun I inf hf => by obtain ⟨row, h8, h9⟩ := y_find_in hf; exact (hM.2 row h8 _ h9).1) hrz (fun rv u g1 g2 g3 gG g4 g5 g6 => ⟨g3 rfl rv g1, y_Go_of gG, g4, g5, g6⟩) ls' sv' ws' H' locs' ⟨s1, s2, sk, fun _ rv hrv => hpost rv hrv hG0, y_Go_to hG0, sw, hfr', sad, sP, sD, sS⟩
      · obtain ⟨⟨vs, v1, v2⟩, k2, k3, k4, k5, k6, k7, k8⟩ := hHM
        obtain ⟨b, hb, hlt, hpc', hri', hphi', hloc', hfs'⟩ := hg w0 ws ls vs hphi k3 k5 v1 v2 k2
        rw [← hpc']
        exact ih b hb (by omega) ls ws H locs ⟨hloc', hfs', hri', k4, k5, k6, k7, k8⟩ hphi'
  have hsum : (lg_sl av).length ≤ maxL := by
    have hone : ∀ (ps : List yP) (vs : List Value), z_L (y_pv (z_ad xb w0)) ps vs → ps.all (fun p => match p with | .inr none => false | _ => true) = true → (vs.map fun v => v.category).sum = ps.length := by
      intro ps
      induction ps with
      | nil => intro vs hv _; cases vs with
        | nil => rfl
        | cons _ _ => exact hv.elim
      | cons p ps ihp =>
        intro vs hv hc
        cases vs with
        | nil => exact hv.elim
        | cons v vs =>
          rw [List.all_cons, Bool.and_eq_true] at hc
          rw [List.map_cons, List.sum_cons, ihp vs hv.2 hc.2, List.length_cons]
          have h1 : v.category = 1 := by
            match p, hv.1, hc.1 with
            | .inl (_, _), ⟨x, hx, _⟩, _ => rw [hx]; rfl
            | .inr (some _), ⟨x, _, hx⟩, _ => rw [hx]; rfl
          omega
    rw [z_sl_len, hone _ _ hav hcat, List.length_map]
    exact hlen
  rw [lg_entry_eq]
  have hargs : ∀ (k : Nat) (ps : List yP) (vs : List Value), z_L (y_pv (z_ad xb w0)) ps vs → ps.all (fun p => match p with | .inr none => false | _ => true) = true → lv_args k vs = (List.range' k ps.length).zip vs := by
    intro k ps
    induction ps generalizing k with
    | nil => intro vs hv _; cases vs with
      | nil => rfl
      | cons _ _ => exact hv.elim
    | cons p ps ihp =>
      intro vs hv hc
      cases vs with
      | nil => exact hv.elim
      | cons v vs =>
        rw [List.all_cons, Bool.and_eq_true] at hc
        have h1 : v.category = 1 := by
          match p, hv.1, hc.1 with
          | .inl (_, _), ⟨x, hx, _⟩, _ => rw [hx]; rfl
          | .inr (some _), ⟨x, _, hx⟩, _ => rw [hx]; rfl
        unfold lv_args
        rw [List.length_cons, List.range'_succ, List.zip_cons_cons, h1, if_neg (by decide), ihp (k + 1) vs hv.2 hc.2]
  have h9 := lv_entry av hsum
  rw [hargs 0 _ av hav hcat, List.length_map, ← List.range_eq_range', ← hloc] at h9
  have := hmain (rank a0 + 1) a0 h0 (Nat.lt_succ_self _) _ w0 s.heap [] ⟨⟨av, hav, h9⟩, hfs, hri, hGo, hwt, y_fr_refl, rfl, hP0, hD0.self, va_S.rf⟩ (hΦ _)
  rw [hpc] at this
  exact this
end YWR
