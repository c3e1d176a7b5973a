/-! ===== what grows, so that a loop ends ===== -/
/-- a part of a measure: a number, a local, a cell -/
abbrev yMs : Type := Int ⊕ (Nat ⊕ (Nat × Nat))
def y_mt (q : yMs) (z : yS) : Option yI := match q with
  | .inl c => if 0 ≤ c ∧ c ≤ 1000 then some (.inl c) else none
  | .inr (.inl i) => match y_get z.1 i with
    | some (.inl t) => some t
    | _ => none
  | .inr (.inr (r, k)) => y_kget z.2.2.1 r (.inl (Int.ofNat k))
def y_mts (z : yS) : List yMs → Option (List yI)
  | [] => some []
  | q :: qs => match y_mt q z, y_mts z qs with
    | some t, some ts => some (t :: ts)
    | _, _ => none
def y_mn (env : List Int) (t : yI) (v : Int) : Prop := y_e env t = some v ∧ -2147483648 ≤ v ∧ v ≤ 2147483647
theorem y_mn_mono {env env' : List Int} (he : env <+: env') (t : yI) (v : Int) (h : y_mn env t v) : y_mn env' t v := ⟨y_e_mono he h.1, h.2⟩
def y_gt1 (B : yB) (x y : yI) : Bool := decide ((y_rng B x).2 < (y_rng B y).1) || (match x with
  | .inr (i, c) => y_ge B y i (c + 1)
  | _ => false)
theorem y_gt1_ok {B : yB} {env : List Int} (hB : y_B B env) {x y : yI} {a b : Int} (h : y_gt1 B x y = true) (ha : y_e env x = some a) (hb : y_e env y = some b) : a < b := by
  unfold y_gt1 at h
  rw [Bool.or_eq_true] at h
  rcases h with h | h
  · have r1 := y_rng_ok hB ha
    have r2 := y_rng_ok hB hb
    have := of_decide_eq_true h
    omega
  · split at h
    next i c =>
      obtain ⟨u, u1, u2⟩ := y_ge_ok hB h hb
      unfold y_e at ha
      dsimp only at ha
      obtain ⟨v, v1, v2⟩ := Option.map_eq_some_iff.mp ha
      cases u1.symm.trans v1
      omega
    next => cases h
/-- y is more than x, first by first -/
def y_lex (B : yB) : List yI → List yI → Bool
  | x :: xs, y :: ys => (decide (xs.length = ys.length) && y_gt1 B x y) || (y_eqI x y && y_lex B xs ys)
  | _, _ => false
theorem y_lex_len {B : yB} : ∀ {xs ys : List yI}, y_lex B xs ys = true → xs.length = ys.length
  | x :: xs, y :: ys, h => by
    unfold y_lex at h
    rw [Bool.or_eq_true, Bool.and_eq_true, Bool.and_eq_true] at h
    rcases h with ⟨h1, _⟩ | ⟨_, h2⟩
    · have := of_decide_eq_true h1
      simp [this]
    · have := y_lex_len h2
      simp [this]
  | [], _, h => by cases h
  | _ :: _, [], h => by cases h
def y_mv : List Int → Nat
  | [] => 0
  | v :: vs => (2147483647 - v).toNat * 4294967296 ^ vs.length + y_mv vs
theorem y_mv_lt {env : List Int} : ∀ {ts : List yI} {vs : List Int}, z_L (y_mn env) ts vs → y_mv vs < 4294967296 ^ vs.length
  | [], [], _ => by decide
  | t :: ts, v :: vs, h => by
    have h1 := y_mv_lt h.2
    have h2 := h.1.2
    have h3 : (2147483647 - v).toNat ≤ 4294967295 := by omega
    have h4 : (2147483647 - v).toNat * 4294967296 ^ vs.length ≤ 4294967295 * 4294967296 ^ vs.length := Nat.mul_le_mul_right _ h3
    show (2147483647 - v).toNat * 4294967296 ^ vs.length + y_mv vs < 4294967296 ^ (vs.length + 1)
    rw [Nat.pow_succ]
    omega
  | [], _ :: _, h => h.elim
  | _ :: _, [], h => h.elim
theorem y_lex_ok {B : yB} {env : List Int} (hB : y_B B env) : ∀ {xs ys : List yI} {as bs : List Int}, y_lex B xs ys = true → z_L (y_mn env) xs as → z_L (y_mn env) ys bs → y_mv bs < y_mv as
  | x :: xs, y :: ys, a :: as, b :: bs, h, ha, hb => by
    unfold y_lex at h
    rw [Bool.or_eq_true, Bool.and_eq_true, Bool.and_eq_true] at h
    have la := z_L_len ha.2
    have lb := z_L_len hb.2
    show (2147483647 - b).toNat * 4294967296 ^ bs.length + y_mv bs < (2147483647 - a).toNat * 4294967296 ^ as.length + y_mv as
    rcases h with ⟨h1, h2⟩ | ⟨h1, h2⟩
    · have h1 := of_decide_eq_true h1
      have h3 := y_gt1_ok hB h2 ha.1.1 hb.1.1
      have a1 := ha.1.2
      have b1 := hb.1.2
      have e1 : as.length = bs.length := by omega
      have m1 := y_mv_lt hb.2
      rw [e1]
      have h4 : (2147483647 - b).toNat + 1 ≤ (2147483647 - a).toNat := by omega
      have h5 := Nat.mul_le_mul_right (4294967296 ^ bs.length) h4
      rw [Nat.add_mul, Nat.one_mul] at h5
      omega
    · have h1 := y_eqI_ok h1
      subst h1
      have e0 : a = b := Option.some.inj (ha.1.1.symm.trans hb.1.1)
      subst e0
      have ih := y_lex_ok hB h2 ha.2 hb.2
      have e1 : as.length = bs.length := by
        have : xs.length = ys.length := y_lex_len h2
        omega
      rw [e1]
      omega
  | [], _, _, _, h, _, _ => by cases h
  | _ :: _, [], _, _, h, _, _ => by cases h
  | _ :: _, _ :: _, [], _, _, ha, _ => ha.elim
  | _ :: _, _ :: _, _ :: _, [], _, _, hb => hb.elim
/-! ===== heads of loops ===== -/
/-- a head: where, its locals, its cells, what grows, whether what binds cells stands -/
abbrev yCut : Type := Nat × List (Nat × yP) × List yF × List yMs × Bool
/-- the named cells' numbers, first of all -/
def y_nms (TY : List (List yC)) : List (Nat × Nat) → yB → yN → Option (yB × yN)
  | [], B, kn => some (B, kn)
  | (r, k) :: rest, B, kn => match y_ty TY r k with
    | some q => y_nms TY rest (B.1 + 1, (q.1, q.2, none) :: B.2) (((r, .inl (Int.ofNat k)), .inr (B.1, 0)) :: kn)
    | none => none
theorem y_nms_ok {kc : Nat → ClassId} {ad : Nat → Option Nat} {TY : List (List yC)} {ws : va_W} (hw : y_w kc ad TY ws) : ∀ {named : List (Nat × Nat)} {B B' : yB} {kn kn' : yN} {env vals : List Int}, y_nms TY named B kn = some (B', kn') → y_B B env → y_k env ws kn → z_L (y_nam ws) named vals → y_B B' (env ++ vals) ∧ y_k (env ++ vals) ws kn'
  | [], B, _, kn, _, env, [], h, hB, hk, _ => by
    cases h
    rw [List.append_nil]
    exact ⟨hB, hk⟩
  | (r, k) :: rest, B, B', kn, kn', env, x :: vals, h, hB, hk, hn => by
    unfold y_nms at h
    split at h
    next q hq =>
      obtain ⟨⟨v, e1, e2⟩, hn⟩ := hn
      obtain ⟨v', g1, g2, g3⟩ := y_ty_ok hw hq
      dsimp only at e1
      cases e1.symm.trans g1
      have hB1 : y_B (B.1 + 1, (q.1, q.2, none) :: B.2) (env ++ [x]) := y_B_push hB ⟨by dsimp only; omega, by dsimp only; omega, fun _ _ e => by cases e⟩
      have hk1 : y_k (env ++ [x]) ws (((r, .inl (Int.ofNat k)), .inr (B.1, 0)) :: kn) := fun p hp => by
        rcases List.mem_cons.mp hp with rfl | hp
        · refine ⟨k, v, rfl, e1, ?_⟩
          unfold y_e
          dsimp only
          rw [← hB.2.1, e2]
          simp
        · exact y_k_mono (List.prefix_append _ _) hk p hp
      have := y_nms_ok hw h hB1 hk1 hn
      rwa [List.append_assoc] at this
    next => cases h
  | [], _, _, _, _, _, _ :: _, _, _, _, hn => hn.elim
  | _ :: _, _, _, _, _, _, [], _, _, _, hn => hn.elim
def y_cst (RB : yB) (q : yCut) : yB × yS :=
  ((y_mkf (y_mks RB (q.2.1.map (fun a => a.2))).1 [] q.2.2.1).1, ((q.2.1.map (fun a => a.1)).zip (y_mks RB (q.2.1.map (fun a => a.2))).2, [], (y_mkf (y_mks RB (q.2.1.map (fun a => a.2))).1 [] q.2.2.1).2, (q.2.2.2.2, [], [])))
def y_lin (B : yB) (zl : List (Nat × yV)) (qs : List (Nat × yP)) : Bool := qs.all (fun a => match y_get zl a.1 with
  | some v => y_pm B a.2 v
  | none => false)
def y_frel (n : Nat) (f : yF) : Bool := match f.2.2 with
  | some (j, _) => Nat.blt j n
  | none => true
def y_cin (TY : List (List yC)) (n : Nat) (B : yB) (z : yS) (q : yCut) : Bool := z.2.1.isEmpty && (y_lin B z.1 q.2.1 && (q.2.2.1.all (fun f => y_fm TY B z.2.2.1 f && y_frel n f) && ((!q.2.2.2.2 || z.2.2.2.1) && (z.2.2.2.2.1.isEmpty && z.2.2.2.2.2.isEmpty))))
theorem y_b_down {env0 env : List Int} (h : env0 <+: env) {q : yQ} {x : Int} (hq : ∀ j c, q.2.2 = some (j, c) → j < env0.length) (hb : y_b env q x) : y_b env0 q x := ⟨hb.1, hb.2.1, fun j c e => by
  obtain ⟨u, h1, h2⟩ := hb.2.2 j c e
  obtain ⟨r, rfl⟩ := h
  rw [List.getElem?_append_left (hq j c e)] at h1
  exact ⟨u, h1, h2⟩⟩
theorem y_fv2_down {env0 env : List Int} (h : env0 <+: env) {u : va_W} {f : yF} (hf : y_frel env0.length f = true) (hv : y_fv2 env u f) : y_fv2 env0 u f := by
  obtain ⟨x, h1, h2⟩ := hv
  refine ⟨x, h1, y_b_down h (fun j c e => ?_) h2⟩
  dsimp only at e
  unfold y_frel at hf
  rw [e] at hf
  simpa using hf
/-- an answer keeps what a contract says -/
def y_om (TY : List (List yC)) (n : Nat) (B : yB) (z : yS) (rz : Option yV) (o : yOut) : Bool := (match o.1, rz with
  | none, none => true
  | some p, some v => y_pm B p v
  | _, _ => false) && (o.2.1.all (fun f => y_fm TY B z.2.2.1 f && y_frel n f) && (!o.2.2 || z.2.2.2.1))
/-- a head that is met -/
def y_hit (TY : List (List yC)) (n : Nat) (B : yB) (pc : Nat) (z : yS) (h : yCut) : Bool := h.1 == pc && y_cin TY n B z h
def y_cutf (TY : List (List yC)) (n : Nat) (HD : List yCut) : Nat → yB → yS → Bool := fun pc B z => HD.any (y_hit TY n B pc z)
def y_end (TY : List (List yC)) (K : yCon) (M : yM) (HD : List yCut) (ts : Option (List yI)) (q : yB × Nat × yS) : Bool := match HD.find? (y_hit TY K.2.2.2.2.2.2.2.length q.1 q.2.1 q.2.2) with
  | some h => (match ts with
    | none => true
    | some ts => match y_mts q.2.2 h.2.2.2.1 with
      | some ts' => y_lex q.1 ts ts'
      | none => false)
  | none => q.2.2.2.2.2.2.1.isEmpty && (q.2.2.2.2.2.2.2.isEmpty && (match y_res M.2.2.2.2.1 M.2.2.2.1 q.1 q.2.1 q.2.2.2.1 with
    | some rz => K.2.2.2.1.any (y_om TY K.2.2.2.2.2.2.2.length q.1 q.2.2 rz)
    | none => false))
def y_ckE (P : Nat → Option yM) (TY : List (List yC)) (TF : Nat → Nat → FieldType) (RC : yR) (GR : List yGr) (CT : List (List (List yCon))) (K : yCon) (HD : List yCut) (fu : Nat) : Bool := match P K.1, y_nms TY K.2.2.2.2.2.2.2 (0, []) [] with
  | some M, some (RB, kn) => Nat.ble ((y_mks (y_mkf RB kn K.2.2.1).1 K.2.1).2.map y_cat).sum M.2.2.1 && (match y_run P TY TF K.2.2.2.2.1 RC GR (y_ct CT TY RC K.2.2.2.2.1 K.2.2.2.2.2.1) fu false K.2.2.2.2.2.1 M (y_cutf TY K.2.2.2.2.2.2.2.length HD) true (y_mks (y_mkf RB kn K.2.2.1).1 K.2.1).1 0 (y_ent 0 (y_mks (y_mkf RB kn K.2.2.1).1 K.2.1).2, [], (y_mkf RB kn K.2.2.1).2, (K.2.2.2.2.2.2.1, [], [])) with
    | some es => es.all (y_end TY K M HD none)
    | none => false)
  | _, _ => false
def y_ckH (P : Nat → Option yM) (TY : List (List yC)) (TF : Nat → Nat → FieldType) (RC : yR) (GR : List yGr) (CT : List (List (List yCon))) (K : yCon) (HD : List yCut) (fu : Nat) (h : yCut) : Bool := match P K.1, y_nms TY K.2.2.2.2.2.2.2 (0, []) [] with
  | some M, some (RB, _) => match y_mts (y_cst RB h).2 h.2.2.2.1 with
    | some ts => (match y_run P TY TF K.2.2.2.2.1 RC GR (y_ct CT TY RC K.2.2.2.2.1 K.2.2.2.2.2.1) fu false K.2.2.2.2.2.1 M (y_cutf TY K.2.2.2.2.2.2.2.length HD) true (y_cst RB h).1 h.1 (y_cst RB h).2 with
      | some es => es.all (y_end TY K M HD (some ts))
      | none => false)
    | none => false
  | _, _ => false
section YC2
variable {EX : (Nat → Prop) → State → Heap → Prop} {l : Launch} {TB : List Cond} {NT : List (String × Nat × MethodName × String)} {cl : List vw_C} {kc : Nat → ClassId} {D : va_G} {xb : Nat} {TY : List (List yC)} {TF : Nat → Nat → FieldType} {eff RC : yR} {GR : List yGr} {RI : va_W → Prop} {ad : Nat → Option Nat} {P : Nat → Option yM}
/-- a measure as the machine has it -/
def y_sm (ls : Array Slot) (ws : va_W) (q : yMs) (v : Int) : Prop := match q with
  | .inl c => v = c
  | .inr (.inl i) => ∃ x : Int32, ls[i]? = some (.val (.int x)) ∧ v = x.toInt
  | .inr (.inr (r, k)) => ∃ x : Int32, y_at ws r k = some x ∧ v = x.toInt
theorem y_sm_one {ls : Array Slot} {ws : va_W} : ∀ {ms : List yMs} {vs us : List Int}, z_L (y_sm ls ws) ms vs → z_L (y_sm ls ws) ms us → vs = us
  | [], [], [], _, _ => rfl
  | q :: ms, v :: vs, u :: us, h1, h2 => by
    have e : v = u := by
      have a := h1.1
      have b := h2.1
      match q, a, b with
      | .inl c, a, b => exact (show v = c from a).trans (show u = c from b).symm
      | .inr (.inl i), ⟨x, a1, a2⟩, ⟨y, b1, b2⟩ =>
        have e9 := a1.symm.trans b1
        cases e9
        rw [a2, b2]
      | .inr (.inr (r, k)), ⟨x, a1, a2⟩, ⟨y, b1, b2⟩ =>
        have e9 := a1.symm.trans b1
        cases e9
        rw [a2, b2]
    rw [e, y_sm_one h1.2 h2.2]
  | [], _ :: _, _, h, _ => h.elim
  | [], [], _ :: _, _, h => h.elim
  | _ :: _, [], _, h, _ => h.elim
  | _ :: _, _ :: _, [], _, h => h.elim
theorem y_mts_ok {env : List Int} {nL : Nat} {z : yS} {ls : Array Slot} {ws : va_W} (hl : y_l env ad nL z.1 ls) (hk : y_k env ws z.2.2.1) : ∀ {ms : List yMs} {ts : List yI}, y_mts z ms = some ts → ∃ vs, z_L (y_mn env) ts vs ∧ z_L (y_sm ls ws) ms vs
  | [], ts, h => by cases h; exact ⟨[], trivial, trivial⟩
  | q :: qs, ts, h => by
    unfold y_mts at h
    split at h
    next t ts' h1 h2 =>
      cases h
      obtain ⟨vs, hv, hs⟩ := y_mts_ok hl hk h2
      unfold y_mt at h1
      split at h1
      next c =>
        split at h1
        next hc => cases h1; exact ⟨c :: vs, ⟨⟨rfl, by omega, by omega⟩, hv⟩, rfl, hs⟩
        next => cases h1
      next i =>
        split at h1
        next t' hg =>
          cases h1
          obtain ⟨_, hls, x, rfl, hx⟩ := y_l_at hl hg
          have := z_any x
          exact ⟨x.toInt :: vs, ⟨⟨hx, by omega, by omega⟩, hv⟩, ⟨x, hls, rfl⟩, hs⟩
        next => cases h1
      next r k =>
        obtain ⟨j, x, e0, e1, e2⟩ := hk _ (y_kget_in h1)
        have hj : j = k := by have h9 : (k : Int) = (j : Int) := Option.some.inj e0; omega
        subst hj
        have := z_any x
        exact ⟨x.toInt :: vs, ⟨⟨e2, by omega, by omega⟩, hv⟩, ⟨x, e1, rfl⟩, hs⟩
    next => cases h
theorem y_lin_ok {B : yB} {env : List Int} (hB : y_B B env) {nL : Nat} {zl : List (Nat × yV)} {ls : Array Slot} (hl : y_l env ad nL zl ls) : ∀ {qs : List (Nat × yP)}, y_lin B zl qs = true → ∃ vs : List Value, z_L (y_pv ad) (qs.map (fun a => a.2)) vs ∧ lv_has ls nL ((qs.map (fun a => a.1)).zip vs)
  | [], _ => ⟨[], trivial, by obtain ⟨lv, h1, _⟩ := hl; exact ⟨h1.1, h1.2.1, fun _ h => by cases h⟩⟩
  | (i, p) :: qs, h => by
    unfold y_lin at h
    rw [List.all_cons, Bool.and_eq_true] at h
    obtain ⟨vs, g1, g2⟩ := y_lin_ok hB hl h.2
    have h1 := h.1
    dsimp only at h1
    split at h1
    next v hv =>
      obtain ⟨x, x1, x2⟩ := y_l_at hl hv
      refine ⟨x :: vs, ⟨y_pm_ok hB h1 x2, g1⟩, g2.1, g2.2.1, fun q hq => ?_⟩
      rw [List.map_cons, List.zip_cons_cons] at hq
      rcases List.mem_cons.mp hq with rfl | hq
      · exact x1
      · exact g2.2.2 q hq
    next => cases h1
theorem y_zip_ok {env : List Int} : ∀ {is : List Nat} {ts : List yV} {vs : List Value}, is.length = ts.length → z_L (y_v env ad) ts vs → z_L (fun (a : Nat × yV) (b : Nat × Value) => a.1 = b.1 ∧ y_v env ad a.2 b.2) (is.zip ts) (is.zip vs)
  | [], [], [], _, _ => trivial
  | i :: is, t :: ts, v :: vs, h, hv => ⟨⟨rfl, hv.1⟩, y_zip_ok (Nat.succ.inj h) hv.2⟩
  | [], _ :: _, _, h, _ => by cases h
  | _ :: _, [], _, h, _ => by cases h
  | [], [], _ :: _, _, hv => hv.elim
  | _ :: _, _ :: _, [], _, hv => hv.elim
theorem y_mks_len {ps : List yP} {B : yB} : (y_mks B ps).2.length = ps.length := by
  induction ps generalizing B with
  | nil => rfl
  | cons p ps ih => match p with
    | .inl (_, _) => show (_ :: _).length = _; rw [List.length_cons, List.length_cons, ih]
    | .inr (some _) => show (_ :: _).length = _; rw [List.length_cons, List.length_cons, ih]
    | .inr none => show (_ :: _).length = _; rw [List.length_cons, List.length_cons, ih]
/-- the machine at a head -/
def y_HM (xb : Nat) (kc : Nat → ClassId) (D : va_G) (cl : List vw_C) (A : Nat → Prop) (H0 : Heap) (nL : Nat) (TY : List (List yC)) (eff : yR) (GR : List yGr) (RI : va_W → Prop) (ws0 : va_W) (env0 : List Int) (h : yCut) (ls : Array Slot) (ws : va_W) (H : Heap) (locs : List Loc) : Prop :=
  (∃ vs : List Value, z_L (y_pv (z_ad xb ws0)) (h.2.1.map (fun a => a.2)) vs ∧ lv_has ls nL ((h.2.1.map (fun a => a.1)).zip vs)) ∧ (∀ f ∈ h.2.2.1, y_fv2 env0 ws f) ∧ (h.2.2.2.2 = true → RI ws) ∧ y_Go GR ws ∧ y_w kc (z_ad xb ws0) TY ws ∧ y_fr eff ws0 ws ∧ z_ad xb ws = z_ad xb ws0 ∧ va_P D cl ws H ∧ va_D A ws ∧ va_S A H0 H locs
theorem y_HM_of {A : Nat → Prop} {H0 : Heap} {nL : Nat} {ws0 : va_W} {env0 env : List Int} {h : yCut} {B : yB} {z : yS} {ls : Array Slot} {sv : List Value} {ws : va_W} {H : Heap} {locs : List Loc} {n : Nat} (hn : env0.length = n) (he : env0 <+: env) (hB : y_B B env) (hc : y_cin TY n B z h = true) (hS : y_S xb kc D cl A H0 nL TY eff GR RI ws0 env z ls sv ws H locs) : sv = [] ∧ y_HM xb kc D cl A H0 nL TY eff GR RI ws0 env0 h ls ws H locs := by
  obtain ⟨h1, h2, hk, hf, hG, hw, hfr, had, hP, hD, hSS⟩ := hS
  unfold y_cin at hc
  simp only [Bool.and_eq_true, Bool.or_eq_true, Bool.not_eq_true'] at hc
  obtain ⟨c1, c2, c3, c4, c5, c6⟩ := hc
  refine ⟨?_, y_lin_ok hB h1 c2, fun f hf' => ?_, fun q => hf (c4.resolve_left (fun h9 => by rw [q] at h9; cases h9)), ?_, hw, hfr, had, hP, hD, hSS⟩
  · rw [List.isEmpty_iff.mp c1] at h2
    cases sv with
    | nil => rfl
    | cons _ _ => exact h2.elim
  · have h9 := List.all_eq_true.mp c3 f hf'
    rw [Bool.and_eq_true] at h9
    exact y_fv2_down he (by rw [hn]; exact h9.2) (y_fm_ok hB hk hw h9.1)
  · rw [List.isEmpty_iff.mp c5, List.isEmpty_iff.mp c6] at hG
    exact y_Go_of hG
theorem y_HM_to {A : Nat → Prop} {H0 : Heap} {nL : Nat} {ws0 : va_W} {env0 : List Int} {h : yCut} {RB : yB} {ls : Array Slot} {ws : va_W} {H : Heap} {locs : List Loc} (hB : y_B RB env0) (hm : y_HM xb kc D cl A H0 nL TY eff GR RI ws0 env0 h ls ws H locs) : ∃ env, env0 <+: env ∧ y_B (y_cst RB h).1 env ∧ y_S xb kc D cl A H0 nL TY eff GR RI ws0 env (y_cst RB h).2 ls [] ws H locs := by
  obtain ⟨⟨vs, v1, v2⟩, hf, hr, hG, hw, hfr, had, hP, hD, hSS⟩ := hm
  obtain ⟨e1, a1, a2, a3⟩ := y_mks_ok hB v1
  obtain ⟨e2, b1, b2, b3⟩ := y_mkf_ok (u := ws) (kn := []) (fs := h.2.2.1) a2 (fun _ h9 => by cases h9) (fun f hf' => y_fv2_mono a1 (hf f hf'))
  refine ⟨e2, List.IsPrefix.trans a1 b1, b2, ⟨_, v2, ?_⟩, trivial, b3, hr, y_Go_to hG, hw, hfr, had, hP, hD, hSS⟩
  exact z_L_mono (fun _ _ q => ⟨q.1, y_v_mono b1 _ _ q.2⟩) (y_zip_ok (by rw [y_mks_len, List.length_map, List.length_map]) a3)
set_option maxHeartbeats 1000000 in
/-- a contract whose run has been made -/
theorem y_chk_ok (hE : z_EX EX) (hRI : y_RI RC RI) (hall : y_all TB NT cl TF P) {CT : List (List (List yCon))} {K : yCon} {HD : List yCut} {fu : Nat} (hCT : ∀ j K', K' ∈ y_cget CT j → K'.1 = j ∧ (K'.2.2.2.2.2.1 < K.2.2.2.2.2.1 → y_ConOk EX l TB NT kc D cl xb TY GR RI ad P K')) (h1 : y_ckE P TY TF RC GR CT K HD fu = true) (h2 : ∀ h ∈ HD, y_ckH P TY TF RC GR CT K HD fu h = true) : y_ConOk EX l TB NT kc D cl xb TY GR RI ad P K := by
  intro y cc maxL ret tab na sp hP d hd av ws0 sz env0 hav hpre hri hGo hwt had hnam
  subst had
  have hM : y_Mok TB NT cl TF P (y, cc, maxL, ret, tab, na, sp) := hall.2 _ _ hP
  have hrun := fun n => y_run_ok (l := l) (kc := kc) (D := D) (xb := xb) (TY := TY) (ad := z_ad xb ws0) (eff := K.2.2.2.2.1) (GR := GR) hE hRI hall (y_ct_ok (eff := K.2.2.2.2.1) hRI hCT) n
  unfold y_ckE at h1
  rw [hP] at h1
  split at h1
  next M RB kn0 hM0 hnms =>
    cases hM0
    rw [Bool.and_eq_true] at h1
    obtain ⟨h1a, h1⟩ := h1
    split at h1
    next es hes =>
      refine Met.ofW (cc := cc) (maxL := maxL) (ret := ret) hM.1 rfl ?_
      intro p e s m args below meth c s₁ Bd hml hv
      obtain ⟨rfl, hsz, hP0, hK, hD0, hN, hEx⟩ := hv
      subst hsz
      have hts0 := atoms_spec (ws := Cond.code y cc maxL ret :: TB) Bd.pre
      have hts : ∀ w ∈ TB, w.before av.toArray s = true := fun w hw => hts0 w (List.mem_cons_of_mem _ hw)
      have hown : s.vm.findClass y.cls = some m.cls := findClass_of_methodNamed Bd.named
      have hname : y.name = "<init>" → meth.name = "<init>" := fun h => (name_of_methodNamed Bd.named Bd.method).1.trans h
      have hctx : ∀ R : Room, d + 1 ≤ R.frames → 100 * d + 100 ≤ R.locals → y_ctx EX TB NT cl kc D p R s m av.toArray meth c (va_A ws0 s.heap.size) s.heap xb ws0 (z_ad xb ws0) 0 0 false K.2.2.2.2.2.1 (y, cc, maxL, ret, tab, na, sp) := fun R r1 r2 => ⟨Bd.exec, Bd.bytes, hml, hown, hname, hts, hK, hN, fun q h => Or.inr h, by omega, by omega, Nat.zero_le _, Nat.zero_le _, rfl, hEx, rfl⟩
      have hB0 : y_B RB env0 ∧ y_k env0 ws0 kn0 := by
        have := y_nms_ok (env := []) hwt hnms ⟨rfl, rfl, fun _ _ h => by cases h⟩ (fun _ h => by cases h) hnam
        rwa [List.nil_append] at this
      have hlen0 : env0.length = K.2.2.2.2.2.2.2.length := (z_L_len hnam).symm
      rw [lg_entry_eq]
      -- what an end owes
      have hend : ∀ (tso : Option (List yI)) (env : List Int), (∀ h ∈ HD, ∀ (ls : Array Slot) (ws : va_W) (H : Heap) (locs : List Loc), y_HM xb kc D cl (va_A ws0 s.heap.size) s.heap maxL TY K.2.2.2.2.1 GR RI ws0 env0 h ls ws H locs → (∀ ts vs, tso = some ts → z_L (y_mn env) ts vs → ∃ vs', z_L (y_sm ls ws) h.2.2.2.1 vs' ∧ y_mv vs' < y_mv vs) → W p l e (z_rm d 0 0) s m av.toArray below meth c H locs 0 0 (MQ below (y_Q D cl ws0 s.heap.size ret (y_post xb kc TY GR RI (z_ad xb ws0) K.2.2.2.2.1 env0 ws0 K.2.2.2.1)) av.toArray s 0 0 (va_A ws0 s.heap.size)) (F0 m h.1 ls [])) → env0 <+: env → ∀ (q : yB × Nat × yS), y_end TY K (y, cc, maxL, ret, tab, na, sp) HD tso q = true → ∀ env', env <+: env' → y_B q.1 env' → y_G p l e (z_rm d 0 0) s m av.toArray below meth c (MQ below (y_Q D cl ws0 s.heap.size ret (y_post xb kc TY GR RI (z_ad xb ws0) K.2.2.2.2.1 env0 ws0 K.2.2.2.1)) av.toArray s 0 0 (va_A ws0 s.heap.size)) xb kc D cl (va_A ws0 s.heap.size) s.heap maxL TY K.2.2.2.2.1 GR RI ws0 0 0 env' q.2.1 q.2.2 := by
        intro tso env hgood he0 q hq env' he hB'
        obtain ⟨B', pc', zl', st', kn', fl', ex', cp'⟩ := q
        unfold y_end at hq
        dsimp only at hq hB' ⊢
        split at hq
        next h hf =>
          have hin := List.mem_of_find?_eq_some hf
          have hhit := List.find?_some hf
          unfold y_hit at hhit
          rw [Bool.and_eq_true] at hhit
          have hpc : h.1 = pc' := by simpa using hhit.1
          subst hpc
          intro ls sv ws H locs hS
          obtain ⟨rfl, hHM⟩ := y_HM_of hlen0 (List.IsPrefix.trans he0 he) hB' hhit.2 hS
          refine hgood h hin ls ws H locs hHM (fun ts vs hts hv => ?_)
          have h9 := hq
          rw [hts] at h9
          dsimp only at h9
          split at h9
          next ts' h8 =>
            obtain ⟨vs', w1, w2⟩ := y_mts_ok hS.1 hS.2.2.1 h8
            exact ⟨vs', w2, y_lex_ok hB' h9 (z_L_mono (y_mn_mono he) hv) w1⟩
          next => cases h9
        next =>
          simp only [Bool.and_eq_true] at hq
          obtain ⟨q1, q2, q3⟩ := hq
          have q1 := List.isEmpty_iff.mp q1
          have q2 := List.isEmpty_iff.mp q2
          subst q1 q2
          split at q3
          next rz hrz =>
            obtain ⟨o, ho, hom⟩ := List.any_eq_true.mp q3
            unfold y_om at hom
            simp only [Bool.and_eq_true, Bool.or_eq_true, Bool.not_eq_true'] at hom
            obtain ⟨o1, o2, o3⟩ := hom
            refine y_ret Bd.exec Bd.bytes hB' Bd.returns Bd.notSynchronized (fun I inf hf => by obtain ⟨row, h8, h9⟩ := y_find_in hf; exact (hM.2 row h8 _ h9).1) hrz (fun rv u g1 g2 g3 gG g4 g5 g6 => ⟨o, ho, ?_, fun f hf => ?_, fun hr => g3 (o3.resolve_left (fun h9 => by rw [hr] at h9; cases h9)), y_Go_of gG, g4, g5, g6⟩)
            · split at o1
              next e1 =>
                rw [e1]
                cases rv with
                | none => trivial
                | some _ => exact g1.elim
              next p v e1 =>
                rw [e1]
                cases rv with
                | none => exact g1.elim
                | some w => exact ⟨y_pm_ok hB' o1 g1.1, trivial⟩
              next => cases o1
            · have h9 := List.all_eq_true.mp o2 f hf
              rw [Bool.and_eq_true] at h9
              exact y_fv2_down (List.IsPrefix.trans he0 he) (by rw [hlen0]; exact h9.2) (y_fm_ok hB' g2 g4 h9.1)
          next => cases q3
      -- heads, by what grows
      have hheads : ∀ (N : Nat) (h : yCut), h ∈ HD → ∀ (ls : Array Slot) (ws : va_W) (H : Heap) (locs : List Loc), y_HM xb kc D cl (va_A ws0 s.heap.size) s.heap maxL TY K.2.2.2.2.1 GR RI ws0 env0 h ls ws H locs → (∀ vs, z_L (y_sm ls ws) h.2.2.2.1 vs → y_mv vs < N) → W p l e (z_rm d 0 0) s m av.toArray below meth c H locs 0 0 (MQ below (y_Q D cl ws0 s.heap.size ret (y_post xb kc TY GR RI (z_ad xb ws0) K.2.2.2.2.1 env0 ws0 K.2.2.2.1)) av.toArray s 0 0 (va_A ws0 s.heap.size)) (F0 m h.1 ls []) := by
        intro N
        induction N with
        | zero =>
          intro h hin ls ws H locs hHM hN
          obtain ⟨env, he0, hB, hS⟩ := y_HM_to hB0.1 hHM
          have hk := h2 h hin
          unfold y_ckH at hk
          rw [hP, hnms] at hk
          dsimp only at hk
          split at hk
          next ts hts =>
            obtain ⟨vs, _, w2⟩ := y_mts_ok hS.1 hS.2.2.1 hts
            exact absurd (hN vs w2) (Nat.not_lt_zero _)
          next => cases hk
        | succ N ih =>
          intro h hin ls ws H locs hHM hN
          obtain ⟨env, he0, hB, hS⟩ := y_HM_to hB0.1 hHM
          have hk := h2 h hin
          unfold y_ckH at hk
          rw [hP, hnms] at hk
          dsimp only at hk
          split at hk
          next ts hts =>
            obtain ⟨vs, w1, w2⟩ := y_mts_ok hS.1 hS.2.2.1 hts
            split at hk
            next es' hes' =>
              refine hrun fu false K.2.2.2.2.2.1 (y, cc, maxL, ret, tab, na, sp) _ true _ _ _ es' hes' hM p e (z_rm d 0 0) s m av.toArray below meth c _ (va_A ws0 s.heap.size) s.heap ws0 0 0 env (hctx _ (Nat.le_refl _) (Nat.le_refl _)) (fun h9 => by cases h9) hB (fun q hq env' he hB' => ?_) ls [] ws H locs hS
              refine hend (some ts) env (fun h' hin' ls' ws' H' locs' hHM' hlt => ih h' hin' ls' ws' H' locs' hHM' (fun vs' hvs' => ?_)) he0 q (List.all_eq_true.mp hk q hq) env' he hB'
              obtain ⟨vs2, x1, x2⟩ := hlt ts vs rfl w1
              have := y_sm_one hvs' x1
              subst this
              have := hN vs w2
              omega
            next => cases hk
          next => cases hk
      obtain ⟨e1, a1, a2, a3⟩ := y_mkf_ok (u := ws0) (fs := K.2.2.1) hB0.1 hB0.2 hpre
      obtain ⟨e2, b1, b2, b3⟩ := y_mks_ok a2 hav
      have hsum : (lg_sl av).length ≤ maxL := by
        rw [z_sl_len, ← y_cats b3]
        exact Nat.le_of_ble_eq_true h1a
      refine hrun fu false K.2.2.2.2.2.1 (y, cc, maxL, ret, tab, na, sp) _ true _ _ _ es hes hM p e (z_rm d 0 0) s m av.toArray below meth c _ (va_A ws0 s.heap.size) s.heap ws0 0 0 e2 (hctx _ (Nat.le_refl _) (Nat.le_refl _)) (fun h9 => by cases h9) b2 (fun q hq env' he hB' => ?_) _ [] ws0 s.heap [] ⟨⟨_, lv_entry av hsum, y_ent_ok 0 b3⟩, trivial, y_k_mono b1 a3, hri, y_Go_to hGo, hwt, fun _ _ _ => rfl, rfl, hP0, hD0.self, va_S.rf⟩
      refine hend none e2 (fun h hin ls ws H locs hHM _ => ?_) (List.IsPrefix.trans a1 b1) q (List.all_eq_true.mp h1 q hq) env' he hB'
      obtain ⟨env, he0, hB, hS⟩ := y_HM_to hB0.1 hHM
      have hk := h2 h hin
      unfold y_ckH at hk
      rw [hP, hnms] at hk
      dsimp only at hk
      split at hk
      next ts hts =>
        obtain ⟨vs, _, w2⟩ := y_mts_ok hS.1 hS.2.2.1 hts
        exact hheads (y_mv vs + 1) h hin ls ws H locs hHM (fun vs' h9 => by
          have := y_sm_one h9 w2
          subst this
          omega)
      next => cases hk
    next => cases h1
  next => cases h1
end YC2
