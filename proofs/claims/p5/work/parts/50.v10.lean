/-! ===== contracts ===== -/
/-- what is asked of a value: bounds, a place in the world, a long -/
abbrev yP : Type := (Int × Int) ⊕ Option Nat
/-- what is said of a cell: its bounds, and how much it is more than a named one was -/
abbrev yF : Type := (Nat × Nat) × (Int × Int) × Option (Nat × Int)
abbrev yOut : Type := Option yP × List yF × Bool
/-- contract: of whom, arguments, cells at the start, answers, what may change, how deep, whether what binds must stand, cells that are named -/
abbrev yCon : Type := Nat × List yP × List yF × List yOut × yR × Nat × Bool × List (Nat × Nat)
def y_pv (ad : Nat → Option Nat) (q : yP) (v : Value) : Prop := match q with
  | .inl (lo, hi) => ∃ x : Int32, v = .int x ∧ lo ≤ x.toInt ∧ x.toInt ≤ hi
  | .inr (some i) => ∃ a : Nat, ad i = some a ∧ v = .ref a
  | .inr none => ∃ x : Int64, v = .long x
/-- values by what is asked of them -/
def y_mks (B : yB) : List yP → yB × List yV
  | [] => (B, [])
  | .inl (lo, hi) :: r => ((y_mks (y_mk B lo hi).1 r).1, .inl (y_mk B lo hi).2 :: (y_mks (y_mk B lo hi).1 r).2)
  | .inr (some i) :: r => ((y_mks B r).1, .inr (.inl (some i)) :: (y_mks B r).2)
  | .inr none :: r => ((y_mks B r).1, .inr (.inr ()) :: (y_mks B r).2)
theorem y_mks_ok {ad : Nat → Option Nat} : ∀ {ps : List yP} {B : yB} {env : List Int} {av : List Value}, y_B B env → z_L (y_pv ad) ps av → ∃ env', env <+: env' ∧ y_B (y_mks B ps).1 env' ∧ z_L (y_v env' ad) (y_mks B ps).2 av
  | [], B, env, [], hB, _ => ⟨env, List.prefix_refl _, hB, trivial⟩
  | .inl (lo, hi) :: r, B, env, v :: av, hB, h => by
    obtain ⟨⟨x, rfl, h1, h2⟩, h3⟩ := h
    obtain ⟨e1, g1, g2, g3⟩ := y_mk_ok hB h1 h2
    obtain ⟨e2, k1, k2, k3⟩ := y_mks_ok g2 h3
    exact ⟨e2, List.IsPrefix.trans g1 k1, k2, ⟨x, rfl, y_e_mono k1 g3⟩, k3⟩
  | .inr (some i) :: r, B, env, v :: av, hB, h => by
    obtain ⟨h1, h3⟩ := h
    obtain ⟨e2, k1, k2, k3⟩ := y_mks_ok hB h3
    exact ⟨e2, k1, k2, h1, k3⟩
  | .inr none :: r, B, env, v :: av, hB, h => by
    obtain ⟨h1, h3⟩ := h
    obtain ⟨e2, k1, k2, k3⟩ := y_mks_ok hB h3
    exact ⟨e2, k1, k2, h1, k3⟩
  | [], _, _, _ :: _, _, h => h.elim
  | _ :: _, _, _, [], _, h => h.elim
/-- a value keeps what is asked -/
def y_pm (B : yB) (q : yP) (v : yV) : Bool := match q, v with
  | .inl (lo, hi), .inl t => decide (lo ≤ (y_rng B t).1) && decide ((y_rng B t).2 ≤ hi)
  | .inr (some i), .inr (.inl (some j)) => decide (i = j)
  | .inr none, .inr (.inr _) => true
  | _, _ => false
theorem y_pm_ok {B : yB} {env : List Int} (hB : y_B B env) {ad : Nat → Option Nat} {q : yP} {t : yV} {v : Value} (h : y_pm B q t = true) (hv : y_v env ad t v) : y_pv ad q v := by
  unfold y_pm at h
  split at h
  next lo hi t =>
    obtain ⟨x, rfl, hx⟩ := hv
    have r := y_rng_ok hB hx
    simp only [Bool.and_eq_true, decide_eq_true_eq] at h
    exact ⟨x, rfl, by omega, by omega⟩
  next i j =>
    obtain rfl := of_decide_eq_true h
    exact hv
  next => exact hv
  next => cases h
def y_pms (B : yB) : List yP → List yV → Bool
  | [], [] => true
  | q :: qs, v :: vs => y_pm B q v && y_pms B qs vs
  | _, _ => false
theorem y_pms_ok {B : yB} {env : List Int} (hB : y_B B env) {ad : Nat → Option Nat} : ∀ {qs : List yP} {ts : List yV} {vs : List Value}, y_pms B qs ts = true → z_L (y_v env ad) ts vs → z_L (y_pv ad) qs vs
  | [], [], [], _, _ => trivial
  | q :: qs, t :: ts, v :: vs, h, hv => by
    unfold y_pms at h
    rw [Bool.and_eq_true] at h
    exact ⟨y_pm_ok hB h.1 hv.1, y_pms_ok hB h.2 hv.2⟩
  | [], _ :: _, _, h, _ => by cases h
  | _ :: _, [], _, h, _ => by cases h
  | [], [], _ :: _, _, hv => hv.elim
  | _ :: _, _ :: _, [], _, hv => hv.elim
/-! cells -/
def y_fv2 (env0 : List Int) (u : va_W) (f : yF) : Prop := ∃ x : Int32, y_at u f.1.1 f.1.2 = some x ∧ y_b env0 (f.2.1.1, f.2.1.2, f.2.2) x.toInt
/-- a cell that is said: known already, or a new number -/
def y_f1 (B : yB) (kn : yN) (f : yF) : yB × yN := match y_kget kn f.1.1 (.inl (Int.ofNat f.1.2)) with
  | some t => (y_dn (y_up B t f.2.1.2) t f.2.1.1, kn)
  | none => if f.2.1.1 = f.2.1.2 then (B, ((f.1.1, .inl (Int.ofNat f.1.2)), .inl f.2.1.1) :: kn) else ((B.1 + 1, (f.2.1.1, f.2.1.2, f.2.2) :: B.2), ((f.1.1, .inl (Int.ofNat f.1.2)), .inr (B.1, 0)) :: kn)
theorem y_f1_ok {B : yB} {env : List Int} (hB : y_B B env) {kn : yN} {u : va_W} (hk : y_k env u kn) {f : yF} (h : y_fv2 env u f) : ∃ env', env <+: env' ∧ y_B (y_f1 B kn f).1 env' ∧ y_k env' u (y_f1 B kn f).2 := by
  obtain ⟨x, h1, h2, h3, h4⟩ := h
  dsimp only at h2 h3
  unfold y_f1
  split
  next t ht =>
    have e := y_kat (B := B) hk ht rfl h1
    exact ⟨env, List.prefix_refl _, y_dn_ok (y_up_ok hB e h3) e h2, hk⟩
  next =>
    split
    next he =>
      refine ⟨env, List.prefix_refl _, hB, fun q hq => ?_⟩
      rcases List.mem_cons.mp hq with rfl | hq
      · exact ⟨f.1.2, x, rfl, h1, congrArg some (by omega)⟩
      · exact hk q hq
    next =>
      refine ⟨env ++ [x.toInt], List.prefix_append _ _, y_B_push hB ⟨h2, h3, h4⟩, fun q hq => ?_⟩
      rcases List.mem_cons.mp hq with rfl | hq
      · refine ⟨f.1.2, x, rfl, h1, ?_⟩
        unfold y_e
        dsimp only
        rw [← hB.2.1]
        simp
      · exact y_k_mono (List.prefix_append _ _) hk q hq
def y_mkf : yB → yN → List yF → yB × yN
  | B, kn, [] => (B, kn)
  | B, kn, f :: fs => y_mkf (y_f1 B kn f).1 (y_f1 B kn f).2 fs
theorem y_fv2_mono {env env' : List Int} (he : env <+: env') {u : va_W} {f : yF} (h : y_fv2 env u f) : y_fv2 env' u f := by
  obtain ⟨x, h1, h2⟩ := h
  exact ⟨x, h1, y_b_mono he _ _ h2⟩
theorem y_mkf_ok {u : va_W} : ∀ {fs : List yF} {B : yB} {kn : yN} {env : List Int}, y_B B env → y_k env u kn → (∀ f ∈ fs, y_fv2 env u f) → ∃ env', env <+: env' ∧ y_B (y_mkf B kn fs).1 env' ∧ y_k env' u (y_mkf B kn fs).2
  | [], _, _, env, hB, hk, _ => ⟨env, List.prefix_refl _, hB, hk⟩
  | f :: fs, B, kn, env, hB, hk, h => by
    obtain ⟨e1, g1, g2, g3⟩ := y_f1_ok hB hk (h f List.mem_cons_self)
    obtain ⟨e2, k1, k2, k3⟩ := y_mkf_ok g2 g3 (fun f' hf' => y_fv2_mono g1 (h f' (List.mem_cons_of_mem _ hf')))
    exact ⟨e2, List.IsPrefix.trans g1 k1, k2, k3⟩
/-- the type of a cell -/
def y_ty (TY : List (List yC)) (r k : Nat) : Option (Int × Int) := match y_T TY r with
  | some (.inl (_, ts)) => match ts[k]? with
    | some (.inl q) => some q
    | _ => none
  | some (.inr (.inl (_, sg))) => y_seg sg k
  | _ => none
theorem y_seg_lt : ∀ {sg : List (Nat × Int × Int)} {k : Nat} {q : Int × Int}, y_seg sg k = some q → k < y_len sg
  | [], _, _, h => by cases h
  | (n, lo, hi) :: r, k, q, h => by
    unfold y_seg at h
    unfold y_len
    split at h
    next => omega
    next => have := y_seg_lt h; omega
theorem y_ty_ok {kc : Nat → ClassId} {ad : Nat → Option Nat} {TY : List (List yC)} {ws : va_W} (hw : y_w kc ad TY ws) {r k : Nat} {q : Int × Int} (h : y_ty TY r k = some q) : ∃ x : Int32, y_at ws r k = some x ∧ q.1 ≤ x.toInt ∧ x.toInt ≤ q.2 := by
  unfold y_ty at h
  split at h
  next ci ts ht =>
    split at h
    next q' hq =>
      cases h
      obtain ⟨a, e, hws, vs, rfl, hvs⟩ := hw r _ ht
      obtain ⟨v, g1, x, rfl, g2, g3⟩ := z_L_get hvs hq
      refine ⟨x, ?_, g2, g3⟩
      unfold y_at
      rw [hws]
      dsimp only
      rw [g1]
      rfl
    next => cases h
  next kt sg ht =>
    obtain ⟨a, e, hws, f, rfl, hf⟩ := hw r _ ht
    refine ⟨f k, ?_, hf k q.1 q.2 h⟩
    unfold y_at
    rw [hws]
    dsimp only
    rw [if_pos (y_seg_lt h)]
  next => cases h
/-- a cell keeps what is said of it -/
def y_fm (TY : List (List yC)) (B : yB) (kn : yN) (f : yF) : Bool := match y_kget kn f.1.1 (.inl (Int.ofNat f.1.2)) with
  | some t => decide (f.2.1.1 ≤ (y_rng B t).1) && (decide ((y_rng B t).2 ≤ f.2.1.2) && (match f.2.2 with
    | some (j, c) => y_ge B t j c
    | none => true))
  | none => match y_ty TY f.1.1 f.1.2, f.2.2 with
    | some q, none => decide (f.2.1.1 ≤ q.1) && decide (q.2 ≤ f.2.1.2)
    | _, _ => false
theorem y_fm_ok {kc : Nat → ClassId} {ad : Nat → Option Nat} {TY : List (List yC)} {B : yB} {env : List Int} (hB : y_B B env) {kn : yN} {u : va_W} (hk : y_k env u kn) (hw : y_w kc ad TY u) {f : yF} (h : y_fm TY B kn f = true) : y_fv2 env u f := by
  unfold y_fm at h
  split at h
  next t ht =>
    obtain ⟨j, x, g0, g1, g2⟩ := hk _ (y_kget_in ht)
    dsimp only at g0 g1 g2
    have hj : j = f.1.2 := by have h9 : (f.1.2 : Int) = (j : Int) := Option.some.inj g0; omega
    subst hj
    have r := y_rng_ok hB g2
    simp only [Bool.and_eq_true, decide_eq_true_eq] at h
    obtain ⟨h1, h2, h3⟩ := h
    refine ⟨x, g1, by dsimp only; omega, by dsimp only; omega, fun j c e => ?_⟩
    dsimp only at e
    rw [e] at h3
    exact y_ge_ok hB h3 g2
  next =>
    split at h
    next q ht hn =>
      simp only [Bool.and_eq_true, decide_eq_true_eq] at h
      obtain ⟨x, g1, g2, g3⟩ := y_ty_ok hw ht
      exact ⟨x, g1, by dsimp only; omega, by dsimp only; omega, fun j c e => by dsimp only at e; rw [hn] at e; cases e⟩
    next => cases h
def y_Go (GR : List yGr) (ws : va_W) : Prop := ∀ (i : Nat) (g : yGr), GR[i]? = some g → ∀ j, y_Rg ws g j
theorem y_Go_of {GR : List yGr} {env : List Int} {ws : va_W} (h : y_Gs GR env [] [] ws) : y_Go GR ws := fun i g hg j => h.1 i g hg (fun _ h => by cases h) j (fun ⟨_, h, _⟩ => by cases h)
theorem y_Go_to {GR : List yGr} {env : List Int} {ws : va_W} (h : y_Go GR ws) : y_Gs GR env [] [] ws := ⟨fun i g hg _ j _ => h i g hg j, fun _ _ _ _ h => by cases h⟩
def y_nam (ws : va_W) (rk : Nat × Nat) (x : Int) : Prop := ∃ v : Int32, y_at ws rk.1 rk.2 = some v ∧ v.toInt = x
def y_post (xb : Nat) (kc : Nat → ClassId) (TY : List (List yC)) (GR : List yGr) (RI : va_W → Prop) (ad : Nat → Option Nat) (eff : yR) (env0 : List Int) (ws : va_W) (outs : List yOut) (rv : Option Value) (u : va_W) : Prop :=
  ∃ o ∈ outs, z_L (y_pv ad) o.1.toList rv.toList ∧ (∀ f ∈ o.2.1, y_fv2 env0 u f) ∧ (o.2.2 = true → RI u) ∧ y_Go GR u ∧ y_w kc ad TY u ∧ y_fr eff ws u ∧ z_ad xb u = ad
def y_ConOk (EX : (Nat → Prop) → State → Heap → Prop) (l : Launch) (TB : List Cond) (NT : List (String × Nat × MethodName × String)) (kc : Nat → ClassId) (D : va_G) (cl : List vw_C) (xb : Nat) (TY : List (List yC)) (GR : List yGr) (RI : va_W → Prop) (ad : Nat → Option Nat) (P : Nat → Option yM) (K : yCon) : Prop :=
  ∀ (y : MethodName) (cc : ByteArray) (maxL : Nat) (ret : Option FieldType) (tab : List (List zE)) (na : Nat) (sp : List Nat), P K.1 = some (y, cc, maxL, ret, tab, na, sp) → ∀ (d : Nat), K.2.2.2.2.2.1 ≤ d → ∀ (av : List Value) (ws : va_W) (sz : Nat) (env0 : List Int), z_L (y_pv ad) K.2.1 av → (∀ f ∈ K.2.2.1, y_fv2 env0 ws f) → (K.2.2.2.2.2.2.1 = true → RI ws) → y_Go GR ws → y_w kc ad TY ws → z_ad xb ws = ad → z_L (y_nam ws) K.2.2.2.2.2.2.2 env0 → Met l y (.code y cc maxL ret :: TB) (z_rm d 0 0) (va_Pc av (z_pre EX NT D cl kc ws sz)) (y_Q D cl ws sz ret (y_post xb kc TY GR RI ad K.2.2.2.2.1 env0 ws K.2.2.2.1)) 0 0 (va_A ws sz)
/-! contracts at a call -/
def y_sub (a b : yR) : Bool := a.all (fun q => y_ina b q.1 q.2.1 q.2.2)
theorem y_sub_ok {a b : yR} (h : y_sub a b = true) {r k : Nat} (hr : y_in a r k = true) : y_in b r k = true := by
  obtain ⟨q, hq, h1⟩ := List.any_eq_true.mp hr
  have h2 := List.all_eq_true.mp h q hq
  simp only [Bool.and_eq_true, Nat.ble_eq, beq_iff_eq] at h1
  obtain ⟨rfl, h3, h4⟩ := h1
  exact y_ina_ok h2 k h3 h4
theorem y_fr_sub {a b : yR} (h : y_sub a b = true) {u v : va_W} (hf : y_fr a u v) : y_fr b u v := fun r k hr => hf r k (by
  cases hh : y_in a r k with
  | false => rfl
  | true => rw [y_sub_ok h hh] at hr; cases hr)
/-- cells that no change can reach -/
def y_clr (eff RC : yR) : Bool := eff.all (fun q => y_rcn RC q.1 q.2.1 q.2.2)
theorem y_clr_ok {eff RC : yR} (h : y_clr eff RC = true) {r k : Nat} (hr : y_in eff r k = true) : y_in RC r k = false := by
  obtain ⟨q, hq, h1⟩ := List.any_eq_true.mp hr
  have h2 := List.all_eq_true.mp h q hq
  simp only [Bool.and_eq_true, Nat.ble_eq, beq_iff_eq] at h1
  obtain ⟨rfl, h3, h4⟩ := h1
  exact y_rcn_ok h2 k h3 h4
/-- what is known and stays -/
def y_out1 (B : yB) (eff : yR) (q : (Nat × yI) × yI) : Bool := eff.all (fun p => !(p.1 == q.1.1) || y_far (y_rng B q.1.2) (Int.ofNat p.2.1, Int.ofNat p.2.2))
theorem y_out1_ok {B : yB} {env : List Int} (hB : y_B B env) {eff : yR} {q : (Nat × yI) × yI} (h : y_out1 B eff q = true) {j : Nat} (hj : y_e env q.1.2 = some (j : Int)) : y_in eff q.1.1 j = false := by
  cases hh : y_in eff q.1.1 j with
  | false => rfl
  | true =>
    obtain ⟨p, hp, h1⟩ := List.any_eq_true.mp hh
    have h2 := List.all_eq_true.mp h p hp
    have r := y_rng_ok hB hj
    simp only [Bool.and_eq_true, Nat.ble_eq, beq_iff_eq] at h1
    unfold y_far at h2
    simp only [Bool.or_eq_true, Bool.not_eq_true', beq_eq_false_iff_ne, decide_eq_true_eq] at h2
    have e1 : Int.ofNat p.2.1 = (p.2.1 : Int) := rfl
    have e2 : Int.ofNat p.2.2 = (p.2.2 : Int) := rfl
    rw [e1, e2] at h2
    omega
def y_ctr (named : List (Nat × Nat)) (kn : yN) (rel : Option (Nat × Int)) : Option (Nat × Int) := match rel with
  | none => none
  | some (j, c) => match named[j]? with
    | some (r, k) => match y_kget kn r (.inl (Int.ofNat k)) with
      | some (.inr (i, c0)) => some (i, c0 + c)
      | _ => none
    | none => none
theorem y_ctr_ok {named : List (Nat × Nat)} {env env0 : List Int} {kn : yN} {ws : va_W} (hk : y_k env ws kn) (h0 : z_L (y_nam ws) named env0) {lo hi x : Int} {rel : Option (Nat × Int)} (hb : y_b env0 (lo, hi, rel) x) : y_b env (lo, hi, y_ctr named kn rel) x := by
  refine ⟨hb.1, hb.2.1, fun i c e => ?_⟩
  dsimp only at e
  unfold y_ctr at e
  split at e
  next => cases e
  next j c1 =>
    split at e
    next r k hr =>
      split at e
      next i0 c0 hk0 =>
        cases e
        obtain ⟨u, g1, g2⟩ := hb.2.2 _ _ rfl
        obtain ⟨u0, e1, v, e2, e3⟩ := z_L_get h0 hr
        cases g1.symm.trans e1
        dsimp only at e2
        have e4 := y_kat (B := (0, [])) hk hk0 rfl e2
        unfold y_e at e4
        dsimp only at e4
        obtain ⟨w, w1, w2⟩ := Option.map_eq_some_iff.mp e4
        exact ⟨w, w1, by omega⟩
      next => cases e
    next => cases e
/-- a cell that is said otherwise than it is known: this way isn't gone -/
def y_live (B : yB) (kn : yN) (f : yF) : Bool := match y_kget kn f.1.1 (.inl (Int.ofNat f.1.2)) with
  | some t => !y_far (y_rng B t) (f.2.1.1, f.2.1.2)
  | none => true
def y_stay1 (B : yB) (eff : yR) (kn : yN) : yN := kn.filter (y_out1 B eff)
/-- one way behind a call by contract -/
def y_co (K : yCon) (RC : yR) (B : yB) (kn : yN) (fl : yX) (o : yOut) : yB × Option yV × yN × yX :=
  ((y_mkf (y_mks B o.1.toList).1 (y_stay1 B K.2.2.2.2.1 kn) (o.2.1.map (fun f => (f.1, f.2.1, y_ctr K.2.2.2.2.2.2.2 kn f.2.2)))).1, (y_mks B o.1.toList).2.head?, (y_mkf (y_mks B o.1.toList).1 (y_stay1 B K.2.2.2.2.1 kn) (o.2.1.map (fun f => (f.1, f.2.1, y_ctr K.2.2.2.2.2.2.2 kn f.2.2)))).2, (o.2.2 || (fl.1 && y_clr K.2.2.2.2.1 RC), [], []))
def y_fit1 (TY : List (List yC)) (eff : yR) (n d : Nat) (za : List yV) (B : yB) (kn : yN) (fl : yX) (K : yCon) : Bool := Nat.ble K.2.2.2.2.2.1 d && (Nat.blt K.2.2.2.2.2.1 n && (y_pms B K.2.1 za && (K.2.2.1.all (fun f => f.2.2.isNone && y_fm TY B kn f) && ((!K.2.2.2.2.2.2.1 || fl.1) && (fl.2.1.isEmpty && (fl.2.2.isEmpty && (y_sub K.2.2.2.2.1 eff && K.2.2.2.2.2.2.2.all (fun rk => (y_ty TY rk.1 rk.2).isSome))))))))
/-- contracts lie by their methods, in rows of sixteen -/
def y_cget (CT : List (List (List yCon))) (j : Nat) : List yCon := match CT[j / 16]? with
  | some row => match row[j % 16]? with
    | some Ks => Ks
    | none => []
  | none => []
def y_ct (CT : List (List (List yCon))) (TY : List (List yC)) (RC eff : yR) (n : Nat) : yCT := fun d j za B kn fl => match (y_cget CT j).find? (y_fit1 TY eff n d za B kn fl) with
  | some K => some ((K.2.2.2.1.filter (fun o => o.2.1.all (y_live B (y_stay1 B K.2.2.2.2.1 kn)))).map (y_co K RC B kn fl))
  | none => none
theorem y_Met_mono {l : Launch} {y : MethodName} {ws : List Cond} {rm : Room} {Pc : Array Value → State → Prop} {Qc Qc' : Array Value → State → Outcome → State → Prop} {mc ms : Nat} {free : Addr → Prop} (h : Met l y ws rm Pc Qc mc ms free) (hq : ∀ a s o t, Qc a s o t → Qc' a s o t) : Met l y ws rm Pc Qc' mc ms free := by
  intro p e h1 h2 h3 s m args below h4 h5 h6 h7
  obtain ⟨n, o, g1, g2, g3, g4, g5⟩ := h p e h1 h2 h3 s m args below h4 h5 h6 h7
  exact ⟨n, o, g1, g2, g3, hq _ _ _ _ g4, g5⟩
theorem y_Q_mono {D : va_G} {cl : List vw_C} {ws : va_W} {sz : Nat} {Post Post' : Option Value → va_W → Prop} (hp : ∀ rv u, Post rv u → Post' rv u) : ∀ {ret : Option FieldType} {a : Array Value} {s : State} {o : Outcome} {t : State}, y_Q D cl ws sz ret Post a s o t → y_Q D cl ws sz ret Post' a s o t
  | none, _, _, _, _, ⟨⟨u, h1, h2, h3⟩, h4⟩ => ⟨⟨u, h1, hp _ _ h2, h3⟩, h4⟩
  | some (.object _), _, _, _, _, ⟨⟨u, b, h1, h2, h3, h5⟩, h4⟩ => ⟨⟨u, b, h1, h2, hp _ _ h3, h5⟩, h4⟩
  | some .int, _, _, _, _, ⟨⟨r, u, h1, h2, h3⟩, h4⟩ => ⟨⟨r, u, h1, hp _ _ h2, h3⟩, h4⟩
  | some .boolean, _, _, _, _, ⟨⟨r, u, h1, h2, h3⟩, h4⟩ => ⟨⟨r, u, h1, hp _ _ h2, h3⟩, h4⟩
  | some .byte, _, _, _, _, ⟨⟨r, u, h1, h2, h3⟩, h4⟩ => ⟨⟨r, u, h1, hp _ _ h2, h3⟩, h4⟩
  | some .char, _, _, _, _, ⟨⟨r, u, h1, h2, h3⟩, h4⟩ => ⟨⟨r, u, h1, hp _ _ h2, h3⟩, h4⟩
  | some .short, _, _, _, _, ⟨⟨r, u, h1, h2, h3⟩, h4⟩ => ⟨⟨r, u, h1, hp _ _ h2, h3⟩, h4⟩
  | some .long, _, _, _, _, ⟨⟨r, u, h1, h2, h3⟩, h4⟩ => ⟨⟨r, u, h1, hp _ _ h2, h3⟩, h4⟩
  | some .float, _, _, _, _, ⟨⟨r, u, h1, h2, h3⟩, h4⟩ => ⟨⟨r, u, h1, hp _ _ h2, h3⟩, h4⟩
  | some .double, _, _, _, _, ⟨⟨r, u, h1, h2, h3⟩, h4⟩ => ⟨⟨r, u, h1, hp _ _ h2, h3⟩, h4⟩
  | some (.array _), _, _, _, _, ⟨⟨r, u, h1, h2, h3⟩, h4⟩ => ⟨⟨r, u, h1, hp _ _ h2, h3⟩, h4⟩
theorem y_Met_conv {l : Launch} {y : MethodName} {tb : List Cond} {rm : Room} {Pc : Array Value → State → Prop} {D : va_G} {cl : List vw_C} {ws : va_W} {sz : Nat} {ret : Option FieldType} {Post Post' : Option Value → va_W → Prop} {free : Addr → Prop} (h : Met l y tb rm Pc (y_Q D cl ws sz ret Post) 0 0 free) (hp : ∀ rv u, Post rv u → Post' rv u) : Met l y tb rm Pc (y_Q D cl ws sz ret Post') 0 0 free :=
  y_Met_mono h (fun _ _ _ _ q => y_Q_mono hp q)
section YC1
variable {EX : (Nat → Prop) → State → Heap → Prop} {l : Launch} {TB : List Cond} {NT : List (String × Nat × MethodName × String)} {cl : List vw_C} {kc : Nat → ClassId} {D : va_G} {xb : Nat} {TY : List (List yC)} {TF : Nat → Nat → FieldType} {eff RC : yR} {GR : List yGr} {RI : va_W → Prop} {ad : Nat → Option Nat} {P : Nat → Option yM}
theorem y_names {ws : va_W} (hw : y_w kc ad TY ws) : ∀ {named : List (Nat × Nat)}, named.all (fun rk => (y_ty TY rk.1 rk.2).isSome) = true → ∃ env0, z_L (y_nam ws) named env0
  | [], _ => ⟨[], trivial⟩
  | (r, k) :: named, h => by
    rw [List.all_cons, Bool.and_eq_true] at h
    obtain ⟨q, hq⟩ := Option.isSome_iff_exists.mp h.1
    obtain ⟨x, h1, _⟩ := y_ty_ok hw hq
    obtain ⟨env0, h2⟩ := y_names hw h.2
    exact ⟨x.toInt :: env0, ⟨x, h1, rfl⟩, h2⟩
theorem y_ct_ok (hRI : y_RI RC RI) {CT : List (List (List yCon))} {n : Nat} (hCT : ∀ j K, K ∈ y_cget CT j → K.1 = j ∧ (K.2.2.2.2.2.1 < n → y_ConOk EX l TB NT kc D cl xb TY GR RI ad P K)) : y_ctok EX l TB NT kc D cl xb TY eff GR RI ad (y_ct CT TY RC eff n) P := by
  intro d j za B kn fl outs y cc maxL ret tab na sp h hj env hB
  unfold y_ct at h
  split at h
  next K hK =>
    cases h
    have hin := List.mem_of_find?_eq_some hK
    have hfit := List.find?_some hK
    obtain ⟨rfl, hok⟩ := hCT j K hin
    unfold y_fit1 at hfit
    simp only [Bool.and_eq_true, Nat.ble_eq, Nat.blt_eq, Bool.or_eq_true, Bool.not_eq_true'] at hfit
    obtain ⟨f1, f2, f3, f4, f5, f6, f7, f8, f9⟩ := hfit
    have hok := hok f2
    intro av ws sz hav hkn hfl hGs hwt had
    obtain ⟨env0, h0⟩ := y_names hwt f9
    have hGo : y_Go GR ws := by
      rw [List.isEmpty_iff.mp f6, List.isEmpty_iff.mp f7] at hGs
      exact y_Go_of hGs
    have hM := hok y cc maxL ret tab na sp hj d f1 av ws sz env0 (y_pms_ok hB f3 hav) (fun f hf => by
      have := List.all_eq_true.mp f4 f hf
      rw [Bool.and_eq_true] at this
      obtain ⟨x, x1, x2, x3, _⟩ := y_fm_ok hB hkn hwt this.2
      exact ⟨x, x1, x2, x3, fun j c e => by dsimp only at e; rw [Option.isNone_iff_eq_none.mp this.1] at e; cases e⟩) (fun q => hfl (f5.resolve_left (fun f5 => by rw [q] at f5; cases f5))) hGo hwt had h0
    have hconv : ∀ rv u, y_post xb kc TY GR RI ad K.2.2.2.2.1 env0 ws K.2.2.2.1 rv u → y_out xb kc TY eff GR RI ad env ws ((K.2.2.2.1.filter (fun o => o.2.1.all (y_live B (y_stay1 B K.2.2.2.2.1 kn)))).map (y_co K RC B kn fl)) rv u := by
      rintro rv u ⟨o, ho, g1, g2, g3, g4, g5, g6, g7⟩
      have hks : y_k env u (y_stay1 B K.2.2.2.2.1 kn) := fun q hq => by
        obtain ⟨q1, q2⟩ := List.mem_filter.mp hq
        obtain ⟨j, x, e0, e1, e2⟩ := hkn q q1
        exact ⟨j, x, e0, by rw [g6 _ _ (y_out1_ok hB q2 e0)]; exact e1, e2⟩
      have hlive : o.2.1.all (y_live B (y_stay1 B K.2.2.2.2.1 kn)) = true := by
        refine List.all_eq_true.mpr (fun f hf => ?_)
        obtain ⟨x, x1, x2, x3, _⟩ := g2 f hf
        unfold y_live
        split
        next t ht =>
          have e := y_kat (B := B) hks ht rfl x1
          have r := y_rng_ok hB e
          dsimp only at x2 x3
          unfold y_far
          simp only [Bool.not_eq_true', Bool.or_eq_false_iff, decide_eq_false_iff_not]
          omega
        next => rfl
      obtain ⟨e1, a1, a2, a3⟩ := y_mks_ok (B := B) hB g1
      obtain ⟨e2, b1, b2, b3⟩ := y_mkf_ok (fs := o.2.1.map (fun f => (f.1, f.2.1, y_ctr K.2.2.2.2.2.2.2 kn f.2.2))) a2 (y_k_mono a1 hks) (fun f hf => by
        obtain ⟨f0, hf0, rfl⟩ := List.mem_map.mp hf
        obtain ⟨x, x1, x2⟩ := g2 f0 hf0
        exact ⟨x, x1, y_b_mono a1 _ _ (y_ctr_ok hkn h0 x2)⟩)
      refine ⟨_, List.mem_map.mpr ⟨o, List.mem_filter.mpr ⟨ho, hlive⟩, rfl⟩, e2, List.IsPrefix.trans a1 b1, b2, ?_, b3, fun q => ?_, y_Go_to g4, g5, y_fr_sub f8 g6, g7⟩
      · unfold y_co
        dsimp only
        have hh : (y_mks B o.1.toList).2.head?.toList = (y_mks B o.1.toList).2 := by
          cases o.1 with
          | none => rfl
          | some q => match q with
            | .inl (_, _) => rfl
            | .inr (some _) => rfl
            | .inr none => rfl
        rw [hh]
        exact z_L_mono (y_v_mono b1) a3
      · unfold y_co at q
        dsimp only at q
        rw [Bool.or_eq_true, Bool.and_eq_true] at q
        rcases q with q | ⟨q1, q2⟩
        · exact g3 q
        · refine hRI ws u (fun r k hrk => g6 r k ?_) (hfl q1)
          cases hh : y_in K.2.2.2.2.1 r k with
          | false => rfl
          | true => rw [y_clr_ok q2 hh] at hrk; cases hrk
    exact y_Met_conv hM hconv
  next => cases h
end YC1
