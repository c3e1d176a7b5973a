/-! ===== cells ===== -/
def y_kget : yN → Nat → yI → Option yI
  | [], _, _ => none
  | ((r, k), t) :: n, r', k' => if r = r' then (if y_eqI k k' = true then some t else y_kget n r' k') else y_kget n r' k'
theorem y_kget_in : ∀ {kn : yN} {r : Nat} {k t : yI}, y_kget kn r k = some t → ((r, k), t) ∈ kn
  | [], _, _, _, h => by cases h
  | ((r, k), t) :: n, r', k', t', h => by
    unfold y_kget at h
    split at h
    next hr =>
      split at h
      next hk =>
        cases h
        subst hr
        rw [y_eqI_ok hk]
        exact List.mem_cons_self
      next => exact List.mem_cons_of_mem _ (y_kget_in h)
    next => exact List.mem_cons_of_mem _ (y_kget_in h)
/-- two places that differ surely -/
def y_far (p q : Int × Int) : Bool := decide (p.2 < q.1) || decide (q.2 < p.1)
def y_apart (B : yB) (x y : yI) : Bool := match x, y with
  | .inr (i, c), .inr (j, d) => if i = j then !decide (c = d) else y_far (y_rng B x) (y_rng B y)
  | x, y => y_far (y_rng B x) (y_rng B y)
theorem y_far_ok {B : yB} {env : List Int} (hB : y_B B env) {x y : yI} {a b : Int} (h : y_far (y_rng B x) (y_rng B y) = true) (ha : y_e env x = some a) (hb : y_e env y = some b) : a ≠ b := by
  have r1 := y_rng_ok hB ha
  have r2 := y_rng_ok hB hb
  unfold y_far at h
  simp only [Bool.or_eq_true, decide_eq_true_eq] at h
  omega
theorem y_apart_ok {B : yB} {env : List Int} (hB : y_B B env) {x y : yI} {a b : Int} (h : y_apart B x y = true) (ha : y_e env x = some a) (hb : y_e env y = some b) : a ≠ b := by
  unfold y_apart at h
  split at h
  next i c j d =>
    split at h
    next hij =>
      subst hij
      have hcd : c ≠ d := by simpa using h
      unfold y_e at ha hb
      dsimp only at ha hb
      obtain ⟨u, h1, h2⟩ := Option.map_eq_some_iff.mp ha
      obtain ⟨v, h3, h4⟩ := Option.map_eq_some_iff.mp hb
      cases h1.symm.trans h3
      omega
    next => exact y_far_ok hB h ha hb
  next => exact y_far_ok hB h ha hb
def y_kdel (B : yB) (kn : yN) (r : Nat) (t : yI) : yN := kn.filter (fun q => !(q.1.1 == r) || y_apart B q.1.2 t)
theorem y_kdel_in {B : yB} {env : List Int} (hB : y_B B env) {kn : yN} {r : Nat} {t : yI} {k : Nat} (ht : y_e env t = some (k : Int)) {q : (Nat × yI) × yI} (h : q ∈ y_kdel B kn r t) : q ∈ kn ∧ ∀ j : Nat, y_e env q.1.2 = some (j : Int) → ¬ (q.1.1 = r ∧ j = k) := by
  obtain ⟨h1, h2⟩ := List.mem_filter.mp h
  refine ⟨h1, fun j hj ⟨e1, e2⟩ => ?_⟩
  rw [Bool.or_eq_true] at h2
  rcases h2 with h2 | h2
  · simp [e1] at h2
  · exact y_apart_ok hB h2 hj ht (by rw [e2])
def y_ld (B : yB) (kn : yN) (r : Nat) (t : yI) (q : Int × Int) : yB × yI × yN := match y_kget kn r t with
  | some u => (B, y_nm B u, kn)
  | none => ((y_mk B q.1 q.2).1, (y_mk B q.1 q.2).2, ((r, t), (y_mk B q.1 q.2).2) :: kn)
theorem y_ld_ok {B : yB} {env : List Int} {kn : yN} {ws : va_W} {r k : Nat} {t : yI} {q : Int × Int} {x : Int32} (hB : y_B B env) (hk : y_k env ws kn) (ht : y_e env t = some (k : Int)) (ha : y_at ws r k = some x) (h1 : q.1 ≤ x.toInt) (h2 : x.toInt ≤ q.2) : ∃ env', env <+: env' ∧ y_B (y_ld B kn r t q).1 env' ∧ y_e env' (y_ld B kn r t q).2.1 = some x.toInt ∧ y_k env' ws (y_ld B kn r t q).2.2 := by
  unfold y_ld
  split
  next u hu =>
    obtain ⟨j, x', e0, e1, e2⟩ := hk _ (y_kget_in hu)
    dsimp only at e0 e1
    rw [ht] at e0
    have : j = k := by have := Option.some.inj e0; omega
    subst this
    cases e1.symm.trans ha
    exact ⟨env, List.prefix_refl _, hB, y_nm_ok hB e2, hk⟩
  next =>
    obtain ⟨env', g1, g2, g3⟩ := y_mk_ok hB h1 h2
    refine ⟨env', g1, g2, g3, fun p hp => ?_⟩
    rcases List.mem_cons.mp hp with rfl | hp
    · exact ⟨k, x, y_e_mono g1 ht, ha, g3⟩
    · exact y_k_mono g1 hk p hp
/-! groups -/
def y_grp : List yGr → Nat → Nat → List Nat
  | [], _, _ => []
  | g :: gs, i, r => if y_gin g r = true then i :: y_grp gs (i + 1) r else y_grp gs (i + 1) r
theorem y_grp_in : ∀ {GR : List yGr} {i j r : Nat} {g : yGr}, GR[j]? = some g → y_gin g r = true → i + j ∈ y_grp GR i r
  | [], _, _, _, _, h, _ => by simp at h
  | g0 :: gs, i, 0, r, g, h, hg => by
    rw [List.getElem?_cons_zero] at h
    cases h
    unfold y_grp
    rw [if_pos hg]
    exact List.mem_cons_self
  | g0 :: gs, i, j + 1, r, g, h, hg => by
    rw [List.getElem?_cons_succ] at h
    have := y_grp_in (i := i + 1) h hg
    rw [show i + 1 + j = i + (j + 1) by omega] at this
    unfold y_grp
    split
    · exact List.mem_cons_of_mem _ this
    · exact this
def y_gk (B : yB) (kn : yN) (t : yI) (q : Nat × Int × Int) : Bool := match y_kget kn q.1 t with
  | some v => decide (q.2.1 ≤ (y_rng B v).1) && decide ((y_rng B v).2 ≤ q.2.2)
  | none => false
def y_gval (GR : List yGr) (B : yB) (kn : yN) (e : Nat × yI) : Bool := match GR[e.1]? with
  | none => false
  | some g => (match y_kget kn g.1 e.2 with
    | some v => y_far (y_rng B v) g.2.1
    | none => false) || g.2.2.all (y_gk B kn e.2)
theorem y_kat {B : yB} {env : List Int} {kn : yN} {ws : va_W} (hk : y_k env ws kn) {r j : Nat} {t v : yI} (h : y_kget kn r t = some v) (ht : y_e env t = some (j : Int)) {x : Int32} (hx : y_at ws r j = some x) : y_e env v = some x.toInt := by
  obtain ⟨j', x', e0, e1, e2⟩ := hk _ (y_kget_in h)
  dsimp only at e0 e1 e2
  rw [ht] at e0
  have : j' = j := by have := Option.some.inj e0; omega
  subst this
  cases e1.symm.trans hx
  exact e2
theorem y_gval_ok {GR : List yGr} {B : yB} {env : List Int} (hB : y_B B env) {kn : yN} {ws : va_W} (hk : y_k env ws kn) {i j : Nat} {t : yI} (h : y_gval GR B kn (i, t) = true) {g : yGr} (hg : GR[i]? = some g) (ht : y_e env t = some (j : Int)) : y_Rg ws g j := by
  unfold y_gval at h
  dsimp only at h
  rw [hg] at h
  dsimp only at h
  rw [Bool.or_eq_true] at h
  intro x hx h1 h2 q hq y hy
  rcases h with h | h
  · split at h
    next v hv =>
      have e := y_kat (B := B) hk hv ht hx
      have r := y_rng_ok hB e
      unfold y_far at h
      simp only [Bool.or_eq_true, decide_eq_true_eq] at h
      omega
    next => cases h
  · have h3 := List.all_eq_true.mp h q hq
    unfold y_gk at h3
    split at h3
    next v hv =>
      have e := y_kat (B := B) hk hv ht hy
      have r := y_rng_ok hB e
      simp only [Bool.and_eq_true, decide_eq_true_eq] at h3
      omega
    next => cases h3
def y_exs (GR : List yGr) (B : yB) (kn : yN) (r : Nat) (t : yI) (ex : List (Nat × yI)) : List (Nat × yI) := ((y_grp GR 0 r).map (fun i => (i, t)) ++ ex).filter (fun e => !y_gval GR B kn e)
theorem y_Gs_store {GR : List yGr} {B : yB} {env : List Int} (hB : y_B B env) {ex : List (Nat × yI)} {cp : List (Nat × Nat)} {ws ws' : va_W} {kn : yN} {r k : Nat} {t : yI} (h : y_Gs GR env ex cp ws) (ht : y_e env t = some (k : Int)) (hat : ∀ r' k', ¬ (r' = r ∧ k' = k) → y_at ws' r' k' = y_at ws r' k') (hk : y_k env ws' kn) (hcp : (y_grp GR 0 r).isEmpty = true ∨ cp.isEmpty = true) : y_Gs GR env (y_exs GR B kn r t ex) cp ws' := by
  constructor
  · intro i g hg hc j hj
    by_cases hv : ∃ t', (i, t') ∈ (y_grp GR 0 r).map (fun i => (i, t)) ++ ex ∧ y_e env t' = some (j : Int)
    · obtain ⟨t', h1, h2⟩ := hv
      cases hb : y_gval GR B kn (i, t') with
      | true => exact y_gval_ok hB hk hb hg h2
      | false => exact absurd ⟨t', List.mem_filter.mpr ⟨h1, by rw [hb]; rfl⟩, h2⟩ hj
    · refine y_Rg_same (fun r' hr' => hat r' j (fun ⟨e1, e2⟩ => ?_)) (h.1 i g hg hc j (fun ⟨t', h1, h2⟩ => hv ⟨t', List.mem_append_right _ h1, h2⟩))
      subst e1 e2
      refine hv ⟨t, List.mem_append_left _ (List.mem_map.mpr ⟨i, ?_, rfl⟩), ht⟩
      have := y_grp_in (i := 0) hg hr'
      rwa [Nat.zero_add] at this
  · intro a b ga gb hab ha hb j
    rcases hcp with hcp | hcp
    · have hn : ∀ (i : Nat) (g : yGr), GR[i]? = some g → g.1 ≠ r := fun i g hg e => by
        have := y_grp_in (i := 0) hg (show y_gin g r = true by unfold y_gin; simp [e])
        rw [List.isEmpty_iff.mp hcp] at this
        cases this
      rw [hat _ _ (fun q => hn a ga ha q.1), hat _ _ (fun q => hn b gb hb q.1)]
      exact h.2 a b ga gb hab ha hb j
    · rw [List.isEmpty_iff.mp hcp] at hab
      cases hab
/-- no int is touched -/
theorem y_Gs_same {GR : List yGr} {env : List Int} {ex : List (Nat × yI)} {cp : List (Nat × Nat)} {ws ws' : va_W} (h : y_Gs GR env ex cp ws) (hat : ∀ r k, y_at ws' r k = y_at ws r k) : y_Gs GR env ex cp ws' :=
  ⟨fun i g hg hc j hj => y_Rg_same (fun r _ => hat r j) (h.1 i g hg hc j hj), fun a b ga gb hab ha hb j => by rw [hat, hat]; exact h.2 a b ga gb hab ha hb j⟩
def y_cut (p q : Int × Int) : Int × Int := (max p.1 q.1, min p.2 q.2)
/-- what a group says of a cell that is read -/
def y_gref (B : yB) (kn : yN) (ex : List (Nat × yI)) (cp : List (Nat × Nat)) (r : Nat) (t : yI) : List yGr → Nat → Int × Int → Int × Int
  | [], _, q => q
  | g :: gs, i, q => if (g.2.2.any (fun c => c.1 == r) && (ex.all (fun e => !(e.1 == i)) && (cp.all (fun e => !(e.1 == i)) && y_gk B kn t (g.1, g.2.1.1, g.2.1.2)))) = true
    then y_gref B kn ex cp r t gs (i + 1) (g.2.2.foldl (fun q c => if c.1 = r then y_cut q (c.2.1, c.2.2) else q) q) else y_gref B kn ex cp r t gs (i + 1) q
theorem y_cuts_ok {x : Int} {r : Nat} : ∀ {cs : List (Nat × Int × Int)} {q : Int × Int}, (∀ c ∈ cs, c.1 = r → c.2.1 ≤ x ∧ x ≤ c.2.2) → q.1 ≤ x → x ≤ q.2 → (cs.foldl (fun q c => if c.1 = r then y_cut q (c.2.1, c.2.2) else q) q).1 ≤ x ∧ x ≤ (cs.foldl (fun q c => if c.1 = r then y_cut q (c.2.1, c.2.2) else q) q).2
  | [], _, _, h1, h2 => ⟨h1, h2⟩
  | c :: cs, q, h, h1, h2 => by
    rw [List.foldl_cons]
    refine y_cuts_ok (fun c' hc' => h c' (List.mem_cons_of_mem _ hc')) ?_ ?_
    · split
      next hr => have := h c List.mem_cons_self hr; unfold y_cut; dsimp only; omega
      next => exact h1
    · split
      next hr => have := h c List.mem_cons_self hr; unfold y_cut; dsimp only; omega
      next => exact h2
theorem y_gref_ok {GR0 : List yGr} {B : yB} {env : List Int} (hB : y_B B env) {kn : yN} {ws : va_W} (hk : y_k env ws kn) {ex : List (Nat × yI)} {cp : List (Nat × Nat)} (hG : y_Gs GR0 env ex cp ws) {r j : Nat} {t : yI} (ht : y_e env t = some (j : Int)) {x : Int32} (hx : y_at ws r j = some x) : ∀ {GR : List yGr} {i : Nat} {q : Int × Int}, (∀ k g, GR[k]? = some g → GR0[i + k]? = some g) → q.1 ≤ x.toInt → x.toInt ≤ q.2 → (y_gref B kn ex cp r t GR i q).1 ≤ x.toInt ∧ x.toInt ≤ (y_gref B kn ex cp r t GR i q).2
  | [], _, _, _, h1, h2 => ⟨h1, h2⟩
  | g :: gs, i, q, hg, h1, h2 => by
    have hgs : ∀ k g', gs[k]? = some g' → GR0[i + 1 + k]? = some g' := fun k g' hk' => by
      rw [show i + 1 + k = i + (k + 1) by omega]
      exact hg (k + 1) g' hk'
    unfold y_gref
    split
    next hc =>
      simp only [Bool.and_eq_true] at hc
      obtain ⟨c1, c2, c3, c4⟩ := hc
      have hg0 := hg 0 g rfl
      rw [Nat.add_zero] at hg0
      have hR : y_Rg ws g j := hG.1 i g hg0 (fun b hb => by
        have := List.all_eq_true.mp c3 _ hb
        simp at this) j (fun ⟨t', h3, _⟩ => by
        have := List.all_eq_true.mp c2 _ h3
        simp at this)
      unfold y_gk at c4
      dsimp only at c4
      split at c4
      next v hv =>
        simp only [Bool.and_eq_true, decide_eq_true_eq] at c4
        obtain ⟨j', x', e0, e1, e2⟩ := hk _ (y_kget_in hv)
        dsimp only at e0 e1 e2
        rw [ht] at e0
        have : j' = j := by have := Option.some.inj e0; omega
        subst this
        have rr := y_rng_ok hB e2
        have hall := hR x' e1 (by omega) (by omega)
        obtain ⟨k1, k2⟩ := y_cuts_ok (x := x.toInt) (r := r) (cs := g.2.2) (q := q) (fun c hc e => by subst e; exact hall c hc x hx) h1 h2
        exact y_gref_ok hB hk hG ht hx hgs k1 k2
      next => cases c4
    next => exact y_gref_ok hB hk hG ht hx hgs h1 h2
theorem y_adr {xb : Nat} {ws ws0 : va_W} (had : z_ad xb ws = z_ad xb ws0) {r a a' : Nat} {e : va_E} (h : ws[r]? = some (a', e)) (ha : z_ad xb ws0 (r + 1) = some a) : a = a' := by
  rw [← had] at ha
  unfold z_ad at ha
  dsimp only at ha
  rw [h] at ha
  exact (Option.some.inj ha).symm
/-- bounds that hold all places from a to b -/
def y_jn : List (Nat × Int × Int) → Nat → Nat → Option (Int × Int)
  | [], _, _ => none
  | (n, lo, hi) :: r, a, b => if b < n then some (lo, hi) else match y_jn r (a - n) (b - n) with
    | some (lo', hi') => if a < n then some (min lo lo', max hi hi') else some (lo', hi')
    | none => none
theorem y_jn_ok : ∀ {sg : List (Nat × Int × Int)} {a b : Nat} {lo hi : Int}, y_jn sg a b = some (lo, hi) → ∀ k, a ≤ k → k ≤ b → ∃ q, y_seg sg k = some q ∧ lo ≤ q.1 ∧ q.2 ≤ hi
  | [], _, _, _, _, h, _, _, _ => by cases h
  | (n, l0, h0) :: r, a, b, lo, hi, h, k, hak, hkb => by
    unfold y_jn at h
    unfold y_seg
    split at h
    next hb =>
      cases h
      rw [if_pos (by omega)]
      exact ⟨_, rfl, Int.le_refl _, Int.le_refl _⟩
    next hb =>
      split at h
      next lo' hi' hr =>
        by_cases hk : k < n
        · rw [if_pos hk]
          rw [if_pos (by omega)] at h
          cases h
          exact ⟨_, rfl, by dsimp only; omega, by dsimp only; omega⟩
        · rw [if_neg hk]
          obtain ⟨q, g1, g2, g3⟩ := y_jn_ok hr (k - n) (by omega) (by omega)
          split at h
          next => cases h; exact ⟨q, g1, by omega, by omega⟩
          next => cases h; exact ⟨q, g1, g2, g3⟩
      next => cases h
def y_me : List (Nat × Int × Int) → Nat → Nat → Option (Int × Int)
  | [], _, _ => none
  | (n, lo, hi) :: r, a, b => if b < n then some (lo, hi) else match y_me r (a - n) (b - n) with
    | some (lo', hi') => if a < n then some (max lo lo', min hi hi') else some (lo', hi')
    | none => none
theorem y_me_ok : ∀ {sg : List (Nat × Int × Int)} {a b : Nat} {lo hi : Int}, y_me sg a b = some (lo, hi) → ∀ k, a ≤ k → k ≤ b → ∃ q, y_seg sg k = some q ∧ q.1 ≤ lo ∧ hi ≤ q.2
  | [], _, _, _, _, h, _, _, _ => by cases h
  | (n, l0, h0) :: r, a, b, lo, hi, h, k, hak, hkb => by
    unfold y_me at h
    unfold y_seg
    split at h
    next hb =>
      cases h
      rw [if_pos (by omega)]
      exact ⟨_, rfl, Int.le_refl _, Int.le_refl _⟩
    next hb =>
      split at h
      next lo' hi' hr =>
        by_cases hk : k < n
        · rw [if_pos hk]
          rw [if_pos (by omega)] at h
          cases h
          exact ⟨_, rfl, by dsimp only; omega, by dsimp only; omega⟩
        · rw [if_neg hk]
          obtain ⟨q, g1, g2, g3⟩ := y_me_ok hr (k - n) (by omega) (by omega)
          split at h
          next => cases h; exact ⟨q, g1, by omega, by omega⟩
          next => cases h; exact ⟨q, g1, g2, g3⟩
      next => cases h
/-- a place in a row of n: from where, to where -/
def y_ix (B : yB) (t : yI) (n : Nat) : Option (Nat × Nat) := if 0 ≤ (y_rng B t).1 ∧ (y_rng B t).1 ≤ (y_rng B t).2 ∧ (y_rng B t).2 < (n : Int) then some ((y_rng B t).1.toNat, (y_rng B t).2.toNat) else none
theorem y_ix_ok {B : yB} {env : List Int} (hB : y_B B env) {t : yI} {x : Int32} {n a b : Nat} (h : y_e env t = some x.toInt) (e : y_ix B t n = some (a, b)) : vp_in x n ∧ a ≤ x.toNatClampNeg ∧ x.toNatClampNeg ≤ b ∧ x.toNatClampNeg < n ∧ (x.toNatClampNeg : Int) = x.toInt := by
  have h1 := y_rng_ok hB h
  unfold y_ix at e
  split at e
  next hc =>
    cases e
    have : x.toNatClampNeg = x.toInt.toNat := rfl
    rw [this]
    exact ⟨vp_in_iff.mpr ⟨by omega, by omega⟩, by omega, by omega, by omega, by omega⟩
  next => cases e
def y_fit (ty : FieldType) (q : Int × Int) : Bool := match ty with
  | .int => true
  | .boolean => decide (0 ≤ q.1) && decide (q.2 ≤ 1)
  | _ => false
theorem y_fit_ok {ty : FieldType} {q : Int × Int} {x : Int32} (h : y_fit ty q = true) (h1 : q.1 ≤ x.toInt) (h2 : x.toInt ≤ q.2) : narrow ty (.int x) = .int x ∧ fits ty (.int x) = true := by
  unfold y_fit at h
  split at h
  next => exact ⟨rfl, rfl⟩
  next =>
    simp only [Bool.and_eq_true, decide_eq_true_eq] at h
    have h3 : x.toInt = 0 ∨ x.toInt = 1 := by omega
    rcases h3 with h3 | h3
    · obtain rfl : x = 0 := Int32.toInt_inj.mp h3
      exact ⟨by decide +kernel, by decide +kernel⟩
    · obtain rfl : x = 1 := Int32.toInt_inj.mp h3
      exact ⟨by decide +kernel, by decide +kernel⟩
  next => cases h
def y_rcn (RC : yR) (r a b : Nat) : Bool := RC.all (fun q => !(q.1 == r) || (Nat.blt b q.2.1 || Nat.blt q.2.2 a))
theorem y_rcn_ok {RC : yR} {r a b : Nat} (h : y_rcn RC r a b = true) : ∀ k, a ≤ k → k ≤ b → y_in RC r k = false := by
  intro k h1 h2
  unfold y_in
  rw [List.any_eq_false]
  intro q hq
  have h3 := List.all_eq_true.mp h q hq
  simp only [Bool.or_eq_true, Nat.blt_eq, Bool.not_eq_true', beq_eq_false_iff_ne] at h3
  simp only [Bool.and_eq_true, Nat.ble_eq, beq_iff_eq]
  omega
def y_ina (eff : yR) (r a b : Nat) : Bool := eff.any (fun q => q.1 == r && (Nat.ble q.2.1 a && Nat.ble b q.2.2))
theorem y_ina_ok {eff : yR} {r a b : Nat} (h : y_ina eff r a b = true) : ∀ k, a ≤ k → k ≤ b → y_in eff r k = true := by
  intro k h1 h2
  obtain ⟨q, hq, h3⟩ := List.any_eq_true.mp h
  refine List.any_eq_true.mpr ⟨q, hq, ?_⟩
  simp only [Bool.and_eq_true, Nat.ble_eq, beq_iff_eq] at h3 ⊢
  omega
/-- RI looks at cells of RC alone -/
def y_RI (RC : yR) (RI : va_W → Prop) : Prop := ∀ u v : va_W, (∀ r k, y_in RC r k = true → y_at v r k = y_at u r k) → RI u → RI v
section YQ2
variable {p : Program} {l : Launch} {e : Env} {R : Room} {s : State} {m : MethodId} {args : Array Value} {below : List Frame} {meth : Method} {c : Code} {Q : State → Prop} {cc : ByteArray}
variable {xb : Nat} {kc : Nat → ClassId} {D : va_G} {cl : List vw_C} {A : Nat → Prop} {H0 : Heap} {nL : Nat} {TY : List (List yC)} {eff RC : yR} {GR : List yGr} {RI : va_W → Prop} {ws0 : va_W} {nc ns : Nat} {env : List Int}
variable {zl : List (Nat × yV)} {st : List yV} {kn : yN} {fl : yX} {pc : Nat} {tys : List (ClassId × FieldType)}
theorem y_X_step (hRI : y_RI RC RI) {kn' : yN} {fl' : yX} {ws ws' : va_W} {H H1 : Heap} {locs locs1 : List Loc} (h : y_X xb kc D cl A H0 TY eff GR RI ws0 env kn fl ws H locs) (chg : Nat → Nat → Prop) (hc : ∀ r k, ¬ chg r k → y_at ws' r k = y_at ws r k) (heff : ∀ r k, chg r k → y_in eff r k = true) (hfl : fl'.1 = true → fl.1 = true ∧ ∀ r k, chg r k → y_in RC r k = false) (hk : y_k env ws' kn') (hG : y_Gs GR env fl'.2.1 fl'.2.2 ws') (hw : y_w kc (z_ad xb ws0) TY ws') (had : z_ad xb ws' = z_ad xb ws) (hP : va_P D cl ws' H1) (hD : va_D A ws') (hS : va_S A H0 H1 locs1) : y_X xb kc D cl A H0 TY eff GR RI ws0 env kn' fl' ws' H1 locs1 := by
  obtain ⟨_, hf, _, _, hfr, had0, _⟩ := h
  refine ⟨hk, fun q => ?_, hG, hw, fun r k hrk => ?_, had.trans had0, hP, hD, hS⟩
  · obtain ⟨q1, q2⟩ := hfl q
    refine hRI ws ws' (fun r k hrk => hc r k (fun hh => ?_)) (hf q1)
    rw [q2 r k hh] at hrk
    cases hrk
  · rw [← hfr r k hrk]
    refine hc r k (fun hh => ?_)
    rw [heff r k hh] at hrk
    cases hrk
theorem y_fv {ws : va_W} {r a ci k : Nat} {vs : List Value} {ts : List yT} {t : yT} {ad : Nat → Option Nat} (hws : ws[r]? = some (a, .inr (ci, vs))) (hvs : z_L (y_tv ad) ts vs) (hv : ts[k]? = some t) : ∃ v, vs[k]? = some v ∧ y_tv ad t v ∧ y_at ws r k = y_iv v := by
  obtain ⟨v, h1, h2⟩ := z_L_get hvs hv
  refine ⟨v, h1, h2, ?_⟩
  unfold y_at
  rw [hws]
  dsimp only
  rw [h1]
  rfl
theorem y_getf (hx : p.tables.exec = Jvm.exec) (hb : c.code = cc) {B : yB} (hB : y_B B env) {own C : String} {T : u_T} {N ci k index r : Nat} {Ts : List Cond} {ts : List yT} {q : Int × Int} (hts : ∀ w ∈ Ts, w.before args s = true) (hin : ∀ w ∈ u_ws C T N, w ∈ Ts) (hown : s.vm.findClass own = some m.cls) (hK : va_K D cl tys s) (hc : cl[ci]? = some (C, T, N)) (hk : k < N) (hlink : (Cond.fieldLink own index (T k).1 (T k).2.1 (T k).2.2.1) ∈ Ts) (hd : decode cc pc = .ok (.getfield index, 3))
    (hw : y_T TY r = some (.inl (ci, ts))) (hv : ts[k]? = some (.inl q)) (kk : y_K (y_G p l e R s m args below meth c Q xb kc D cl A H0 nL TY eff GR RI ws0 nc ns) env [((y_ld B kn r (.inl k) q).1, pc + 3, (zl, .inl (y_ld B kn r (.inl k) q).2.1 :: st, (y_ld B kn r (.inl k) q).2.2, fl))]) : y_G p l e R s m args below meth c Q xb kc D cl A H0 nL TY eff GR RI ws0 nc ns env pc (zl, .inr (.inl (some (r + 1))) :: st, kn, fl) := by
  intro ls sv ws H locs ⟨h1, h2, hX⟩
  obtain ⟨hkn, hf, hGs, hwt, hfr, had, hP, hD, hS⟩ := id hX
  obtain ⟨_, sv', rfl, ⟨a, ha, rfl⟩, h4⟩ := y_st1 h2
  obtain ⟨a', e', hws, vs, rfl, hvs⟩ := hwt r _ hw
  obtain rfl := y_adr had hws ha
  obtain ⟨v, hb1, ⟨x, rfl, hx1, hx2⟩, hat⟩ := y_fv hws hvs hv
  refine va_get hx hb hts hin hown hK hP r hws hc k hk (hts _ hlink) (fun _ h => h) hb1 hd ?_
  obtain ⟨env', g1, g2, g3, g4⟩ := y_ld_ok (t := .inl k) hB hkn rfl hat hx1 hx2
  exact kk _ List.mem_cons_self env' g1 g2 ls _ ws H locs ⟨y_l_mono g1 h1, ⟨⟨x, rfl, g3⟩, z_L_mono (y_v_mono g1) h4⟩, g4, (y_X_mono g1 hX).2⟩
theorem y_getr (hx : p.tables.exec = Jvm.exec) (hb : c.code = cc) {B : yB} (hB : y_B B env) {own C : String} {T : u_T} {N ci k index r : Nat} {Ts : List Cond} {ts : List yT} {rs : List (Option Nat)} (hts : ∀ w ∈ Ts, w.before args s = true) (hin : ∀ w ∈ u_ws C T N, w ∈ Ts) (hown : s.vm.findClass own = some m.cls) (hK : va_K D cl tys s) (hc : cl[ci]? = some (C, T, N)) (hk : k < N) (hlink : (Cond.fieldLink own index (T k).1 (T k).2.1 (T k).2.2.1) ∈ Ts) (hd : decode cc pc = .ok (.getfield index, 3))
    (hw : y_T TY r = some (.inl (ci, ts))) (hv : ts[k]? = some (.inr (.inl rs))) (kk : y_K (y_G p l e R s m args below meth c Q xb kc D cl A H0 nL TY eff GR RI ws0 nc ns) env (rs.map (fun o => (B, pc + 3, (zl, .inr (.inl o) :: st, kn, fl))))) : y_G p l e R s m args below meth c Q xb kc D cl A H0 nL TY eff GR RI ws0 nc ns env pc (zl, .inr (.inl (some (r + 1))) :: st, kn, fl) := by
  intro ls sv ws H locs ⟨h1, h2, hX⟩
  obtain ⟨hkn, hf, hGs, hwt, hfr, had, hP, hD, hS⟩ := id hX
  obtain ⟨_, sv', rfl, ⟨a, ha, rfl⟩, h4⟩ := y_st1 h2
  obtain ⟨a', e', hws, vs, rfl, hvs⟩ := hwt r _ hw
  obtain rfl := y_adr had hws ha
  obtain ⟨v, hb1, ⟨o, ho, hvo⟩, hat⟩ := y_fv hws hvs hv
  refine va_get hx hb hts hin hown hK hP r hws hc k hk (hts _ hlink) (fun _ h => h) hb1 hd ?_
  refine kk (B, pc + 3, (zl, .inr (.inl o) :: st, kn, fl)) (List.mem_map.mpr ⟨o, ho, rfl⟩) env (List.prefix_refl _) hB ls _ ws H locs ⟨h1, ⟨?_, h4⟩, hX⟩
  cases o with
  | none => exact hvo
  | some i => exact hvo
theorem y_getl (hx : p.tables.exec = Jvm.exec) (hb : c.code = cc) {B : yB} (hB : y_B B env) {own C : String} {T : u_T} {N ci k index r : Nat} {Ts : List Cond} {ts : List yT} (hts : ∀ w ∈ Ts, w.before args s = true) (hin : ∀ w ∈ u_ws C T N, w ∈ Ts) (hown : s.vm.findClass own = some m.cls) (hK : va_K D cl tys s) (hc : cl[ci]? = some (C, T, N)) (hk : k < N) (hlink : (Cond.fieldLink own index (T k).1 (T k).2.1 (T k).2.2.1) ∈ Ts) (hd : decode cc pc = .ok (.getfield index, 3))
    (hw : y_T TY r = some (.inl (ci, ts))) (hv : ts[k]? = some (.inr (.inr ()))) (kk : y_K (y_G p l e R s m args below meth c Q xb kc D cl A H0 nL TY eff GR RI ws0 nc ns) env [(B, pc + 3, (zl, .inr (.inr ()) :: st, kn, fl))]) : y_G p l e R s m args below meth c Q xb kc D cl A H0 nL TY eff GR RI ws0 nc ns env pc (zl, .inr (.inl (some (r + 1))) :: st, kn, fl) := by
  intro ls sv ws H locs ⟨h1, h2, hX⟩
  obtain ⟨hkn, hf, hGs, hwt, hfr, had, hP, hD, hS⟩ := id hX
  obtain ⟨_, sv', rfl, ⟨a, ha, rfl⟩, h4⟩ := y_st1 h2
  obtain ⟨a', e', hws, vs, rfl, hvs⟩ := hwt r _ hw
  obtain rfl := y_adr had hws ha
  obtain ⟨v, hb1, ⟨x, rfl⟩, hat⟩ := y_fv hws hvs hv
  refine va_get hx hb hts hin hown hK hP r hws hc k hk (hts _ hlink) (fun _ h => h) hb1 hd ?_
  exact kk _ List.mem_cons_self env (List.prefix_refl _) hB ls _ ws H locs ⟨h1, ⟨⟨x, rfl⟩, h4⟩, hX⟩
/-- a field is set: what it takes of the machine -/
theorem y_putc (hx : p.tables.exec = Jvm.exec) (hb : c.code = cc) {own C : String} {T : u_T} {N ci k index r : Nat} {Ts : List Cond} {ty0 : Nat → FieldType} {x : Value} {a : Nat} {vs : List Value} {ls : Array Slot} {svr : List Value} {ws : va_W} {H : Heap} {locs : List Loc} (hts : ∀ w ∈ Ts, w.before args s = true) (hin : ∀ w ∈ u_ws C T N, w ∈ Ts) (hty : ∀ k, k < N → parseFieldDescriptor (T k).2.2.1 = some (ty0 k)) (hnm : ∀ a, a < N → ∀ b, b < N → a ≠ b → (T a).2.1 ≠ (T b).2.1) (hown : s.vm.findClass own = some m.cls) (hK : va_K D cl tys s) (hc : cl[ci]? = some (C, T, N)) (hk : k < N) (hlink : (Cond.fieldLink own index (T k).1 (T k).2.1 (T k).2.2.1) ∈ Ts)
    (hfin : (T k).2.2.2 = false ∨ ((T k).2.2.2 = true ∧ meth.name = "<init>" ∧ (T k).1 = own)) (hd : decode cc pc = .ok (.putfield index, 3)) (hws : ws[r]? = some (a, .inr (ci, vs))) (hl : k < vs.length) (hn1 : narrow (ty0 k) x = x) (hn2 : fits (ty0 k) x = true) (hP : va_P D cl ws H) (hD : va_D A ws) (hS : va_S A H0 H locs)
    (hgo : ∀ (H1 : Heap) (locs1 : List Loc), va_P D cl (ws.set r (a, .inr (ci, vs.set k x))) H1 → va_D A (ws.set r (a, .inr (ci, vs.set k x))) → va_S A H0 H1 locs1 → W p l e R s m args below meth c H1 locs1 nc ns Q (F0 m (pc + 3) ls svr)) : W p l e R s m args below meth c H locs nc ns Q (F0 m pc ls (x :: .ref a :: svr)) := by
  rcases hfin with hf | ⟨hf, hf2, hf3⟩
  · exact va_put hx hb hts hin ty0 hty hnm hown hK hP hD hS r hws hc k hk (hts _ hlink) (fun _ h => h) hf (hty k hk) hn1 hn2 hl hd hgo
  · exact va_putF hx hb hts hin ty0 hty hnm hown hK hP hD hS r hws hc k hk (hts _ hlink) (fun _ h => h) hf hf2 hf3 (hty k hk) hn1 hn2 hl hd hgo
theorem y_setsame {ts : List yT} {k : Nat} {t : yT} (hv : ts[k]? = some t) : ts.set k t = ts := List.ext_getElem? (fun j => by
  by_cases hj : k = j
  · subst hj
    rw [List.getElem?_set_self (List.getElem?_eq_some_iff.mp hv).1, hv]
  · rw [List.getElem?_set_ne hj])
/-- what is known behind a store -/
def y_kst (B : yB) (kn : yN) (r : Nat) (t v : yI) : yN := ((r, t), v) :: y_kdel B kn r t
theorem y_kst_ok {B : yB} (hB : y_B B env) {ws ws' : va_W} {r k : Nat} {t v : yI} {x : Int32} (hkn : y_k env ws kn) (ht : y_e env t = some (k : Int)) (hv : y_e env v = some x.toInt) (hat : ∀ r' k', y_at ws' r' k' = if r' = r ∧ k' = k then some x else y_at ws r' k') : y_k env ws' (y_kst B kn r t v) := by
  intro q hq
  rcases List.mem_cons.mp hq with rfl | hq
  · exact ⟨k, x, ht, by rw [hat, if_pos ⟨rfl, rfl⟩], hv⟩
  · obtain ⟨g1, g2⟩ := y_kdel_in hB ht hq
    obtain ⟨j, x', g3, g4, g5⟩ := hkn q g1
    refine ⟨j, x', g3, ?_, g5⟩
    rw [hat, if_neg (g2 j g3)]
    exact g4
/-- what is open behind a store at the places from a to b -/
def y_fst (GR : List yGr) (RC : yR) (B : yB) (kn : yN) (r a b : Nat) (t : yI) (fl : yX) : yX := (fl.1 && y_rcn RC r a b, y_exs GR B kn r t fl.2.1, fl.2.2)
theorem y_puti (hx : p.tables.exec = Jvm.exec) (hb : c.code = cc) (hRI : y_RI RC RI) {B : yB} (hB : y_B B env) {own C : String} {T : u_T} {N ci k index r : Nat} {Ts : List Cond} {ts : List yT} {ty0 : Nat → FieldType} {q : Int × Int} {t : yI} (hts : ∀ w ∈ Ts, w.before args s = true) (hin : ∀ w ∈ u_ws C T N, w ∈ Ts) (hty : ∀ k, k < N → parseFieldDescriptor (T k).2.2.1 = some (ty0 k)) (hnm : ∀ a, a < N → ∀ b, b < N → a ≠ b → (T a).2.1 ≠ (T b).2.1) (hown : s.vm.findClass own = some m.cls) (hK : va_K D cl tys s) (hc : cl[ci]? = some (C, T, N)) (hk : k < N) (hlink : (Cond.fieldLink own index (T k).1 (T k).2.1 (T k).2.2.1) ∈ Ts)
    (hfin : (T k).2.2.2 = false ∨ ((T k).2.2.2 = true ∧ meth.name = "<init>" ∧ (T k).1 = own)) (hd : decode cc pc = .ok (.putfield index, 3)) (hw : y_T TY r = some (.inl (ci, ts))) (hv : ts[k]? = some (.inl q)) (hq : q.1 ≤ (y_rng B t).1 ∧ (y_rng B t).2 ≤ q.2) (hfit : y_fit (ty0 k) (y_rng B t) = true) (heff : y_ina eff r k k = true) (hcp : (y_grp GR 0 r).isEmpty = true ∨ fl.2.2.isEmpty = true) (kk : y_K (y_G p l e R s m args below meth c Q xb kc D cl A H0 nL TY eff GR RI ws0 nc ns) env [(B, pc + 3, (zl, st, y_kst B kn r (.inl k) t, y_fst GR RC B (y_kst B kn r (.inl k) t) r k k (.inl k) fl))]) : y_G p l e R s m args below meth c Q xb kc D cl A H0 nL TY eff GR RI ws0 nc ns env pc (zl, .inl t :: .inr (.inl (some (r + 1))) :: st, kn, fl) := by
  intro ls sv ws H locs ⟨h1, h2, hX⟩
  obtain ⟨hkn, hf, hGs, hwt, hfr, had, hP, hD, hS⟩ := id hX
  obtain ⟨_, sv', rfl, ⟨x, rfl, hxt⟩, h4⟩ := y_st1 h2
  obtain ⟨_, sv'', rfl, ⟨a, ha, rfl⟩, h5⟩ := y_st1 h4
  obtain ⟨a', e', hws, vs, rfl, hvs⟩ := hwt r _ hw
  obtain rfl := y_adr had hws ha
  have hr := y_rng_ok hB hxt
  obtain ⟨hn1, hn2⟩ := y_fit_ok hfit hr.1 hr.2
  have hl' : k < vs.length := by rw [← z_L_len hvs]; exact (List.getElem?_eq_some_iff.mp hv).1
  refine y_putc hx hb hts hin hty hnm hown hK hc hk hlink hfin hd hws hl' hn1 hn2 hP hD hS (fun H1 locs1 hP1 hD1 hS1 => ?_)
  have hat : ∀ r' k', y_at (ws.set r (a, .inr (ci, vs.set k (.int x)))) r' k' = if r' = r ∧ k' = k then some x else y_at ws r' k' := fun r' k' => y_at_seto (v := .int x) hws hl' r' k'
  have hkn' := y_kst_ok (t := .inl k) hB hkn rfl hxt hat
  refine kk _ List.mem_cons_self env (List.prefix_refl _) hB ls _ _ H1 locs1 ⟨h1, h5, y_X_step hRI hX (fun r' k' => r' = r ∧ k' = k) (fun r' k' q => by rw [hat, if_neg q]) (fun r' k' q => ?_) (fun q => ?_) hkn' (y_Gs_store (t := .inl k) hB hGs rfl (fun r' k' q => by rw [hat, if_neg q]) hkn' hcp) (y_w_set hwt hws hw ⟨_, rfl, ?_⟩) (z_ad_set hws) hP1 hD1 hS1⟩
  · obtain ⟨rfl, rfl⟩ := q
    exact y_ina_ok heff _ (Nat.le_refl _) (Nat.le_refl _)
  · unfold y_fst at q
    dsimp only at q
    rw [Bool.and_eq_true] at q
    refine ⟨q.1, fun r' k' q1 => ?_⟩
    obtain ⟨rfl, rfl⟩ := q1
    exact y_rcn_ok q.2 _ (Nat.le_refl _) (Nat.le_refl _)
  · have h9 := z_L_set hvs k (a := .inl q) (b := .int x) ⟨x, rfl, by omega, by omega⟩
    rwa [y_setsame hv] at h9
theorem y_putr (hx : p.tables.exec = Jvm.exec) (hb : c.code = cc) (hRI : y_RI RC RI) {B : yB} (hB : y_B B env) {own C : String} {T : u_T} {N ci k index r : Nat} {Ts : List Cond} {ts : List yT} {ty0 : Nat → FieldType} {rs : List (Option Nat)} {i : Nat} (hts : ∀ w ∈ Ts, w.before args s = true) (hin : ∀ w ∈ u_ws C T N, w ∈ Ts) (hty : ∀ k, k < N → parseFieldDescriptor (T k).2.2.1 = some (ty0 k)) (hnm : ∀ a, a < N → ∀ b, b < N → a ≠ b → (T a).2.1 ≠ (T b).2.1) (hown : s.vm.findClass own = some m.cls) (hK : va_K D cl tys s) (hc : cl[ci]? = some (C, T, N)) (hk : k < N) (hlink : (Cond.fieldLink own index (T k).1 (T k).2.1 (T k).2.2.1) ∈ Ts)
    (hfin : (T k).2.2.2 = false ∨ ((T k).2.2.2 = true ∧ meth.name = "<init>" ∧ (T k).1 = own)) (hd : decode cc pc = .ok (.putfield index, 3)) (hw : y_T TY r = some (.inl (ci, ts))) (hv : ts[k]? = some (.inr (.inl rs))) (hi : some i ∈ rs) (hfit : (∃ n, ty0 k = .object n) ∨ ∃ t, ty0 k = .array t) (kk : y_K (y_G p l e R s m args below meth c Q xb kc D cl A H0 nL TY eff GR RI ws0 nc ns) env [(B, pc + 3, (zl, st, kn, fl))]) : y_G p l e R s m args below meth c Q xb kc D cl A H0 nL TY eff GR RI ws0 nc ns env pc (zl, .inr (.inl (some i)) :: .inr (.inl (some (r + 1))) :: st, kn, fl) := by
  intro ls sv ws H locs ⟨h1, h2, hX⟩
  obtain ⟨hkn, hf, hGs, hwt, hfr, had, hP, hD, hS⟩ := id hX
  obtain ⟨_, sv', rfl, ⟨x, hxt, rfl⟩, h4⟩ := y_st1 h2
  obtain ⟨_, sv'', rfl, ⟨a, ha, rfl⟩, h5⟩ := y_st1 h4
  obtain ⟨a', e', hws, vs, rfl, hvs⟩ := hwt r _ hw
  obtain rfl := y_adr had hws ha
  obtain ⟨v0, hb1, hb2, hat0⟩ := y_fv hws hvs hv
  have hn0 : y_at ws r k = none := by
    rw [hat0]
    obtain ⟨o, _, ho⟩ := hb2
    cases o with
    | none => rw [show v0 = .null from ho]; rfl
    | some i => obtain ⟨b, _, rfl⟩ := ho; rfl
  have hl' : k < vs.length := by rw [← z_L_len hvs]; exact (List.getElem?_eq_some_iff.mp hv).1
  refine y_putc hx hb hts hin hty hnm hown hK hc hk hlink hfin hd hws hl' (x := .ref x) (by rcases hfit with ⟨_, q⟩ | ⟨_, q⟩ <;> (rw [q]; rfl)) (by rcases hfit with ⟨_, q⟩ | ⟨_, q⟩ <;> (rw [q]; rfl)) hP hD hS (fun H1 locs1 hP1 hD1 hS1 => ?_)
  have hat : ∀ r' k', y_at (ws.set r (a, .inr (ci, vs.set k (.ref x)))) r' k' = y_at ws r' k' := fun r' k' => by
    rw [y_at_seto hws hl']
    split
    next q => obtain ⟨rfl, rfl⟩ := q; rw [hn0]; rfl
    next => rfl
  refine kk _ List.mem_cons_self env (List.prefix_refl _) hB ls _ _ H1 locs1 ⟨h1, h5, y_X_step hRI hX (fun _ _ => False) (fun r' k' _ => hat r' k') (fun _ _ q => q.elim) (fun q => ⟨q, fun _ _ q => q.elim⟩) (fun q hq => ?_) (y_Gs_same hGs hat) (y_w_set hwt hws hw ⟨_, rfl, ?_⟩) (z_ad_set hws) hP1 hD1 hS1⟩
  · obtain ⟨j, x', g1, g2, g3⟩ := hkn q hq
    exact ⟨j, x', g1, by rw [hat]; exact g2, g3⟩
  · have h9 := z_L_set hvs k (a := .inr (.inl rs)) (b := .ref x) ⟨some i, hi, x, hxt, rfl⟩
    rwa [y_setsame hv] at h9
theorem y_putl (hx : p.tables.exec = Jvm.exec) (hb : c.code = cc) (hRI : y_RI RC RI) {B : yB} (hB : y_B B env) {own C : String} {T : u_T} {N ci k index r : Nat} {Ts : List Cond} {ts : List yT} {ty0 : Nat → FieldType} (hts : ∀ w ∈ Ts, w.before args s = true) (hin : ∀ w ∈ u_ws C T N, w ∈ Ts) (hty : ∀ k, k < N → parseFieldDescriptor (T k).2.2.1 = some (ty0 k)) (hnm : ∀ a, a < N → ∀ b, b < N → a ≠ b → (T a).2.1 ≠ (T b).2.1) (hown : s.vm.findClass own = some m.cls) (hK : va_K D cl tys s) (hc : cl[ci]? = some (C, T, N)) (hk : k < N) (hlink : (Cond.fieldLink own index (T k).1 (T k).2.1 (T k).2.2.1) ∈ Ts)
    (hfin : (T k).2.2.2 = false ∨ ((T k).2.2.2 = true ∧ meth.name = "<init>" ∧ (T k).1 = own)) (hd : decode cc pc = .ok (.putfield index, 3)) (hw : y_T TY r = some (.inl (ci, ts))) (hv : ts[k]? = some (.inr (.inr ()))) (hfit : ty0 k = .long) (kk : y_K (y_G p l e R s m args below meth c Q xb kc D cl A H0 nL TY eff GR RI ws0 nc ns) env [(B, pc + 3, (zl, st, kn, fl))]) : y_G p l e R s m args below meth c Q xb kc D cl A H0 nL TY eff GR RI ws0 nc ns env pc (zl, .inr (.inr ()) :: .inr (.inl (some (r + 1))) :: st, kn, fl) := by
  intro ls sv ws H locs ⟨h1, h2, hX⟩
  obtain ⟨hkn, hf, hGs, hwt, hfr, had, hP, hD, hS⟩ := id hX
  obtain ⟨_, sv', rfl, ⟨x, rfl⟩, h4⟩ := y_st1 h2
  obtain ⟨_, sv'', rfl, ⟨a, ha, rfl⟩, h5⟩ := y_st1 h4
  obtain ⟨a', e', hws, vs, rfl, hvs⟩ := hwt r _ hw
  obtain rfl := y_adr had hws ha
  obtain ⟨v0, hb1, hb2, hat0⟩ := y_fv hws hvs hv
  have hn0 : y_at ws r k = none := by
    rw [hat0]
    obtain ⟨b, rfl⟩ := hb2
    rfl
  have hl' : k < vs.length := by rw [← z_L_len hvs]; exact (List.getElem?_eq_some_iff.mp hv).1
  refine y_putc hx hb hts hin hty hnm hown hK hc hk hlink hfin hd hws hl' (x := .long x) (by rw [hfit]; rfl) (by rw [hfit]; rfl) hP hD hS (fun H1 locs1 hP1 hD1 hS1 => ?_)
  have hat : ∀ r' k', y_at (ws.set r (a, .inr (ci, vs.set k (.long x)))) r' k' = y_at ws r' k' := fun r' k' => by
    rw [y_at_seto hws hl']
    split
    next q => obtain ⟨rfl, rfl⟩ := q; rw [hn0]; rfl
    next => rfl
  refine kk _ List.mem_cons_self env (List.prefix_refl _) hB ls _ _ H1 locs1 ⟨h1, h5, y_X_step hRI hX (fun _ _ => False) (fun r' k' _ => hat r' k') (fun _ _ q => q.elim) (fun q => ⟨q, fun _ _ q => q.elim⟩) (fun q hq => ?_) (y_Gs_same hGs hat) (y_w_set hwt hws hw ⟨_, rfl, ?_⟩) (z_ad_set hws) hP1 hD1 hS1⟩
  · obtain ⟨j, x', g1, g2, g3⟩ := hkn q hq
    exact ⟨j, x', g1, by rw [hat]; exact g2, g3⟩
  · have h9 := z_L_set hvs k (a := .inr (.inr ())) (b := .long x) ⟨x, rfl⟩
    rwa [y_setsame hv] at h9
end YQ2
