/-! ===== what kc tells of the rows of NAMES ===== -/
def kv_v (kc : Nat → ClassId) (r k : Nat) : Int := ((kc (1000 + 64 * r + k) : Nat) : Int) - 9223372036854775808
def kv_o (o : Option Int64) : Nat := match o with
  | some x => (x.toInt + 9223372036854775808).toNat
  | none => 0
/-- the same classes, and what the longs of a world are -/
def kv_mk (kc : Nat → ClassId) (ws : va_W) : Nat → ClassId := fun k => match Nat.blt k 1000 with
  | true => kc k
  | false => kv_o (x_at ws ((k - 1000) / 64) ((k - 1000) % 64))
theorem kv_lo {kc : Nat → ClassId} {ws : va_W} {k : Nat} (h : k < 1000) : kv_mk kc ws k = kc k := by
  unfold kv_mk
  rw [show Nat.blt k 1000 = true from Nat.ble_eq.mpr h]
theorem kv_hi {kc : Nat → ClassId} {ws : va_W} {r k : Nat} (hk : k < 64) : kv_mk kc ws (1000 + 64 * r + k) = kv_o (x_at ws r k) := by
  unfold kv_mk
  have h : Nat.blt (1000 + 64 * r + k) 1000 = false := by
    cases hb : Nat.blt (1000 + 64 * r + k) 1000 with
    | false => rfl
    | true =>
      have : 1000 + 64 * r + k + 1 ≤ 1000 := Nat.le_of_ble_eq_true hb
      omega
  rw [h]
  show kv_o (x_at ws ((1000 + 64 * r + k - 1000) / 64) ((1000 + 64 * r + k - 1000) % 64)) = _
  rw [show (1000 + 64 * r + k - 1000) / 64 = r by omega, show (1000 + 64 * r + k - 1000) % 64 = k by omega]
theorem kv_at {kc : Nat → ClassId} {ws : va_W} {r k : Nat} (hk : k < 64) {x : Int64} (h : x_at ws r k = some x) : kv_v (kv_mk kc ws) r k = x.toInt := by
  unfold kv_v
  rw [kv_hi hk, h]
  have := x_lb x
  show (((x.toInt + 9223372036854775808).toNat : Nat) : Int) - 9223372036854775808 = x.toInt
  omega
/-- what is said of a cell's type that no mark has -/
def kv_n (c : yC) : Prop := (∀ k sg, c = .inr (.inl (k, sg)) → k < 1000) ∧ (∀ k es, c = .inr (.inr (.inr (k, es))) → k < 1000) ∧ ∀ n es, c = .inr (.inr (.inl (n, es))) → y_ok0 es = true
def kv_nb (c : yC) : Bool := match c with
  | .inl _ => true
  | .inr (.inl (k, _)) => Nat.blt k 1000
  | .inr (.inr (.inl (_, es))) => y_ok0 es
  | .inr (.inr (.inr (k, _))) => Nat.blt k 1000
theorem kv_nb_ok {c : yC} (h : kv_nb c = true) : kv_n c := by
  match c, h with
  | .inl q, _ => exact ⟨(fun _ _ e => by cases e), (fun _ _ e => by cases e), (fun _ _ e => by cases e)⟩
  | .inr (.inl (k, sg)), h =>
    have hk : k < 1000 := Nat.le_of_ble_eq_true h
    exact ⟨(fun _ _ e => by cases e; exact hk), (fun _ _ e => by cases e), (fun _ _ e => by cases e)⟩
  | .inr (.inr (.inr (k, es))), h =>
    have hk : k < 1000 := Nat.le_of_ble_eq_true h
    exact ⟨(fun _ _ e => by cases e), (fun _ _ e => by cases e; exact hk), (fun _ _ e => by cases e)⟩
  | .inr (.inr (.inl (n, es))), h => exact ⟨(fun _ _ e => by cases e), (fun _ _ e => by cases e), (fun _ _ e => by cases e; exact h)⟩
def kv_nt (r : Nat) : Bool := match y_T yTY r with
  | some c => kv_nb c
  | none => true
theorem kv_nall : ((List.range 240).all kv_nt) = true := by decide +kernel
theorem kv_nT {r : Nat} {c : yC} (hc : y_T yTY r = some c) : kv_n c := by
  rcases Nat.lt_or_ge r 240 with h | h
  · have h9 := List.all_eq_true.mp kv_nall r (List.mem_range.mpr h)
    unfold kv_nt at h9
    rw [hc] at h9
    exact kv_nb_ok h9
  · have l2 : yTY.length = 15 := rfl
    unfold y_T at hc
    rw [List.getElem?_eq_none (by omega)] at hc
    cases hc
def kv_cc (r : Nat) (c c' : yC) : Prop := (c' = c ∧ (∀ k sg, c = .inr (.inl (k, sg)) → k < 1000) ∧ (∀ k es, c = .inr (.inr (.inr (k, es))) → k < 1000) ∧ ∀ n es, c = .inr (.inr (.inl (n, es))) → y_ok0 es = true) ∨ ∃ (n : Nat) (e : Int) (es2 : List Int), c = .inr (.inr (.inl (n, e :: es2))) ∧ c' = .inr (.inr (.inl (n, []))) ∧ e = -(r : Int) ∧ 0 < r ∧ n ≤ 64 ∧ (es2 = [] ∨ ∃ m, es2 = [m] ∧ (-m).toNat ≤ n)
theorem kv_s0 : ∀ j : Nat, j ≠ 13 → yTrV_0[j]? = yTr_0[j]?
  | 0, _ => rfl
  | 1, _ => rfl
  | 2, _ => rfl
  | 3, _ => rfl
  | 4, _ => rfl
  | 5, _ => rfl
  | 6, _ => rfl
  | 7, _ => rfl
  | 8, _ => rfl
  | 9, _ => rfl
  | 10, _ => rfl
  | 11, _ => rfl
  | 12, _ => rfl
  | 13, h => absurd rfl h
  | 14, _ => rfl
  | 15, _ => rfl
  | k + 16, _ => rfl
theorem kv_s10 : ∀ j : Nat, j ≠ 5 → yTrV_10[j]? = yTr_10[j]?
  | 0, _ => rfl
  | 1, _ => rfl
  | 2, _ => rfl
  | 3, _ => rfl
  | 4, _ => rfl
  | 5, h => absurd rfl h
  | 6, _ => rfl
  | 7, _ => rfl
  | 8, _ => rfl
  | 9, _ => rfl
  | 10, _ => rfl
  | 11, _ => rfl
  | 12, _ => rfl
  | 13, _ => rfl
  | 14, _ => rfl
  | 15, _ => rfl
  | k + 16, _ => rfl
theorem kv_s12 : ∀ j : Nat, j ≠ 0 → yTrV_12[j]? = yTr_12[j]?
  | 0, h => absurd rfl h
  | 1, _ => rfl
  | 2, _ => rfl
  | 3, _ => rfl
  | 4, _ => rfl
  | 5, _ => rfl
  | 6, _ => rfl
  | 7, _ => rfl
  | 8, _ => rfl
  | 9, _ => rfl
  | 10, _ => rfl
  | 11, _ => rfl
  | 12, _ => rfl
  | 13, _ => rfl
  | 14, _ => rfl
  | 15, _ => rfl
  | k + 16, _ => rfl
theorem kv_s13 : ∀ j : Nat, j ≠ 6 → j ≠ 15 → yTrV_13[j]? = yTr_13[j]?
  | 0, _, _ => rfl
  | 1, _, _ => rfl
  | 2, _, _ => rfl
  | 3, _, _ => rfl
  | 4, _, _ => rfl
  | 5, _, _ => rfl
  | 6, h, _ => absurd rfl h
  | 7, _, _ => rfl
  | 8, _, _ => rfl
  | 9, _, _ => rfl
  | 10, _, _ => rfl
  | 11, _, _ => rfl
  | 12, _, _ => rfl
  | 13, _, _ => rfl
  | 14, _, _ => rfl
  | 15, _, h => absurd rfl h
  | k + 16, _, _ => rfl
theorem kv_sg : ∀ i : Nat, i ≠ 0 → i ≠ 10 → i ≠ 12 → i ≠ 13 → yTYV[i]? = yTY[i]?
  | 0, h, _, _, _ => absurd rfl h
  | 1, _, _, _, _ => rfl
  | 2, _, _, _, _ => rfl
  | 3, _, _, _, _ => rfl
  | 4, _, _, _, _ => rfl
  | 5, _, _, _, _ => rfl
  | 6, _, _, _, _ => rfl
  | 7, _, _, _, _ => rfl
  | 8, _, _, _, _ => rfl
  | 9, _, _, _, _ => rfl
  | 10, _, h, _, _ => absurd rfl h
  | 11, _, _, _, _ => rfl
  | 12, _, _, h, _ => absurd rfl h
  | 13, _, _, _, h => absurd rfl h
  | 14, _, _, _, _ => rfl
  | k + 15, _, _, _, _ => rfl
theorem kv_same {r : Nat} (h1 : r ≠ 13) (h2 : r ≠ 165) (h3 : r ≠ 192) (h4 : r ≠ 214) (h5 : r ≠ 223) : y_T yTYV r = y_T yTY r := by
  unfold y_T
  by_cases g0 : r / 16 = 0
  · rw [g0]
    show yTrV_0[r % 16]? = yTr_0[r % 16]?
    exact kv_s0 _ (by omega)
  by_cases g1 : r / 16 = 10
  · rw [g1]
    show yTrV_10[r % 16]? = yTr_10[r % 16]?
    exact kv_s10 _ (by omega)
  by_cases g2 : r / 16 = 12
  · rw [g2]
    show yTrV_12[r % 16]? = yTr_12[r % 16]?
    exact kv_s12 _ (by omega)
  by_cases g3 : r / 16 = 13
  · rw [g3]
    show yTrV_13[r % 16]? = yTr_13[r % 16]?
    exact kv_s13 _ (by omega) (by omega)
  rw [kv_sg _ g0 g1 g2 g3]
theorem kv_r (r : Nat) : (y_T yTYV r = none ∧ y_T yTY r = none) ∨ ∃ c c', y_T yTYV r = some c ∧ y_T yTY r = some c' ∧ kv_cc r c c' := by
  by_cases h1 : r = 13
  · subst h1
    exact Or.inr ⟨_, _, rfl, rfl, Or.inr ⟨22, -13, [], rfl, rfl, rfl, by decide, by decide, Or.inl rfl⟩⟩
  by_cases h2 : r = 165
  · subst h2
    exact Or.inr ⟨_, _, rfl, rfl, Or.inr ⟨22, -165, [], rfl, rfl, rfl, by decide, by decide, Or.inl rfl⟩⟩
  by_cases h3 : r = 192
  · subst h3
    exact Or.inr ⟨_, _, rfl, rfl, Or.inr ⟨22, -192, [], rfl, rfl, rfl, by decide, by decide, Or.inl rfl⟩⟩
  by_cases h4 : r = 214
  · subst h4
    exact Or.inr ⟨_, _, rfl, rfl, Or.inr ⟨44, -214, [-22], rfl, rfl, rfl, by decide, by decide, Or.inr ⟨-22, rfl, by decide⟩⟩⟩
  by_cases h5 : r = 223
  · subst h5
    exact Or.inr ⟨_, _, rfl, rfl, Or.inr ⟨44, -223, [], rfl, rfl, rfl, by decide, by decide, Or.inl rfl⟩⟩
  rw [kv_same h1 h2 h3 h4 h5]
  cases hq : y_T yTY r with
  | none => exact Or.inl ⟨rfl, rfl⟩
  | some c => exact Or.inr ⟨c, c, rfl, rfl, Or.inl ⟨rfl, kv_nT hq⟩⟩
theorem kv_sm {kc kc' : Nat → ClassId} (hk : ∀ k, k < 1000 → kc' k = kc k) {ad : Nat → Option Nat} {c : yC} {e : va_E} (h : kv_n c) (hy : y_c kc ad c e) : y_c kc' ad c e := by
  match c, h, hy with
  | .inl (ci, ts), _, hy => exact hy
  | .inr (.inl (k, sg)), h, hy =>
    obtain ⟨f, rfl, hf⟩ := hy
    exact ⟨f, by rw [hk k (h.1 k sg rfl)], hf⟩
  | .inr (.inr (.inl (n, es))), h, hy =>
    obtain ⟨f, rfl, hf⟩ := hy
    have h0 := h.2.2 n es rfl
    exact ⟨f, by rw [hk 1 (by decide)], fun j x hj => hf j x ((y_lc_0 h0 j).trans ((y_lc_0 h0 j).symm.trans hj))⟩
  | .inr (.inr (.inr (k, es))), h, hy =>
    obtain ⟨f, rfl, hf⟩ := hy
    exact ⟨f, by rw [hk k (h.2.1 k es rfl)], hf⟩
theorem kv_nY {r : Nat} {c : yC} (hc : y_T yTY r = some c) : kv_n c := kv_nT hc
theorem y_lc_m {kc : Nat → ClassId} {n : Nat} {x0 : Int} {es2 : List Int} {j : Nat} {x : Int} (hx0 : x0 < 0) (hm : es2 = [] ∨ ∃ m, es2 = [m] ∧ (-m).toNat ≤ n) (hj : y_lc kc n (x0 :: es2) j = some x) : j < n ∧ x = ((kc (1000 + 64 * (-x0).toNat + j) : Nat) : Int) - 9223372036854775808 := by
  rcases hm with rfl | ⟨m, rfl, hm⟩
  · unfold y_lc at hj
    dsimp only at hj
    rw [if_neg (by omega)] at hj
    by_cases h9 : j < n
    · rw [if_pos h9] at hj
      exact ⟨h9, (Option.some.inj hj).symm⟩
    · rw [if_neg h9] at hj
      cases hj
  · unfold y_lc at hj
    dsimp only at hj
    rw [if_neg (by omega)] at hj
    by_cases h9 : j < (-m).toNat
    · rw [if_pos h9] at hj
      exact ⟨by omega, (Option.some.inj hj).symm⟩
    · rw [if_neg h9] at hj
      cases hj
theorem y_lc_v0 {kc : Nat → ClassId} {n : Nat} {x0 : Int} {k : Nat} (hx0 : x0 < 0) (hk : k < n) : y_lc kc n [x0] k = some (((kc (1000 + 64 * (-x0).toNat + k) : Nat) : Int) - 9223372036854775808) := by
  unfold y_lc
  dsimp only
  rw [if_neg (by omega), if_pos hk]
theorem y_lc_v1 {kc : Nat → ClassId} {n : Nat} {x0 m : Int} {k : Nat} (hx0 : x0 < 0) (hk : k < (-m).toNat) : y_lc kc n [x0, m] k = some (((kc (1000 + 64 * (-x0).toNat + k) : Nat) : Int) - 9223372036854775808) := by
  unfold y_lc
  dsimp only
  rw [if_neg (by omega), if_pos hk]
/-- at yTY the classes' numbers alone tell -/
theorem kv_kk {kc kc' : Nat → ClassId} (hk : ∀ k, k < 1000 → kc' k = kc k) {ad : Nat → Option Nat} {ws : va_W} (hw : y_w kc ad yTY ws) : y_w kc' ad yTY ws := fun r c hc => by
  obtain ⟨a, e, g1, g2⟩ := hw r c hc
  exact ⟨a, e, g1, kv_sm hk (kv_nY hc) g2⟩
theorem kv_mk_k {kc : Nat → ClassId} {ws : va_W} (k : Nat) (h : k < 1000) : kv_mk kc ws k = kc k := kv_lo h
theorem kv_mk_k' {kc : Nat → ClassId} {ws : va_W} (k : Nat) (h : k < 1000) : kc k = kv_mk kc ws k := (kv_lo h).symm
/-- any world is one whose names kc tells -/
theorem kv_K {kc : Nat → ClassId} {ad : Nat → Option Nat} {ws : va_W} (hw : y_w kc ad yTY ws) : y_w (kv_mk kc ws) ad yTYV ws := by
  intro r c hc
  rcases kv_r r with ⟨h, _⟩ | ⟨c1, c2, e1, e2, hcc⟩
  · rw [h] at hc
    cases hc
  · rw [e1] at hc
    have hc := Option.some.inj hc
    subst hc
    obtain ⟨a, e, g1, g2⟩ := hw r c2 e2
    refine ⟨a, e, g1, ?_⟩
    rcases hcc with ⟨h0, h1, h2, h3⟩ | ⟨n, x0, es2, rfl, rfl, hx, hr, hn, hm⟩
    · subst h0
      exact kv_sm kv_mk_k ⟨h1, h2, h3⟩ g2
    · obtain ⟨f, rfl, hf⟩ := g2
      refine ⟨f, rfl, fun j x hj => ?_⟩
      have hat : j < n → x_at ws r j = some (f j) := fun h => by
        unfold x_at
        rw [g1]
        dsimp only
        rw [if_pos h]
      have key : j < n ∧ x = kv_v (kv_mk kc ws) r j := by
        obtain ⟨k1, k2⟩ := y_lc_m (by omega) hm hj
        refine ⟨k1, ?_⟩
        rw [k2, show (-x0).toNat = r by omega]
        rfl
      rw [key.2, kv_at (by omega) (hat key.1)]
theorem kv_W {kc : Nat → ClassId} {ad : Nat → Option Nat} {ws : va_W} (hw : y_w kc ad yTYV ws) : y_w kc ad yTY ws := by
  intro r c hc
  rcases kv_r r with ⟨_, h⟩ | ⟨c1, c2, e1, e2, hcc⟩
  · rw [h] at hc
    cases hc
  · rw [e2] at hc
    have hc := Option.some.inj hc
    subst hc
    obtain ⟨a, e, g1, g2⟩ := hw r c1 e1
    refine ⟨a, e, g1, ?_⟩
    rcases hcc with ⟨h0, _⟩ | ⟨n, x0, es2, rfl, rfl, _⟩
    · subst h0
      exact g2
    · obtain ⟨f, rfl, hf⟩ := g2
      exact ⟨f, rfl, fun j x hj => by cases hj⟩
/-- the cells that kc tells -/
def kv_t (r k : Nat) : Bool := match y_T yTYV r with
  | some (.inr (.inr (.inl (n, es)))) => (match es with
    | [] => false
    | e :: es2 => decide (e < 0) && Nat.blt k (match es2 with
      | [] => n
      | m :: _ => (-m).toNat))
  | _ => false
theorem kv_is {kc : Nat → ClassId} {ad : Nat → Option Nat} {ws : va_W} (hw : y_w kc ad yTYV ws) {r k : Nat} (h : kv_t r k = true) : ∃ x, x_at ws r k = some x ∧ x.toInt = kv_v kc r k := by
  unfold kv_t at h
  split at h
  next n es hT =>
    rcases kv_r r with ⟨h0, _⟩ | ⟨c1, c2, e1, e2, hcc⟩
    · rw [h0] at hT
      cases hT
    · have hT1 := hT
      rw [e1] at hT1
      have hT2 := Option.some.inj hT1
      subst hT2
      rcases hcc with ⟨_, _, _, h3⟩ | ⟨n', x0, es2, hc, _, hx, hr, hn, hm⟩
      · have h9 := h3 n es rfl
        cases es with
        | nil => cases h
        | cons e es2 =>
          dsimp only at h
          rw [Bool.and_eq_true] at h
          have a1 := of_decide_eq_true h.1
          have a2 : 0 ≤ e := of_decide_eq_true h9
          omega
      · cases hc
        obtain ⟨a, e, g1, f, rfl, hf⟩ := hw r _ hT
        dsimp only at h
        rw [Bool.and_eq_true] at h
        have hv : k < n ∧ y_lc kc n (x0 :: es2) k = some (kv_v kc r k) := by
          rcases hm with rfl | ⟨m, rfl, hm⟩
          · have hk : k < n := Nat.le_of_ble_eq_true h.2
            refine ⟨hk, ?_⟩
            rw [y_lc_v0 (by omega) hk, show (-x0).toNat = r by omega]
            rfl
          · have hk : k < (-m).toNat := Nat.le_of_ble_eq_true h.2
            refine ⟨by omega, ?_⟩
            rw [y_lc_v1 (by omega) hk, show (-x0).toNat = r by omega]
            rfl
        refine ⟨f k, ?_, hf k _ hv.2⟩
        unfold x_at
        rw [g1]
        dsimp only
        rw [if_pos hv.1]
  next => cases h
theorem kv_ofl {kc : Nat → ClassId} {ad : Nat → Option Nat} {ws : va_W} (hw : y_w kc ad yTYV ws) {r k : Nat} (h : kv_t r k = true) : x_ofl ws x_0 r k = kv_v kc r k := by
  obtain ⟨x, x1, x2⟩ := kv_is hw h
  unfold x_ofl
  rw [x1]
  exact x2
theorem kv_22 : ∀ k : Fin 22, kv_t 13 k.val = true ∧ kv_t 165 k.val = true ∧ kv_t 192 k.val = true ∧ kv_t 214 k.val = true ∧ kv_t 223 k.val = true ∧ kv_t 223 (22 + k.val) = true := by decide +kernel
/-- rows of longs that a heap alone says -/
theorem xl_same {kc : Nat → ClassId} {ad : Nat → Option Nat} {xb : Nat} {D : va_G} {H : Heap} {u v : va_W} (hw1 : y_w kc ad yTY u) (hw2 : y_w kc ad yTY v) (a1 : z_ad xb u = ad) (a2 : z_ad xb v = ad) (hP1 : va_P D vwCl u H) (hP2 : va_P D vwCl v H) {r n : Nat} {es : List Int} (hty : y_T yTY r = some (.inr (.inr (.inl (n, es))))) (k : Nat) : x_at u r k = x_at v r k := by
  have hadr : ∀ {a a' : Nat} {e e' : va_E}, u[r]? = some (a, e) → v[r]? = some (a', e') → a = a' := by
    intro a a' e e' e1 e2
    have h1 : z_ad xb u (r + 1) = some a := by show (u[r]?).map _ = _; rw [e1]; rfl
    have h2 : z_ad xb v (r + 1) = some a' := by show (v[r]?).map _ = _; rw [e2]; rfl
    rw [a1] at h1
    rw [a2] at h2
    exact Option.some.inj (h1.symm.trans h2)
  obtain ⟨a, e, e1, f, rfl, _⟩ := hw1 r _ hty
  obtain ⟨a', e', e1', f', rfl, _⟩ := hw2 r _ hty
  obtain rfl := hadr e1 e1'
  have c1 : H[a]? = some (arrV (kc 1) n (fun j => .long (f j))) := hP1 r _ e1
  have c2 : H[a]? = some (arrV (kc 1) n (fun j => .long (f' j))) := hP2 r _ e1'
  rw [c1] at c2
  have c3 := Option.some.inj c2
  unfold x_at
  rw [e1, e1']
  dsimp only
  by_cases hk : k < n
  · rw [if_pos hk, if_pos hk]
    have h5 := arrV_read (kc 1) (fun j => Value.long (f j)) hk
    rw [c3, arrV_read (kc 1) (fun j => Value.long (f' j)) hk] at h5
    have h6 : Value.long (f' k) = Value.long (f k) := Option.some.inj h5
    injection h6 with h6
    rw [h6]
  · rw [if_neg hk, if_neg hk]
/-- rows of longs -/
def xl_t (r : Nat) : Bool := match y_T yTY r with
  | some (.inr (.inr (.inl _))) => true
  | _ => false
theorem xl_t_ok {r : Nat} (h : xl_t r = true) : ∃ n es, y_T yTY r = some (.inr (.inr (.inl (n, es)))) := by
  unfold xl_t at h
  split at h
  next q hq => exact ⟨q.1, q.2, hq⟩
  next => cases h
theorem kv_tl {r k : Nat} (h : kv_t r k = true) : xl_t r = true := by
  unfold kv_t at h
  split at h
  next n es hT =>
    rcases kv_r r with ⟨h0, _⟩ | ⟨c1, c2, e1, e2, hcc⟩
    · rw [h0] at hT
      cases hT
    · rw [e1] at hT
      have hT := Option.some.inj hT
      subst hT
      unfold xl_t
      rcases hcc with ⟨h0, _⟩ | ⟨n', x0, es2, _, h0, _⟩
      · rw [e2, h0]
      · rw [e2, h0]
  next => cases h
theorem xy_andB {l : Launch} {y : MethodName} {tb : List Cond} {rm : Room} {Pc : Array Value → State → Prop} {D : va_G} {cl : List vw_C} {ws : va_W} {sz : Nat} {P1 P2 : Option Value → va_W → Prop} {free : Addr → Prop} (h1 : Met l y tb rm Pc (y_Q D cl ws sz (some .boolean) P1) 0 0 free) (h2 : Met l y tb rm Pc (y_Q D cl ws sz (some .boolean) P2) 0 0 free) : Met l y tb rm Pc (y_Q D cl ws sz (some .boolean) (fun rv u => (∃ x : Int32, rv = some (.int x)) ∧ P1 rv u ∧ ∃ u2, P2 rv u2 ∧ ∃ H, va_P D cl u H ∧ va_P D cl u2 H)) 0 0 free := by
  intro p e a1 a2 a3 s m args below a4 a5 a6 a7
  obtain ⟨n, o, g1, g2, g3, g4, g5⟩ := h1 p e a1 a2 a3 s m args below a4 a5 a6 a7
  obtain ⟨n', o', k1, k2, k3, k4, k5⟩ := h2 p e a1 a2 a3 s m args below a4 a5 a6 a7
  obtain ⟨rfl, rfl⟩ := the_end_unique (f := fun k => stepsAlone p.tables e k s) g1 g3 k1 k3
  refine ⟨n, o, g1, g2, g3, ?_, g5⟩
  obtain ⟨⟨r, u, e1, q1, q2⟩, q3⟩ := g4
  obtain ⟨⟨r', u', e1', q1', q2'⟩, q3'⟩ := k4
  rw [e1] at e1'
  cases e1'
  exact ⟨⟨r, u, e1, ⟨⟨r, rfl⟩, q1, u', q1', _, q2.1, q2'.1⟩, q2⟩, q3⟩
section XYL
variable {xb : Nat} {kc : Nat → ClassId} {D : va_G} {l : Launch} {EX : (Nat → Prop) → State → Heap → Prop}
variable {p : Program} {e : Env} {R : Room} {s : State} {m : MethodId} {args : Array Value} {below : List Frame} {meth : Method} {c : Code} {Q : State → Prop} {A : Nat → Prop} {H0 : Heap} {nc ns : Nat} {M : yM} {d pc : Nat}
theorem xy_callL {ws : va_W} {sc : Bool} (hC0 : y_ctx EX zTB zNT vwCl kc D p R s m args meth c A H0 xb ws (z_ad xb ws) nc ns sc 40 M) (hMk : y_Mok zTB zNT vwCl zTF yP0 M) (hE : z_EX EX) {idx j ci r : Nat} {ts : List yT} (hf : y_find M.2.2.2.2.1 pc = some (.invokevirtual idx, [1, j, ci])) (hw : y_T yTY r = some (.inl (ci, ts))) (hU : xy_U xb kc (z_ad xb ws) ws) {y2 : MethodName} {c2 : ByteArray} {L2 : Nat} {t2 : List (List zE)} {na : Nat} {sp : List Nat} (hj : yP0 j = some (y2, c2, L2, some .int, t2, na, sp)) (hL2 : L2 ≤ 80) {av : List Value} (hna : av.length = na) {a : Nat} (ha1 : z_ad xb ws (r + 1) = some a) {svr : List Value} (hsum : (svr.map fun v => v.category).sum ≤ 8) {ls : Array Slot} {lvv : List (Nat × Value)} (hlv : lv_has ls M.2.2.1 lvv) {H : Heap} {locs : List Loc} (hP : va_P D vwCl ws H) (hD : va_D A ws) (hS : va_S A H0 H locs)
    {K : yCon} (hK : y_ConOk EX l zTB zNT kc D vwCl xb yTY yGR w_R (z_ad xb ws) yP0 K) (hKj : K.1 = j) (hKd : K.2.2.2.2.2.1 ≤ 39) (hKp : K.2.2.1 = []) (hKn : K.2.2.2.2.2.2.2 = []) (hKr : (∀ o ∈ K.2.2.2.1, o.2.2 = true) ∨ y_clr K.2.2.2.2.1 yRC = true) (hya : z_L (y_pv (z_ad xb ws)) K.2.1 (.ref a :: av))
    {d0 : Nat} {Pre : xPre} {Post : xPost} (hX : x_Ok EX l zTB zNT kc D vwCl xb yTY (z_ad xb ws) yP0 j d0 Pre Post) (hd0 : d0 ≤ 39) {za : List xV} (hav : z_L (x_v (z_ad xb ws)) za av) (hpre : Pre (xR (r + 1) :: za) (x_of ws x_0) (x_ofl ws x_0))
    (kk : ∀ (x : Int32) (u : va_W) (H1 : Heap) (locs1 : List Loc), (∃ o ∈ K.2.2.2.1, ∀ f ∈ o.2.1, y_fv2 [] u f) → xy_U xb kc (z_ad xb ws) u → y_fr K.2.2.2.2.1 ws u → (∃ I' L', Post (xR (r + 1) :: za) (x_of ws x_0) (x_ofl ws x_0) (some (.inl x.toInt)) I' L' ∧ (∀ r k v, xy_t r k = true → y_at u r k = some v → v.toInt = I' r k) ∧ ∀ r k v, xl_t r = true → x_at u r k = some v → v.toInt = L' r k) → va_P D vwCl u H1 → va_D A u → va_S A H0 H1 locs1 → W p l e R s m args below meth c H1 locs1 nc ns Q (F0 m (pc + 3) ls (.int x :: svr))) : W p l e R s m args below meth c H locs nc ns Q (F0 m pc ls (av.reverse ++ .ref a :: svr)) := by
  obtain ⟨u1, u2, u3, u4⟩ := hU
  have m1 := hK y2 c2 L2 (some .int) t2 na sp (by rw [hKj]; exact hj) 39 hKd (.ref a :: av) ws H.size [] hya (fun f hf => by rw [hKp] at hf; cases hf) (fun _ => u1) u2 u3 rfl (by rw [hKn]; trivial)
  have m2 := hX y2 c2 L2 (some .int) t2 na sp hj 39 hd0 (xR (r + 1) :: za) (.ref a :: av) ws H.size (x_of ws x_0) (x_ofl ws x_0) ⟨⟨a, ha1, rfl⟩, hav⟩ hpre (x_of_ag ws x_0 x_0) u3 rfl
  refine xy_callV (d := 39) hC0 hMk hE hf hw u3 hj hL2 hna ha1 hsum hlv hP hD hS (xy_and m1 m2) (fun rv u H1 locs1 hpo g1 g2 g3 => ?_)
  obtain ⟨⟨x, rfl⟩, ⟨o, ho, p1, p2, p3, p4, p5, p6, p7⟩, v, ⟨zr, I', L', q1, q2, q3, q4, q5⟩, H9, t1, t9⟩ := hpo
  have hzr : zr = some (.inl x.toInt) := by
    match zr, q1 with
    | none, h => exact h.elim
    | some (.inl z), h =>
      obtain ⟨⟨x9, h9, h8⟩, _⟩ := h
      cases h9
      rw [← h8]
    | some (.inr (.inl z)), h =>
      obtain ⟨⟨x9, h9, h8⟩, _⟩ := h
      cases h9
    | some (.inr (.inr none)), h => exact absurd (show Value.int x = Value.null from h.1) (by intro q; cases q)
    | some (.inr (.inr (some i))), h =>
      obtain ⟨⟨x9, h9, h8⟩, _⟩ := h
      cases h8
  subst hzr
  have hRu : w_R u := by
    rcases hKr with h | h
    · exact p3 (h o ho)
    · exact xy_keepR h p6 u1
  exact kk x u H1 locs1 ⟨o, ho, p2⟩ ⟨hRu, p4, p5, p7⟩ p6 ⟨I', L', q3, (fun r k v9 ht hv => q2.1 r k v9 (by rw [← xy_same p5 q4 p7 q5 t1 t9 ht]; exact hv)), fun r k v9 ht hv => by
    obtain ⟨n9, es9, hT9⟩ := xl_t_ok ht
    exact q2.2 r k v9 (by rw [← xl_same p5 q4 p7 q5 t1 t9 hT9]; exact hv)⟩ g1 g2 g3
theorem xy_callBL {ws : va_W} {sc : Bool} (hC0 : y_ctx EX zTB zNT vwCl kc D p R s m args meth c A H0 xb ws (z_ad xb ws) nc ns sc 40 M) (hMk : y_Mok zTB zNT vwCl zTF yP0 M) (hE : z_EX EX) {idx j ci r : Nat} {ts : List yT} (hf : y_find M.2.2.2.2.1 pc = some (.invokevirtual idx, [1, j, ci])) (hw : y_T yTY r = some (.inl (ci, ts))) (hU : xy_U xb kc (z_ad xb ws) ws) {y2 : MethodName} {c2 : ByteArray} {L2 : Nat} {t2 : List (List zE)} {na : Nat} {sp : List Nat} (hj : yP0 j = some (y2, c2, L2, some .boolean, t2, na, sp)) (hL2 : L2 ≤ 80) {av : List Value} (hna : av.length = na) {a : Nat} (ha1 : z_ad xb ws (r + 1) = some a) {svr : List Value} (hsum : (svr.map fun v => v.category).sum ≤ 8) {ls : Array Slot} {lvv : List (Nat × Value)} (hlv : lv_has ls M.2.2.1 lvv) {H : Heap} {locs : List Loc} (hP : va_P D vwCl ws H) (hD : va_D A ws) (hS : va_S A H0 H locs)
    {K : yCon} (hK : y_ConOk EX l zTB zNT kc D vwCl xb yTY yGR w_R (z_ad xb ws) yP0 K) (hKj : K.1 = j) (hKd : K.2.2.2.2.2.1 ≤ 39) (hKp : K.2.2.1 = []) (hKn : K.2.2.2.2.2.2.2 = []) (hKr : (∀ o ∈ K.2.2.2.1, o.2.2 = true) ∨ y_clr K.2.2.2.2.1 yRC = true) (hya : z_L (y_pv (z_ad xb ws)) K.2.1 (.ref a :: av))
    {d0 : Nat} {Pre : xPre} {Post : xPost} (hX : x_Ok EX l zTB zNT kc D vwCl xb yTY (z_ad xb ws) yP0 j d0 Pre Post) (hd0 : d0 ≤ 39) {za : List xV} (hav : z_L (x_v (z_ad xb ws)) za av) (hpre : Pre (xR (r + 1) :: za) (x_of ws x_0) (x_ofl ws x_0))
    (kk : ∀ (x : Int32) (u : va_W) (H1 : Heap) (locs1 : List Loc), (∃ o ∈ K.2.2.2.1, ∀ f ∈ o.2.1, y_fv2 [] u f) → xy_U xb kc (z_ad xb ws) u → y_fr K.2.2.2.2.1 ws u → (∃ I' L', Post (xR (r + 1) :: za) (x_of ws x_0) (x_ofl ws x_0) (some (.inl x.toInt)) I' L' ∧ (∀ r k v, xy_t r k = true → y_at u r k = some v → v.toInt = I' r k) ∧ ∀ r k v, xl_t r = true → x_at u r k = some v → v.toInt = L' r k) → va_P D vwCl u H1 → va_D A u → va_S A H0 H1 locs1 → W p l e R s m args below meth c H1 locs1 nc ns Q (F0 m (pc + 3) ls (.int x :: svr))) : W p l e R s m args below meth c H locs nc ns Q (F0 m pc ls (av.reverse ++ .ref a :: svr)) := by
  obtain ⟨u1, u2, u3, u4⟩ := hU
  have m1 := hK y2 c2 L2 (some .boolean) t2 na sp (by rw [hKj]; exact hj) 39 hKd (.ref a :: av) ws H.size [] hya (fun f hf => by rw [hKp] at hf; cases hf) (fun _ => u1) u2 u3 rfl (by rw [hKn]; trivial)
  have m2 := hX y2 c2 L2 (some .boolean) t2 na sp hj 39 hd0 (xR (r + 1) :: za) (.ref a :: av) ws H.size (x_of ws x_0) (x_ofl ws x_0) ⟨⟨a, ha1, rfl⟩, hav⟩ hpre (x_of_ag ws x_0 x_0) u3 rfl
  refine xy_callV (d := 39) hC0 hMk hE hf hw u3 hj hL2 hna ha1 hsum hlv hP hD hS (xy_andB m1 m2) (fun rv u H1 locs1 hpo g1 g2 g3 => ?_)
  obtain ⟨⟨x, rfl⟩, ⟨o, ho, p1, p2, p3, p4, p5, p6, p7⟩, v, ⟨zr, I', L', q1, q2, q3, q4, q5⟩, H9, t1, t9⟩ := hpo
  have hzr : zr = some (.inl x.toInt) := by
    match zr, q1 with
    | none, h => exact h.elim
    | some (.inl z), h =>
      obtain ⟨⟨x9, h9, h8⟩, _⟩ := h
      cases h9
      rw [← h8]
    | some (.inr (.inl z)), h =>
      obtain ⟨⟨x9, h9, h8⟩, _⟩ := h
      cases h9
    | some (.inr (.inr none)), h => exact absurd (show Value.int x = Value.null from h.1) (by intro q; cases q)
    | some (.inr (.inr (some i))), h =>
      obtain ⟨⟨x9, h9, h8⟩, _⟩ := h
      cases h8
  subst hzr
  have hRu : w_R u := by
    rcases hKr with h | h
    · exact p3 (h o ho)
    · exact xy_keepR h p6 u1
  exact kk x u H1 locs1 ⟨o, ho, p2⟩ ⟨hRu, p4, p5, p7⟩ p6 ⟨I', L', q3, (fun r k v9 ht hv => q2.1 r k v9 (by rw [← xy_same p5 q4 p7 q5 t1 t9 ht]; exact hv)), fun r k v9 ht hv => by
    obtain ⟨n9, es9, hT9⟩ := xl_t_ok ht
    exact q2.2 r k v9 (by rw [← xl_same p5 q4 p7 q5 t1 t9 hT9]; exact hv)⟩ g1 g2 g3
end XYL
section XS5
variable {EX : (Nat → Prop) → State → Heap → Prop} {l : Launch} {kc : Nat → ClassId} {D : va_G} {xb : Nat} {ad : Nat → Option Nat}
/-- an exact contract, one by bounds, and that the NAMES stay -/
theorem x_andYV (hE : z_EX EX) {j d0 d1 : Nat} {Pre : xPre} {Post : xPost} {K : yCon} {za0 : List xV} {M : yM} (hX : x_Ok EX l zTB zNT kc D vwCl xb yTY ad yP0 j d0 Pre Post) (hK : ∀ kc' : Nat → ClassId, y_ConOk EX l zTB zNT kc' D vwCl xb yTYV yGR w_R ad yP0 K) (e0 : K.1 = j) (hM : yP0 j = some M) (hr : M.2.2.2.1 = none ∨ M.2.2.2.1 = some .int ∨ M.2.2.2.1 = some .boolean) (e1 : K.2.2.1 = []) (e2 : K.2.2.2.2.2.2.2.all (fun rk => (y_ty yTYV rk.1 rk.2).isSome) = true) (e3 : K.2.2.2.2.2.2.1 = false) (hd0 : d0 ≤ d1) (hd1 : K.2.2.2.2.2.1 ≤ d1) (hza : ∀ av, z_L (x_v ad) za0 av → z_L (y_pv ad) K.2.1 av) : x_Ok EX l zTB zNT kc D vwCl xb yTY ad yP0 j d1 (fun za I L => Pre za I L ∧ za = za0 ∧ goI kc ad I) (fun za I L rv I' L' => Post za I L rv I' L' ∧ (∀ r k, xy_c r k = true → y_in K.2.2.2.2.1 r k = false → I' r k = I r k) ∧ ∀ r k, kv_t r k = true → L' r k = L r k) := by
  intro y cc maxL ret tab na sp hP d hd za av ws sz I L hav ⟨hpre, hz0, hgo⟩ hag hwt had
  have hwV := kv_K hwt
  obtain ⟨env0, hnam⟩ := y_names hwV e2
  have m1 := hX y cc maxL ret tab na sp hP d (by omega) za av ws sz I L hav hpre hag hwt had
  have m2 := hK (kv_mk kc ws) y cc maxL ret tab na sp (by rw [e0]; exact hP) d (by omega) av ws sz env0 (hza av (by rw [← hz0]; exact hav)) (fun f hf => by rw [e1] at hf; cases hf) (fun h => by rw [e3] at h; cases h) (hgo ws hwt (fun r _ k x hx => hag.1 r k x hx)) hwV had hnam
  have hret : ret = none ∨ ret = some .int ∨ ret = some .boolean := by
    rw [hM] at hP
    cases hP
    exact hr
  refine y_Met_conv (xy_and3 hret m1 m2) (fun rv u hpo => ?_)
  obtain ⟨⟨zr, I', L', q1, q2, q3, q4, q5⟩, u2, ⟨o, ho, p1, p2, p3, p4, p5, p6, p7⟩, H9, t1, t9⟩ := hpo
  have q4m : y_w (kv_mk kc ws) ad yTY u := kv_kk kv_mk_k q4
  refine ⟨zr, I', L', q1, q2, ⟨q3, fun r k hc hin => ?_, fun r k ht => ?_⟩, q4, q5⟩
  · unfold xy_c at hc
    rw [Bool.and_eq_true] at hc
    obtain ⟨q, hq⟩ := Option.isSome_iff_exists.mp hc.2
    obtain ⟨x, x1, _⟩ := y_ty_ok hwt hq
    have e := xy_same q4m (kv_W p5) q5 p7 t1 t9 hc.1
    rw [p6 r k hin, x1] at e
    rw [← q2.1 r k x e, hag.1 r k x x1]
  · obtain ⟨n, es, hT⟩ := xl_t_ok (kv_tl ht)
    obtain ⟨x, x1, x2⟩ := kv_is hwV ht
    obtain ⟨y9, y1, y2⟩ := kv_is p5 ht
    have e := xl_same q4m (kv_W p5) q5 p7 t1 t9 hT k
    rw [y1] at e
    have e3 : y9 = x := Int64.toInt_inj.mp (y2.trans x2.symm)
    rw [← q2.2 r k y9 e, e3]
    exact hag.2 r k x x1
/-- a method that is known by its bounds and effects alone, and that the NAMES stay -/
theorem x_ofYV {K : yCon} {za0 : List xV} (h : ∀ kc' : Nat → ClassId, y_ConOk EX l zTB zNT kc' D vwCl xb yTYV [] (fun _ => True) ad yP0 K) (e1 : K.2.2.1 = []) (e2 : K.2.2.2.2.2.2.2 = []) (e3 : K.2.2.2.1 = [(none, [], false)]) (hza : ∀ av, z_L (x_v ad) za0 av → z_L (y_pv ad) K.2.1 av) : x_Ok EX l zTB zNT kc D vwCl xb yTY ad yP0 K.1 K.2.2.2.2.2.1 (fun za _ _ => za = za0) (fun _ I L rv I' L' => rv = none ∧ (∀ r k, y_in K.2.2.2.2.1 r k = false → I' r k = I r k) ∧ ∀ r k, kv_t r k = true → L' r k = L r k) := by
  intro y cc maxL ret tab na sp hP d hd za av ws sz I L hav hpre hag hwt had
  subst hpre
  have hwV := kv_K hwt
  refine y_Met_conv (h (kv_mk kc ws) y cc maxL ret tab na sp hP d hd av ws sz [] (hza av hav) (fun f hf => by rw [e1] at hf; cases hf) (fun _ => trivial) (fun i g hg => by simp at hg) hwV had (by rw [e2]; trivial)) (fun rv u ⟨o, ho, g1, g2, g3, g4, g5, g6, g7⟩ => ?_)
  rw [e3] at ho
  have := List.mem_singleton.mp ho
  subst this
  have hrv : rv = none := by
    cases rv with
    | none => rfl
    | some _ => exact g1.elim
  subst hrv
  refine ⟨none, x_of u I, x_ofl u L, trivial, x_of_ag u I L, ⟨rfl, fun r k hrk => ?_, fun r k ht => ?_⟩, kv_kk kv_mk_k' (kv_W g5), g7⟩
  · have h9 := g6 r k hrk
    unfold x_of
    rw [h9]
    split
    next x hx => exact hag.1 r k x hx
    next => rfl
  · obtain ⟨x, x1, x2⟩ := kv_is hwV ht
    obtain ⟨y9, y1, y2⟩ := kv_is g5 ht
    unfold x_ofl
    rw [y1, ← hag.2 r k x x1]
    exact y2.trans x2.symm
theorem xyV_119 : y_ckE yP0 yTYV zTF [] [] [] yk_119 yh_119 900 = true := by decide +kernel
theorem xyV_119h : ∀ h ∈ yh_119, y_ckH yP0 yTYV zTF [] [] [] yk_119 yh_119 900 h = true := List.forall_mem_cons.mpr ⟨by decide +kernel, fun _ h => absurd h List.not_mem_nil⟩
def xo_fr119V : xPost := fun _ I L rv I' L' => rv = none ∧ (∀ r k, y_in yk_119.2.2.2.2.1 r k = false → I' r k = I r k) ∧ ∀ r k, kv_t r k = true → L' r k = L r k
theorem xk_bgV (hE : z_EX EX) : x_Ok EX l zTB zNT kc D vwCl xb yTY ad yP0 67 1 xr_bg xo_fr119V := x_ofYV (K := yk_119) (za0 := [xR 30]) (fun _ => y_chk_ok (RC := []) hE xy_RI y_prog (CT := []) (fun j K' hK' => by simp [y_cget] at hK') xyV_119 xyV_119h) rfl rfl rfl (fun av h => x_ar1 h)
end XS5
