/-! ===== the NAMES on both sides: those in force and those kept ===== -/
/-- where they lie: the class's (object), the reference's numbers (row, from), the reference's names (row, from) -/
abbrev n3S : Type := Nat × Nat × Nat × Nat × Nat
def n3_0 : n3S := (12, 211, 0, 214, 0)
def n3_1 : n3S := (164, 222, 0, 223, 0)
def n3_2 : n3S := (191, 222, 299, 223, 22)
def n3_x (s : n3S) (I L : xF) : Prop := (I s.1 3 ≤ 22 ∧ I s.2.1 (s.2.2.1 + 0) ≤ 8 ∧ I s.2.1 (s.2.2.1 + 1) ≤ 6 ∧ I s.2.1 (s.2.2.1 + 2) ≤ 8) ∧ ∃ S M C, n3_c s.1 S M C I L ∧ n3_r (fun i => I s.2.1 (s.2.2.1 + i)) (fun k => L s.2.2.2.1 (s.2.2.2.2 + k)) S M C
/-- the cells of one place hold what those of another held -/
def n3_k (s s' : n3S) (I L Z K : xF) : Prop := Z s'.1 3 = I s.1 3 ∧ (∀ k, k < 22 → Z (s'.1 + 2) k = I (s.1 + 2) k) ∧ (∀ i, i < 3 → Z s'.2.1 (s'.2.2.1 + i) = I s.2.1 (s.2.2.1 + i)) ∧ (∀ k, k < 22 → K (s'.1 + 1) k = L (s.1 + 1) k) ∧ ∀ k, k < 22 → K s'.2.2.2.1 (s'.2.2.2.2 + k) = L s.2.2.2.1 (s.2.2.2.2 + k)
theorem n3_x_eq {s s' : n3S} {I L Z K : xF} (h : n3_x s I L) (e : n3_k s s' I L Z K) : n3_x s' Z K := by
  obtain ⟨⟨b1, b2, b3, b4⟩, S, M, C, h1, h2⟩ := h
  obtain ⟨e1, e2, e3, e4, e5⟩ := e
  exact ⟨⟨by rw [e1]; exact b1, by rw [e3 0 (by decide)]; exact b2, by rw [e3 1 (by decide)]; exact b3, by rw [e3 2 (by decide)]; exact b4⟩, S, M, C, n3_c_eq h1 e1 (fun k hk => e4 k (by omega)) (fun k hk => e2 k (by omega)), n3_r_eq h2 (fun i hi => e3 i hi) ⟨b2, b3, b4⟩ (fun k hk => e5 k hk)⟩
/-- the cells of ints that it speaks of -/
def rn_L : List (Nat × Nat × Nat) := [(12, 3, 3), (14, 0, 21), (164, 3, 3), (166, 0, 21), (191, 3, 3), (193, 0, 21), (155, 3, 3), (182, 3, 3), (224, 0, 1), (211, 0, 2), (222, 0, 2), (222, 299, 301)]
def rn_B (r k : Nat) : Bool := rn_L.any (fun q => Nat.beq r q.1 && (Nat.ble q.2.1 k && Nat.ble k q.2.2))
theorem rn_cB : ∀ q ∈ rn_L, ∀ i : Fin 22, (!Nat.ble (q.2.1 + i.val) q.2.2 || xy_c q.1 (q.2.1 + i.val)) = true := by decide +kernel
theorem rn_len : ∀ q ∈ rn_L, q.2.2 ≤ q.2.1 + 21 := by decide
theorem rn_c {r k : Nat} (h : rn_B r k = true) : xy_c r k = true := by
  obtain ⟨q, hq, h1⟩ := List.any_eq_true.mp h
  simp only [Bool.and_eq_true] at h1
  have h2 := Nat.eq_of_beq_eq_true h1.1
  subst h2
  have h3 : q.2.1 ≤ k := Nat.le_of_ble_eq_true h1.2.1
  have h4 : k ≤ q.2.2 := Nat.le_of_ble_eq_true h1.2.2
  have h5 := rn_len q hq
  have h6 := rn_cB q hq ⟨k - q.2.1, by omega⟩
  dsimp only at h6
  rw [show q.2.1 + (k - q.2.1) = k by omega, Bool.or_eq_true] at h6
  rcases h6 with h6 | h6
  · rw [h1.2.2] at h6
    cases h6
  · exact h6
theorem rn_22 {k : Nat} (h : k < 22) : rn_B 14 k = true ∧ rn_B 166 k = true ∧ rn_B 193 k = true := by
  have : ∀ k : Fin 22, rn_B 14 k.val = true ∧ rn_B 166 k.val = true ∧ rn_B 193 k.val = true := by decide +kernel
  exact this ⟨k, h⟩
theorem rn_3 {i : Nat} (h : i < 3) : rn_B 211 i = true ∧ rn_B 222 i = true ∧ rn_B 222 (299 + i) = true := by
  have : ∀ i : Fin 3, rn_B 211 i.val = true ∧ rn_B 222 i.val = true ∧ rn_B 222 (299 + i.val) = true := by decide +kernel
  exact this ⟨i, h⟩
theorem rn_n : rn_B 12 3 = true ∧ rn_B 164 3 = true ∧ rn_B 191 3 = true := by decide
theorem rn_tk : rn_B 155 3 = true ∧ rn_B 182 3 = true ∧ rn_B 224 0 = true ∧ rn_B 224 1 = true := by decide
theorem rn_reg {r k : Nat} (h : rn_B r k = true) : r = 12 ∨ r = 14 ∨ r = 164 ∨ r = 166 ∨ r = 191 ∨ r = 193 ∨ r = 155 ∨ r = 182 ∨ r = 224 ∨ r = 211 ∨ r = 222 := by
  obtain ⟨q, hq, h1⟩ := List.any_eq_true.mp h
  simp only [Bool.and_eq_true] at h1
  have h2 := Nat.eq_of_beq_eq_true h1.1
  have h3 : ∀ q ∈ rn_L, q.1 = 12 ∨ q.1 = 14 ∨ q.1 = 164 ∨ q.1 = 166 ∨ q.1 = 191 ∨ q.1 = 193 ∨ q.1 = 155 ∨ q.1 = 182 ∨ q.1 = 224 ∨ q.1 = 211 ∨ q.1 = 222 := by decide
  have := h3 q hq
  omega
theorem rn_209 {r k : Nat} (h : rn_B r k = true) : r ≠ 209 := by
  have := rn_reg h
  omega
def rn_I (I L : xF) : Prop := n3_x n3_0 I L ∧ (I 155 3 = I 224 0 ∧ I 182 3 = I 224 1) ∧ (I 224 0 ≠ 0 → n3_x n3_1 I L) ∧ (I 224 1 ≠ 0 → n3_x n3_2 I L)
/-- the rows that kc tells -/
theorem rt_22 {k : Nat} (h : k < 22) : kv_t 13 k = true ∧ kv_t 165 k = true ∧ kv_t 192 k = true ∧ kv_t 214 (0 + k) = true ∧ kv_t 223 (0 + k) = true ∧ kv_t 223 (22 + k) = true := by
  rw [Nat.zero_add]
  exact kv_22 ⟨k, h⟩
theorem n3_k0 {I L Z K : xF} (e : ∀ r k, rn_B r k = true → r = 12 ∨ r = 14 ∨ r = 211 → Z r k = I r k) (el : ∀ r k, kv_t r k = true → r = 13 ∨ r = 214 → K r k = L r k) : n3_k n3_0 n3_0 I L Z K := ⟨e 12 3 rn_n.1 (by decide), fun k hk => e 14 k (rn_22 hk).1 (by decide), fun i hi => e 211 (0 + i) (by rw [Nat.zero_add]; exact (rn_3 hi).1) (by decide), fun k hk => el 13 k (rt_22 hk).1 (by decide), fun k hk => el 214 (0 + k) (rt_22 hk).2.2.2.1 (by decide)⟩
theorem n3_k1 {I L Z K : xF} (e : ∀ r k, rn_B r k = true → r = 164 ∨ r = 166 ∨ (r = 222 ∧ k < 299) → Z r k = I r k) (el : ∀ r k, kv_t r k = true → r = 165 ∨ (r = 223 ∧ k < 22) → K r k = L r k) : n3_k n3_1 n3_1 I L Z K := ⟨e 164 3 rn_n.2.1 (by decide), fun k hk => e 166 k (rn_22 hk).2.1 (by omega), fun i hi => e 222 (0 + i) (by rw [Nat.zero_add]; exact (rn_3 hi).2.1) (by omega), fun k hk => el 165 k (rt_22 hk).2.1 (by omega), fun k hk => el 223 (0 + k) (rt_22 hk).2.2.2.2.1 (by omega)⟩
theorem n3_k2 {I L Z K : xF} (e : ∀ r k, rn_B r k = true → r = 191 ∨ r = 193 ∨ (r = 222 ∧ 299 ≤ k) → Z r k = I r k) (el : ∀ r k, kv_t r k = true → r = 192 ∨ (r = 223 ∧ 22 ≤ k) → K r k = L r k) : n3_k n3_2 n3_2 I L Z K := ⟨e 191 3 rn_n.2.2 (by decide), fun k hk => e 193 k (rn_22 hk).2.2 (by omega), fun i hi => e 222 (299 + i) (rn_3 hi).2.2 (by omega), fun k hk => el 192 k (rt_22 hk).2.2.1 (by omega), fun k hk => el 223 (22 + k) (rt_22 hk).2.2.2.2.2 (by omega)⟩
/-- all but the NAMES in force stay -/
theorem rn_up {I L Z K : xF} (hI : rn_I I L) (e : ∀ r k, rn_B r k = true → r ≠ 12 → r ≠ 14 → r ≠ 211 → Z r k = I r k) (el : ∀ r k, kv_t r k = true → r ≠ 13 → r ≠ 214 → K r k = L r k) (hH : n3_x n3_0 Z K) : rn_I Z K := by
  obtain ⟨h1, h2, h3, h4⟩ := hI
  obtain ⟨t1, t2, t3, t4⟩ := rn_tk
  have e3 := e _ _ t3 (by decide) (by decide) (by decide)
  have e4 := e _ _ t4 (by decide) (by decide) (by decide)
  refine ⟨hH, ?_, ?_, ?_⟩
  · rw [e _ _ t1 (by decide) (by decide) (by decide), e _ _ t2 (by decide) (by decide) (by decide), e3, e4]
    exact h2
  · rw [e3]
    intro q
    exact n3_x_eq (h3 q) (n3_k1 (fun r k hr hs => e r k hr (by omega) (by omega) (by omega)) (fun r k hr hs => el r k hr (by omega) (by omega)))
  · rw [e4]
    intro q
    exact n3_x_eq (h4 q) (n3_k2 (fun r k hr hs => e r k hr (by omega) (by omega) (by omega)) (fun r k hr hs => el r k hr (by omega) (by omega)))
theorem rn_fr {I L Z K : xF} (hI : rn_I I L) (e : ∀ r k, rn_B r k = true → Z r k = I r k) (el : ∀ r k, kv_t r k = true → K r k = L r k) : rn_I Z K := rn_up hI (fun r k hr _ _ _ => e r k hr) (fun r k hr _ _ => el r k hr) (n3_x_eq hI.1 (n3_k0 (fun r k hr _ => e r k hr) (fun r k hr _ => el r k hr)))
def rn_R (kc : Nat → ClassId) (ws : va_W) : Prop := rn_I (x_of ws x_0) (kv_v kc)
theorem rn_same {kc : Nat → ClassId} {u v : va_W} (h : ∀ r k, rn_B r k = true → y_at v r k = y_at u r k) (hu : rn_R kc u) : rn_R kc v := rn_fr hu (fun r k hr => by
  unfold x_of
  rw [h r k hr]) (fun _ _ _ => rfl)
/-- effects that leave these cells, some rows aside -/
def rn_nox (X : List Nat) (eff : yR) : Bool := eff.all (fun q => X.contains q.1 || rn_L.all (fun p => !(Nat.beq p.1 q.1) || (Nat.blt q.2.2 p.2.1 || Nat.blt p.2.2 q.2.1)))
theorem rn_nox_ok {X : List Nat} {eff : yR} (h : rn_nox X eff = true) {r k : Nat} (hr : rn_B r k = true) (hx : X.contains r = false) : y_in eff r k = false := by
  refine y_in_no (fun q hq h1 h2 => ?_)
  have h3 := List.all_eq_true.mp h q hq
  rw [h1, hx, Bool.false_or] at h3
  obtain ⟨p, hp, h4⟩ := List.any_eq_true.mp hr
  simp only [Bool.and_eq_true] at h4
  have h5 := Nat.eq_of_beq_eq_true h4.1
  have h6 : p.2.1 ≤ k := Nat.le_of_ble_eq_true h4.2.1
  have h7 : k ≤ p.2.2 := Nat.le_of_ble_eq_true h4.2.2
  have h8 := List.all_eq_true.mp h3 p hp
  rw [← h5, Nat.beq_refl, Bool.not_true, Bool.false_or, Bool.or_eq_true] at h8
  rcases h8 with h8 | h8
  · have : q.2.2 < p.2.1 := Nat.le_of_ble_eq_true h8
    omega
  · have : p.2.2 < q.2.1 := Nat.le_of_ble_eq_true h8
    omega
def rn_no (eff : yR) : Bool := rn_nox [] eff
theorem rn_no_ok {eff : yR} (h : rn_no eff = true) {r k : Nat} (hr : rn_B r k = true) : y_in eff r k = false := rn_nox_ok h hr rfl
theorem rl_E_no : rn_no rl_E = true := by decide +kernel
/-- the FAULT of both is the same -/
def rf_R (ws : va_W) : Prop := x_of ws x_0 0 10 = x_of ws x_0 209 15
theorem rf_same {u v : va_W} (h1 : y_at v 0 10 = y_at u 0 10) (h2 : y_at v 209 15 = y_at u 209 15) (hu : rf_R u) : rf_R v := by
  unfold rf_R x_of at hu ⊢
  rw [h1, h2]
  exact hu
theorem rf_tr {kc : Nat → ClassId} {ad : Nat → Option Nat} {u : va_W} {I' : xF} (hw : y_w kc ad yTY u) (htr : ∀ r k v, xy_t r k = true → y_at u r k = some v → v.toInt = I' r k) {r k : Nat} (h9 : xy_c r k = true) : x_of u x_0 r k = I' r k := by
  unfold xy_c at h9
  rw [Bool.and_eq_true] at h9
  obtain ⟨q, hq⟩ := Option.isSome_iff_exists.mp h9.2
  obtain ⟨x, x1, _⟩ := y_ty_ok hw hq
  unfold x_of
  rw [x1]
  exact htr r k x h9.1 x1
theorem rq_fc : xy_c 0 10 = true ∧ xy_c 209 15 = true := by decide +kernel
def rq_R (kc : Nat → ClassId) (ws : va_W) : Prop := rb_R ws ∧ rn_R kc ws ∧ rf_R ws
theorem rq_fr {kc : Nat → ClassId} {u v : va_W} (hf : y_fr rl_E u v) (h : rq_R kc u) : rq_R kc v := ⟨rb_fr hf h.1, rn_same (fun r k hr => hf r k (rn_no_ok rl_E_no hr)) h.2.1, rf_same (hf 0 10 (by decide +kernel)) (hf 209 15 (by decide +kernel)) h.2.2⟩
theorem rq_same {kc : Nat → ClassId} {u v : va_W} (h : ∀ r k, y_at v r k = y_at u r k) (hu : rq_R kc u) : rq_R kc v := ⟨rb_same (fun j => h 2 j) (fun j => h 210 j) hu.1, rn_same (fun r k _ => h r k) hu.2.1, rf_same (h 0 10) (h 209 15) hu.2.2⟩
/-! what the calls that write NAMES leave -/
theorem lcI_n {d s : Nat} (hds : d = 4 ∧ (s = 156 ∨ s = 183) ∨ (d = 156 ∨ d = 183) ∧ s = 4) (I : xF) {k : Nat} (hk : k < 22) : lcI d s I (d + 10) k = I (s + 10) k ∧ lcI d s I (d + 8) 3 = I (s + 8) 3 := by
  rcases hds with ⟨rfl, rfl | rfl⟩ | ⟨rfl | rfl, rfl⟩
  · refine ⟨?_, rfl⟩
    show x_cp (x_cp (lcA 4 156 I) 166 14 22) 167 15 22 14 k = I 166 k
    rw [x_cp_if, if_neg (fun q => absurd q.1 (by decide)), x_cp_if, if_pos ⟨rfl, hk⟩]
    rfl
  · refine ⟨?_, rfl⟩
    show x_cp (x_cp (lcA 4 183 I) 193 14 22) 194 15 22 14 k = I 193 k
    rw [x_cp_if, if_neg (fun q => absurd q.1 (by decide)), x_cp_if, if_pos ⟨rfl, hk⟩]
    rfl
  · refine ⟨?_, rfl⟩
    show x_cp (x_cp (lcA 156 4 I) 14 166 22) 15 167 22 166 k = I 14 k
    rw [x_cp_if, if_neg (fun q => absurd q.1 (by decide)), x_cp_if, if_pos ⟨rfl, hk⟩]
    rfl
  · refine ⟨?_, rfl⟩
    show x_cp (x_cp (lcA 183 4 I) 14 193 22) 15 194 22 193 k = I 14 k
    rw [x_cp_if, if_neg (fun q => absurd q.1 (by decide)), x_cp_if, if_pos ⟨rfl, hk⟩]
    rfl
theorem tn_155 (I : xF) : (tkI 155 I 164 3 = I 12 3 ∧ ∀ k, k < 22 → tkI 155 I 166 k = I 14 k) ∧ tkI 155 I 155 3 = 1 ∧ ∀ r k, rn_B r k = true → r ≠ 155 → r ≠ 164 → r ≠ 166 → tkI 155 I r k = I r k := by
  refine ⟨⟨rfl, fun k hk => (lcI_n (Or.inr ⟨Or.inl rfl, rfl⟩) I hk).1⟩, rfl, fun r k hr n1 n2 n3 => ?_⟩
  rcases rn_reg hr with rfl | rfl | rfl | rfl | rfl | rfl | rfl | rfl | rfl | rfl | rfl
  all_goals first | exact absurd rfl n1 | exact absurd rfl n2 | exact absurd rfl n3 | rfl
theorem tn_182 (I : xF) : (tkI 182 I 191 3 = I 12 3 ∧ ∀ k, k < 22 → tkI 182 I 193 k = I 14 k) ∧ tkI 182 I 182 3 = 1 ∧ ∀ r k, rn_B r k = true → r ≠ 182 → r ≠ 191 → r ≠ 193 → tkI 182 I r k = I r k := by
  refine ⟨⟨rfl, fun k hk => (lcI_n (Or.inr ⟨Or.inr rfl, rfl⟩) I hk).1⟩, rfl, fun r k hr n1 n2 n3 => ?_⟩
  rcases rn_reg hr with rfl | rfl | rfl | rfl | rfl | rfl | rfl | rfl | rfl | rfl | rfl
  all_goals first | exact absurd rfl n1 | exact absurd rfl n2 | exact absurd rfl n3 | rfl
theorem gn_155 (I : xF) : (x_u (gbI 155 I) 38 2 0 12 3 = I 164 3 ∧ ∀ k, k < 22 → x_u (gbI 155 I) 38 2 0 14 k = I 166 k) ∧ ∀ r k, rn_B r k = true → r ≠ 12 → r ≠ 14 → x_u (gbI 155 I) 38 2 0 r k = I r k := by
  refine ⟨⟨rfl, fun k hk => (lcI_n (Or.inl ⟨rfl, Or.inl rfl⟩) I hk).1⟩, fun r k hr n1 n2 => ?_⟩
  rcases rn_reg hr with rfl | rfl | rfl | rfl | rfl | rfl | rfl | rfl | rfl | rfl | rfl
  all_goals first | exact absurd rfl n1 | exact absurd rfl n2 | rfl
theorem gn_182 (I : xF) : (x_u (gbI 182 I) 38 2 0 12 3 = I 191 3 ∧ ∀ k, k < 22 → x_u (gbI 182 I) 38 2 0 14 k = I 193 k) ∧ ∀ r k, rn_B r k = true → r ≠ 12 → r ≠ 14 → x_u (gbI 182 I) 38 2 0 r k = I r k := by
  refine ⟨⟨rfl, fun k hk => (lcI_n (Or.inl ⟨rfl, Or.inr rfl⟩) I hk).1⟩, fun r k hr n1 n2 => ?_⟩
  rcases rn_reg hr with rfl | rfl | rfl | rfl | rfl | rfl | rfl | rfl | rfl | rfl | rfl
  all_goals first | exact absurd rfl n1 | exact absurd rfl n2 | rfl
/-! image() on both sides -/
set_option maxHeartbeats 1000000 in
theorem rn_img {I I1 J J1 Z L L1 M M1 K : xF} {w x y : Int} (hI : rn_I I L) (h1 : xo_img [xR 1, .inl w] I L (some (.inl x)) I1 L1) (h2 : xo_imm [xR 210, .inl w] J M (some (.inl y)) J1 M1) (k1 : ∀ r k, rn_B r k = true → J r k = I1 r k) (l1 : ∀ r k, kv_t r k = true → M r k = L1 r k) (k2 : ∀ r k, rn_B r k = true → Z r k = J1 r k) (l2 : ∀ r k, kv_t r k = true → K r k = M1 r k) : rn_I Z K := by
  obtain ⟨w1, hw1, h1⟩ := h1
  cases hw1
  obtain ⟨w2, hw2, h2⟩ := h2
  cases hw2
  obtain ⟨g1, g2, g3, g4⟩ := id hI
  obtain ⟨t1, t2, t3, t4⟩ := rn_tk
  rcases h1 with ⟨rfl, _, rfl, rfl⟩ | ⟨rfl, _, rfl, rfl⟩ | ⟨hk, _, rfl, rfl⟩
  · rcases h2 with ⟨κ, _, hκ, _, rfl, rfl⟩ | ⟨hk, _⟩
    · obtain rfl : κ = 0 := by omega
      obtain ⟨⟨a1, a2⟩, a3, a4⟩ := tn_155 I
      have e : ∀ r k, rn_B r k = true → r ≠ 222 → r ≠ 224 → Z r k = tkI 155 I r k := fun r k hr n1 n2 => by
        rw [k2 r k hr, x_u_r n2, ← k1 r k hr]
        unfold imA
        rw [if_neg (fun q => n1 q.1), if_neg (fun q => rn_209 hr q.1)]
      have ea : ∀ r k, rn_B r k = true → r ≠ 222 → r ≠ 224 → r ≠ 155 → r ≠ 164 → r ≠ 166 → Z r k = I r k := fun r k hr n1 n2 n3 n4 n5 => (e r k hr n1 n2).trans (a4 r k hr n3 n4 n5)
      have el : ∀ r k, kv_t r k = true → r ≠ 223 → K r k = x_cp L 13 165 22 r k := fun r k hr n1 => by
        rw [l2 r k hr, ← l1 r k hr]
        unfold imL
        rw [if_neg (fun q => n1 q.1)]
      have ela : ∀ r k, kv_t r k = true → r ≠ 223 → r ≠ 165 → K r k = L r k := fun r k hr n1 n2 => by
        rw [el r k hr n1, x_cp_if, if_neg (fun q => n2 q.1)]
      have e222 : ∀ i, i < 3 → Z 222 (0 + i) = I 211 (0 + i) ∧ Z 222 (299 + i) = I 222 (299 + i) := fun i hi => by
        constructor
        · rw [k2 222 (0 + i) (by have := rn_3 hi; (try simp only [Nat.zero_add]); first | exact this.2.1 | exact this.2.2), x_u_r (by decide)]
          unfold imA
          rw [if_pos ⟨rfl, by omega⟩, show 0 + i - 299 * 0 = 0 + i by omega, k1 211 (0 + i) (by rw [Nat.zero_add]; exact (rn_3 hi).1), a4 211 (0 + i) (by rw [Nat.zero_add]; exact (rn_3 hi).1) (by decide) (by decide) (by decide)]
        · have hb : rn_B 222 (299 + i) = true := by have := rn_3 hi; (try simp only [Nat.zero_add]); first | exact this.2.1 | exact this.2.2
          rw [k2 222 (299 + i) hb, x_u_r (by decide)]
          unfold imA
          rw [if_neg (by omega), if_neg (by omega), k1 _ _ hb, a4 _ _ hb (by decide) (by decide) (by decide)]
      have e223 : ∀ k, k < 22 → K 223 (0 + k) = L 214 (0 + k) ∧ K 223 (22 + k) = L 223 (22 + k) := fun k hk => by
        constructor
        · rw [l2 223 (0 + k) (by have := rt_22 hk; first | exact this.2.2.2.2.1 | exact this.2.2.2.2.2)]
          unfold imL
          rw [if_pos ⟨rfl, by omega⟩, show 0 + k - 22 * 0 = 0 + k by omega, l1 214 (0 + k) (rt_22 hk).2.2.2.1, x_cp_if, if_neg (fun q => absurd q.1 (by decide))]
        · have hb : kv_t 223 (22 + k) = true := by have := rt_22 hk; first | exact this.2.2.2.2.1 | exact this.2.2.2.2.2
          rw [l2 _ _ hb]
          unfold imL
          rw [if_neg (by omega), l1 _ _ hb, x_cp_if, if_neg (fun q => absurd q.1 (by decide))]
      have e2 : Z 224 0 = 1 := by rw [k2 _ _ t3, x_u_s]
      have e3 : Z 224 1 = I 224 1 := by
        rw [k2 _ _ t4, x_u_k (by decide)]
        unfold imA
        rw [if_neg (by omega), if_neg (by omega), k1 _ _ t4, a4 _ _ t4 (by decide) (by decide) (by decide)]
      have h0 : n3_x n3_0 Z K := n3_x_eq g1 (n3_k0 (fun r k hr hs => ea r k hr (by omega) (by omega) (by omega) (by omega) (by omega)) (fun r k hr hs => ela r k hr (by omega) (by omega)))
      have hn : n3_x n3_1 Z K := n3_x_eq (s := n3_0) g1 ⟨(e 164 3 rn_n.2.1 (by decide) (by decide)).trans a1, fun k hk => (e 166 k (rn_22 hk).2.1 (by decide) (by decide)).trans (a2 k hk), fun i hi => (e222 i hi).1, fun k hk => (show K 165 k = L 13 k by rw [el 165 k (rt_22 hk).2.1 (by decide), x_cp_if, if_pos ⟨rfl, hk⟩]), fun k hk => (e223 k hk).1⟩
      have ho : I 224 1 ≠ 0 → n3_x n3_2 Z K := fun q => n3_x_eq (g4 q) ⟨ea 191 3 rn_n.2.2 (by decide) (by decide) (by decide) (by decide) (by decide), fun k hk => ea 193 k (rn_22 hk).2.2 (by decide) (by decide) (by decide) (by decide) (by decide), fun i hi => (e222 i hi).2, fun k hk => ela 192 k (rt_22 hk).2.2.1 (by decide) (by decide), fun k hk => (e223 k hk).2⟩
      exact ⟨h0, ⟨by rw [e 155 3 t1 (by decide) (by decide), a3, e2], by rw [ea 182 3 t2 (by decide) (by decide) (by decide) (by decide) (by decide), e3]; exact g2.2⟩, fun _ => hn, fun q => ho (fun q9 => q (e3.trans q9))⟩
    · omega
  · rcases h2 with ⟨κ, _, hκ, _, rfl, rfl⟩ | ⟨hk, _⟩
    · obtain rfl : κ = 1 := by omega
      obtain ⟨⟨a1, a2⟩, a3, a4⟩ := tn_182 I
      have e : ∀ r k, rn_B r k = true → r ≠ 222 → r ≠ 224 → Z r k = tkI 182 I r k := fun r k hr n1 n2 => by
        rw [k2 r k hr, x_u_r n2, ← k1 r k hr]
        unfold imA
        rw [if_neg (fun q => n1 q.1), if_neg (fun q => rn_209 hr q.1)]
      have ea : ∀ r k, rn_B r k = true → r ≠ 222 → r ≠ 224 → r ≠ 182 → r ≠ 191 → r ≠ 193 → Z r k = I r k := fun r k hr n1 n2 n3 n4 n5 => (e r k hr n1 n2).trans (a4 r k hr n3 n4 n5)
      have el : ∀ r k, kv_t r k = true → r ≠ 223 → K r k = x_cp L 13 192 22 r k := fun r k hr n1 => by
        rw [l2 r k hr, ← l1 r k hr]
        unfold imL
        rw [if_neg (fun q => n1 q.1)]
      have ela : ∀ r k, kv_t r k = true → r ≠ 223 → r ≠ 192 → K r k = L r k := fun r k hr n1 n2 => by
        rw [el r k hr n1, x_cp_if, if_neg (fun q => n2 q.1)]
      have e222 : ∀ i, i < 3 → Z 222 (299 + i) = I 211 (0 + i) ∧ Z 222 (0 + i) = I 222 (0 + i) := fun i hi => by
        constructor
        · rw [k2 222 (299 + i) (by have := rn_3 hi; (try simp only [Nat.zero_add]); first | exact this.2.1 | exact this.2.2), x_u_r (by decide)]
          unfold imA
          rw [if_pos ⟨rfl, by omega⟩, show 299 + i - 299 * 1 = 0 + i by omega, k1 211 (0 + i) (by rw [Nat.zero_add]; exact (rn_3 hi).1), a4 211 (0 + i) (by rw [Nat.zero_add]; exact (rn_3 hi).1) (by decide) (by decide) (by decide)]
        · have hb : rn_B 222 (0 + i) = true := by have := rn_3 hi; (try simp only [Nat.zero_add]); first | exact this.2.1 | exact this.2.2
          rw [k2 222 (0 + i) hb, x_u_r (by decide)]
          unfold imA
          rw [if_neg (by omega), if_neg (by omega), k1 _ _ hb, a4 _ _ hb (by decide) (by decide) (by decide)]
      have e223 : ∀ k, k < 22 → K 223 (22 + k) = L 214 (0 + k) ∧ K 223 (0 + k) = L 223 (0 + k) := fun k hk => by
        constructor
        · rw [l2 223 (22 + k) (by have := rt_22 hk; first | exact this.2.2.2.2.1 | exact this.2.2.2.2.2)]
          unfold imL
          rw [if_pos ⟨rfl, by omega⟩, show 22 + k - 22 * 1 = 0 + k by omega, l1 214 (0 + k) (rt_22 hk).2.2.2.1, x_cp_if, if_neg (fun q => absurd q.1 (by decide))]
        · have hb : kv_t 223 (0 + k) = true := by have := rt_22 hk; first | exact this.2.2.2.2.1 | exact this.2.2.2.2.2
          rw [l2 _ _ hb]
          unfold imL
          rw [if_neg (by omega), l1 _ _ hb, x_cp_if, if_neg (fun q => absurd q.1 (by decide))]
      have e2 : Z 224 1 = 1 := by rw [k2 _ _ t4, x_u_s]
      have e3 : Z 224 0 = I 224 0 := by
        rw [k2 _ _ t3, x_u_k (by decide)]
        unfold imA
        rw [if_neg (by omega), if_neg (by omega), k1 _ _ t3, a4 _ _ t3 (by decide) (by decide) (by decide)]
      have h0 : n3_x n3_0 Z K := n3_x_eq g1 (n3_k0 (fun r k hr hs => ea r k hr (by omega) (by omega) (by omega) (by omega) (by omega)) (fun r k hr hs => ela r k hr (by omega) (by omega)))
      have hn : n3_x n3_2 Z K := n3_x_eq (s := n3_0) g1 ⟨(e 191 3 rn_n.2.2 (by decide) (by decide)).trans a1, fun k hk => (e 193 k (rn_22 hk).2.2 (by decide) (by decide)).trans (a2 k hk), fun i hi => (e222 i hi).1, fun k hk => (show K 192 k = L 13 k by rw [el 192 k (rt_22 hk).2.2.1 (by decide), x_cp_if, if_pos ⟨rfl, hk⟩]), fun k hk => (e223 k hk).1⟩
      have ho : I 224 0 ≠ 0 → n3_x n3_1 Z K := fun q => n3_x_eq (g3 q) ⟨ea 164 3 rn_n.2.1 (by decide) (by decide) (by decide) (by decide) (by decide), fun k hk => ea 166 k (rn_22 hk).2.1 (by decide) (by decide) (by decide) (by decide) (by decide), fun i hi => (e222 i hi).2, fun k hk => ela 165 k (rt_22 hk).2.1 (by decide) (by decide), fun k hk => (e223 k hk).2⟩
      exact ⟨h0, ⟨by rw [ea 155 3 t1 (by decide) (by decide) (by decide) (by decide) (by decide), e3]; exact g2.1, by rw [e 182 3 t2 (by decide) (by decide), a3, e2]⟩, fun q => ho (fun q9 => q (e3.trans q9)), fun _ => hn⟩
    · omega
  · rcases h2 with ⟨κ, _, hκ, _⟩ | ⟨_, _, rfl, rfl⟩
    · omega
    · refine rn_fr hI (fun r k hr => ?_) (fun r k hr => ?_)
      · rw [k2 r k hr, x_u_r (rn_209 hr), k1 r k hr]
      · rw [l2 r k hr, l1 r k hr]
/-! restore() on both sides -/
set_option maxHeartbeats 1000000 in
theorem rn_rst {I I1 J J1 Z L L1 M M1 K : xF} {w x y : Int} (hI : rn_I I L) (h1 : xo_rst [xR 1, .inl w] I L (some (.inl x)) I1 L1) (h2 : xo_rsm [xR 210, .inl w] J M (some (.inl y)) J1 M1) (k1 : ∀ r k, rn_B r k = true → J r k = I1 r k) (l1 : ∀ r k, kv_t r k = true → M r k = L1 r k) (k2 : ∀ r k, rn_B r k = true → Z r k = J1 r k) (l2 : ∀ r k, kv_t r k = true → K r k = M1 r k) : rn_I Z K := by
  obtain ⟨w1, hw1, h1⟩ := h1
  cases hw1
  obtain ⟨w2, hw2, h2⟩ := h2
  cases hw2
  obtain ⟨g1, g2, g3, g4⟩ := id hI
  obtain ⟨t1, t2, t3, t4⟩ := rn_tk
  rcases h1 with ⟨rfl, ht, _, rfl, rfl⟩ | ⟨rfl, ht, _, rfl, rfl⟩ | ⟨hk, _, rfl, rfl⟩
  · obtain ⟨⟨a1, a2⟩, a3⟩ := gn_155 I
    have hJ : J 224 0 = I 224 0 := (k1 _ _ t3).trans (a3 _ _ t3 (by decide) (by decide))
    rcases h2 with ⟨κ, _, hκ, _, _, rfl, rfl⟩ | ⟨hk, _⟩
    · obtain rfl : κ = 0 := by omega
      have e : ∀ r k, rn_B r k = true → r ≠ 211 → Z r k = x_u (gbI 155 I) 38 2 0 r k := fun r k hr n1 => by
        rw [k2 r k hr, x_u_r (rn_209 hr), ← k1 r k hr]
        unfold reA
        rw [if_neg (fun q => n1 q.1), if_neg (fun q => rn_209 hr q.1)]
      have el : ∀ r k, kv_t r k = true → r ≠ 214 → K r k = x_cp L 165 13 22 r k := fun r k hr n1 => by
        rw [l2 r k hr, ← l1 r k hr]
        unfold reL
        rw [if_neg (fun q => n1 q.1)]
      have hne : I 224 0 ≠ 0 := fun q => ht (g2.1.trans q)
      have hb3 : ∀ i, i < 3 → rn_B 222 (0 + i) = true := fun i hi => by have := rn_3 hi; (try simp only [Nat.zero_add]); first | exact this.2.1 | exact this.2.2
      have hbt : ∀ k, k < 22 → kv_t 223 (0 + k) = true := fun k hk => by have := rt_22 hk; first | exact this.2.2.2.2.1 | exact this.2.2.2.2.2
      refine rn_up hI (fun r k hr n1 n2 n3 => (e r k hr n3).trans (a3 r k hr n1 n2)) (fun r k hr n1 n2 => ?_) (n3_x_eq (g3 hne) ⟨(e 12 3 rn_n.1 (by decide)).trans a1, fun k hk => (e 14 k (rn_22 hk).1 (by decide)).trans (a2 k hk), fun i hi => ?_, fun k hk => (show K 13 k = L 165 k by rw [el 13 k (rt_22 hk).1 (by decide), x_cp_if, if_pos ⟨rfl, hk⟩]), fun k hk => ?_⟩)
      · rw [el r k hr n2, x_cp_if, if_neg (fun q => n1 q.1)]
      · show Z 211 (0 + i) = I 222 (0 + i)
        rw [k2 211 (0 + i) (by rw [Nat.zero_add]; exact (rn_3 hi).1), x_u_r (by decide)]
        unfold reA
        rw [if_pos ⟨rfl, by omega⟩, show 299 * 0 + (0 + i) = 0 + i by omega, k1 _ _ (hb3 i hi), a3 _ _ (hb3 i hi) (by decide) (by decide)]
      · show K 214 (0 + k) = L 223 (0 + k)
        rw [l2 214 (0 + k) (rt_22 hk).2.2.2.1]
        unfold reL
        rw [if_pos ⟨rfl, by omega⟩, show 22 * 0 + (0 + k) = 0 + k by omega, l1 _ _ (hbt k hk), x_cp_if, if_neg (fun q => absurd q.1 (by decide))]
    · rcases hk with hk | ⟨κ, _, hκ, h0⟩
      · omega
      · obtain rfl : κ = 0 := by omega
        exact absurd (g2.1.trans (hJ.symm.trans h0)) ht
  · obtain ⟨⟨a1, a2⟩, a3⟩ := gn_182 I
    have hJ : J 224 1 = I 224 1 := (k1 _ _ t4).trans (a3 _ _ t4 (by decide) (by decide))
    rcases h2 with ⟨κ, _, hκ, _, _, rfl, rfl⟩ | ⟨hk, _⟩
    · obtain rfl : κ = 1 := by omega
      have e : ∀ r k, rn_B r k = true → r ≠ 211 → Z r k = x_u (gbI 182 I) 38 2 0 r k := fun r k hr n1 => by
        rw [k2 r k hr, x_u_r (rn_209 hr), ← k1 r k hr]
        unfold reA
        rw [if_neg (fun q => n1 q.1), if_neg (fun q => rn_209 hr q.1)]
      have el : ∀ r k, kv_t r k = true → r ≠ 214 → K r k = x_cp L 192 13 22 r k := fun r k hr n1 => by
        rw [l2 r k hr, ← l1 r k hr]
        unfold reL
        rw [if_neg (fun q => n1 q.1)]
      have hne : I 224 1 ≠ 0 := fun q => ht (g2.2.trans q)
      have hb3 : ∀ i, i < 3 → rn_B 222 (299 + i) = true := fun i hi => by have := rn_3 hi; (try simp only [Nat.zero_add]); first | exact this.2.1 | exact this.2.2
      have hbt : ∀ k, k < 22 → kv_t 223 (22 + k) = true := fun k hk => by have := rt_22 hk; first | exact this.2.2.2.2.1 | exact this.2.2.2.2.2
      refine rn_up hI (fun r k hr n1 n2 n3 => (e r k hr n3).trans (a3 r k hr n1 n2)) (fun r k hr n1 n2 => ?_) (n3_x_eq (g4 hne) ⟨(e 12 3 rn_n.1 (by decide)).trans a1, fun k hk => (e 14 k (rn_22 hk).1 (by decide)).trans (a2 k hk), fun i hi => ?_, fun k hk => (show K 13 k = L 192 k by rw [el 13 k (rt_22 hk).1 (by decide), x_cp_if, if_pos ⟨rfl, hk⟩]), fun k hk => ?_⟩)
      · rw [el r k hr n2, x_cp_if, if_neg (fun q => n1 q.1)]
      · show Z 211 (0 + i) = I 222 (299 + i)
        rw [k2 211 (0 + i) (by rw [Nat.zero_add]; exact (rn_3 hi).1), x_u_r (by decide)]
        unfold reA
        rw [if_pos ⟨rfl, by omega⟩, show 299 * 1 + (0 + i) = 299 + i by omega, k1 _ _ (hb3 i hi), a3 _ _ (hb3 i hi) (by decide) (by decide)]
      · show K 214 (0 + k) = L 223 (22 + k)
        rw [l2 214 (0 + k) (rt_22 hk).2.2.2.1]
        unfold reL
        rw [if_pos ⟨rfl, by omega⟩, show 22 * 1 + (0 + k) = 22 + k by omega, l1 _ _ (hbt k hk), x_cp_if, if_neg (fun q => absurd q.1 (by decide))]
    · rcases hk with hk | ⟨κ, _, hκ, h0⟩
      · omega
      · obtain rfl : κ = 1 := by omega
        exact absurd (g2.2.trans (hJ.symm.trans h0)) ht
  · rcases h2 with ⟨κ, hκ1, hκ, h0, _⟩ | ⟨_, _, rfl, rfl⟩
    · exfalso
      rcases hk with hk | ⟨hk, h9⟩ | ⟨hk, h9⟩
      · omega
      · obtain rfl : κ = 0 := by omega
        exact h0 ((k1 _ _ t3).trans (g2.1.symm.trans h9))
      · obtain rfl : κ = 1 := by omega
        exact h0 ((k1 _ _ t4).trans (g2.2.symm.trans h9))
    · refine rn_fr hI (fun r k hr => ?_) (fun r k hr => ?_)
      · rw [k2 r k hr, x_u_r (rn_209 hr), k1 r k hr]
      · rw [l2 r k hr, l1 r k hr]
