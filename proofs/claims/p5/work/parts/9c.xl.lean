/-! ===== the reference's CAPITAL that is read ===== -/
theorem x_W256_cv : x_W256 = x_W32.map t_cv := by decide +kernel
theorem x_W32_gw : ∀ s ∈ x_W32, x_gw s := by
  have : ∀ s ∈ x_W32, decide (x_vcf 8 (t_cv s) = s) = true := by decide +kernel
  exact fun s hs => (of_decide_eq_true (this s hs) : x_vcf 8 (t_cv s) = s)
theorem r_tok_isn {T : pT} {I L : xF} (h : r_tok T I L) : r_isn I L ↔ (T.1 = 2 ∧ T.2.2.2 ∉ x_W32) := by
  obtain ⟨_, _, h⟩ := h
  unfold r_isn
  rcases h with ⟨h1, h2⟩ | ⟨h1, h2⟩ | ⟨h1, h2, h3, h4⟩ | ⟨h1, h2, h3⟩ | ⟨h1, h2, h3⟩
  · exact ⟨fun q => by omega, fun q => by omega⟩
  · exact ⟨fun q => by omega, fun q => by omega⟩
  · constructor
    · rintro ⟨_, q⟩
      refine ⟨h1, fun hin => ?_⟩
      obtain ⟨w, hw⟩ := List.getElem?_of_mem hin
      refine q w ?_
      rw [x_W256_cv, List.getElem?_map, hw, h4]
      rfl
    · rintro ⟨_, q⟩
      refine ⟨h2, fun w hw => q ?_⟩
      rw [x_W256_cv, List.getElem?_map, h4] at hw
      obtain ⟨s, s1, s2⟩ := Option.map_eq_some_iff.mp hw
      have hin := List.mem_of_getElem? s1
      rw [← x_gw_inj (x_W32_gw s hin) h3 s2]
      exact hin
  · exact ⟨fun q => by omega, fun q => by omega⟩
  · exact ⟨fun q => by omega, fun q => by omega⟩
theorem r_tok_cv {T : pT} {I L : xF} (h : r_tok T I L) (hk : T.1 = 2) : x_gw T.2.2.2 ∧ L 209 17 = t_cv T.2.2.2 := by
  obtain ⟨_, _, h⟩ := h
  rcases h with ⟨h1, h2⟩ | ⟨h1, h2⟩ | ⟨h1, h2, h3, h4⟩ | ⟨h1, h2, h3⟩ | ⟨h1, h2, h3⟩
  · omega
  · omega
  · exact ⟨h3, h4⟩
  · omega
  · omega
theorem r_tok_num {T : pT} {I L : xF} (h : r_tok T I L) : (I 209 11 = 2 ↔ T.1 = 4) ∧ (I 209 11 = 2 → I 209 14 = T.2.2.2) := by
  obtain ⟨_, _, h⟩ := h
  rcases h with ⟨h1, h2⟩ | ⟨h1, h2⟩ | ⟨h1, h2, h3, h4⟩ | ⟨h1, h2, h3⟩ | ⟨h1, h2, h3⟩
  · exact ⟨by omega, fun q => by omega⟩
  · exact ⟨by omega, fun q => by omega⟩
  · exact ⟨by omega, fun q => by omega⟩
  · exact ⟨by omega, fun _ => h3⟩
  · exact ⟨by omega, fun q => by omega⟩
theorem r_tok_sign {T : pT} {I L : xF} (h : r_tok T I L) : (I 209 11 = 3 ↔ T.1 = 5) ∧ (I 209 11 = 3 → I 209 14 = T.2.2.2) := by
  obtain ⟨_, _, h⟩ := h
  rcases h with ⟨h1, h2⟩ | ⟨h1, h2⟩ | ⟨h1, h2, h3, h4⟩ | ⟨h1, h2, h3⟩ | ⟨h1, h2, h3⟩
  · exact ⟨by omega, fun q => by omega⟩
  · exact ⟨by omega, fun q => by omega⟩
  · exact ⟨by omega, fun q => by omega⟩
  · exact ⟨by omega, fun q => by omega⟩
  · exact ⟨by omega, fun _ => h3⟩
theorem r_tok_end {T : pT} {I L : xF} (h : r_tok T I L) : I 209 11 = 0 ↔ T.1 = 0 := by
  obtain ⟨_, _, h⟩ := h
  rcases h with ⟨h1, h2⟩ | ⟨h1, h2⟩ | ⟨h1, h2, h3, h4⟩ | ⟨h1, h2, h3⟩ | ⟨h1, h2, h3⟩ <;> omega
theorem r_tok_w {T : pT} {I L : xF} (h : r_tok T I L) {s w : Int} (hs : x_gw s) (hw : t_cv s = w) : (I 209 11 = 1 ∧ L 209 17 = w) ↔ (T.1 = 2 ∧ T.2.2.2 = s) := by
  subst hw
  constructor
  · rintro ⟨q1, q2⟩
    have h1 : T.1 = 2 := by
      obtain ⟨_, _, g⟩ := h
      rcases g with ⟨h1, h2⟩ | ⟨h1, h2⟩ | ⟨h1, h2, h3, h4⟩ | ⟨h1, h2, h3⟩ | ⟨h1, h2, h3⟩ <;> omega
    have h2 := r_tok_cv h h1
    rw [h2.2] at q2
    exact ⟨h1, x_gw_inj h2.1 hs q2⟩
  · rintro ⟨q1, rfl⟩
    refine ⟨?_, (r_tok_cv h q1).2⟩
    obtain ⟨_, _, g⟩ := h
    rcases g with ⟨h1, h2⟩ | ⟨h1, h2⟩ | ⟨h1, h2, h3, h4⟩ | ⟨h1, h2, h3⟩ | ⟨h1, h2, h3⟩ <;> omega
def r_nm (N : List Int) (fr : Nat) (L : xF) : Prop := ∀ i : Nat, i < N.length → ∃ s, N[i]? = some s ∧ L 214 (fr + i) = t_cv s ∧ x_gw s
theorem r_nm_in {N : List Int} {fr : Nat} {I L : xF} (h : r_nm N fr L) {x : Int} (hg : x_gw x) (hx : L 209 17 = t_cv x) : r_in I L fr (N.length : Int) ↔ x ∈ N := by
  constructor
  · rintro ⟨k, k1, k2⟩
    obtain ⟨s, s1, s2, s3⟩ := h k (by omega)
    rw [s2, hx] at k2
    rw [← x_gw_inj s3 hg k2]
    exact List.mem_of_getElem? s1
  · intro hm
    obtain ⟨i, hi⟩ := List.getElem?_of_mem hm
    have hl := (List.getElem?_eq_some_iff.mp hi).1
    obtain ⟨s, s1, s2, _⟩ := h i hl
    rw [hi] at s1
    cases s1
    exact ⟨i, by omega, s2.trans hx.symm⟩
theorem r_nm_u {N : List Int} {fr to : Nat} {L : xF} {w : Int} (h : r_nm N fr L) (ht : to < fr ∨ fr + N.length ≤ to) : r_nm N fr (x_u L 214 to w) := fun i hi => by
  obtain ⟨s, s1, s2, s3⟩ := h i hi
  exact ⟨s, s1, by rw [x_u_k (by omega)]; exact s2, s3⟩
theorem r_nm_add {N : List Int} {fr : Nat} {L : xF} {s : Int} (h : r_nm N fr L) (h1 : L 214 (fr + N.length) = t_cv s) (h2 : x_gw s) : r_nm (N ++ [s]) fr L := fun i hi => by
  rw [List.length_append] at hi
  rcases Nat.lt_or_ge i N.length with g | g
  · obtain ⟨x, x1, x2, x3⟩ := h i g
    exact ⟨x, by rw [List.getElem?_append_left g]; exact x1, x2, x3⟩
  · have : i = N.length := by simp at hi; omega
    subst this
    exact ⟨s, by rw [List.getElem?_append_right (Nat.le_refl _)]; simp, h1, h2⟩
def r_st (σ : pS) (I L : xF) : Prop :=
  (I 212 0 = σ.1.length ∧ I 212 1 = σ.2.1.length ∧ I 212 2 = σ.2.2.1.length ∧ I 212 7 = σ.2.2.2.1.length) ∧ (σ.1.length ≤ 8 ∧ σ.2.1.length ≤ 6 ∧ σ.2.2.1.length ≤ 8 ∧ σ.2.2.2.1.length ≤ 8) ∧ (r_nm σ.1 22 L ∧ r_nm σ.2.1 30 L ∧ r_nm σ.2.2.1 36 L) ∧
  (∀ i : Nat, i < σ.2.2.2.1.length → σ.2.2.2.1[i]? = some (I 212 (46 + i))) ∧ (0 ≤ I 209 20 ∧ I 209 20 < 256 ∧ ∀ j : Nat, j < 4 → (I 209 20).toNat.testBit j = σ.2.2.2.2.1 j) ∧ (∀ j : Nat, j < 4 → I 212 (3 + j) = σ.2.2.2.2.2 j) ∧ p_own σ.2.1 σ.2.2.1.length σ.2.2.2.2.2 (fun c => I 212 (22 + c))
def r_all (b : Nat → Int) (n q : Int) (σ : pS) (T : pT) (I L : xF) : Prop :=
  (r_b I = b ∧ I 209 3 = n ∧ I 209 5 = 900 ∧ (0 ≤ n ∧ n ≤ 940) ∧ I 209 19 = q ∧ I 209 15 = 0) ∧ r_tok T I L ∧ (2 ≤ T.1 → 0 ≤ T.2.2.1 ∧ T.2.2.1 ≤ n) ∧ r_st σ I L
def r_out (b : Nat → Int) (n q : Int) (r : pR) (rv : Option xV) (I' L' : xF) : Prop := match r with
  | .inl (at0, f) => rv = some (.inl 0) ∧ I' 209 15 = f ∧ I' 209 16 = at0
  | .inr (σ', T') => rv = some (.inl 1) ∧ r_all b n q σ' T' I' L'
theorem r_all_bh {b : Nat → Int} {n q : Int} {σ : pS} {T : pT} {I L : xF} (h : r_all b n q σ T I L) (hk : 2 ≤ T.1) : r_bh I := by
  obtain ⟨⟨e1, e2, e3, e4, e6⟩, h2, h3, h4⟩ := h
  have h5 := h2.2.1 hk
  have := h3 hk
  unfold r_bh
  omega
theorem r_st_fr {σ : pS} {I L I' L' : xF} (h : r_st σ I L) (h1 : x_fi x_sN I I') (h2 : x_fi x_sW L L') : r_st σ I' L' := by
  obtain ⟨g1, g2, g3, g4, g5, g6⟩ := h
  have e : ∀ k, I' 212 k = I 212 k := fun k => h1 212 k rfl
  have el : ∀ k, L' 214 k = L 214 k := fun k => h2 214 k rfl
  have hn : ∀ N fr, r_nm N fr L → r_nm N fr L' := fun N fr hq i hi => by
    obtain ⟨s, s1, s2, s3⟩ := hq i hi
    exact ⟨s, s1, by rw [el]; exact s2, s3⟩
  refine ⟨?_, g2, ⟨hn _ _ g3.1, hn _ _ g3.2.1, hn _ _ g3.2.2⟩, fun i hi => ?_, ?_, fun j hj => ?_, p_own_eq g6.2 (fun c _ => e (22 + c))⟩
  · rw [e, e, e, e]
    exact g1
  · rw [e]
    exact g4 i hi
  · rw [h1 209 20 rfl]
    exact g5
  · rw [e]
    exact g6.1 j hj
theorem r_all_next {b : Nat → Int} {n q : Int} {σ : pS} {T : pT} {I L I' L' : xF} (hk : 2 ≤ T.1) (h : r_all b n q σ T I L) (ha : xo_next [xR 210] I L none I' L') : r_all b n q σ (t_tok b n 900 T.2.2.1) I' L' := by
  obtain ⟨⟨e1, e2, e3, e4, e6⟩, h2, h3, h4⟩ := h
  obtain ⟨_, f1, f2, f3⟩ := ha
  have h5 := h2.2.1 hk
  have hp := h3 hk
  rw [e1, e2, e3, h5] at f3
  refine ⟨⟨(r_b_fi f1).trans e1, (f1 209 3 rfl).trans e2, (f1 209 5 rfl).trans e3, e4, (f1 209 19 rfl).trans e6.1, (f1 209 15 rfl).trans e6.2⟩, f3, fun hq => ?_, r_st_fr h4 f1 f2⟩
  have := t_tok_pos (b := b) (most := 900) hp.1 hp.2 hq
  omega
/-- a cell of h that no count, no cold's begin, no number told once is -/
theorem r_st_h {σ : pS} {I L : xF} {idx : Nat} {z : Int} (h : r_st σ I L) (h1 : 8 ≤ idx) (h2 : idx < 46 ∨ 46 + σ.2.2.2.1.length ≤ idx) (h3 : idx < 22 ∨ 22 + σ.2.2.1.length ≤ idx) : r_st σ (x_u I 212 idx z) L := by
  obtain ⟨g1, g2, g3, g4, g5, g6⟩ := h
  refine ⟨?_, g2, g3, fun i hi => ?_, g5, fun j hj => ?_, p_own_eq g6.2 (fun c hc => x_u_k (show 22 + c ≠ idx by omega))⟩
  · rw [x_u_k (by omega), x_u_k (by omega), x_u_k (by omega), x_u_k (by omega)]
    exact g1
  · rw [x_u_k (by omega)]
    exact g4 i hi
  · rw [x_u_k (by omega)]
    exact g6.1 j hj
theorem r_all_h {b : Nat → Int} {n q : Int} {σ : pS} {T : pT} {I L : xF} {idx : Nat} {z : Int} (h : r_all b n q σ T I L) (h1 : 8 ≤ idx) (h2 : idx < 46 ∨ 46 + σ.2.2.2.1.length ≤ idx) (h3 : idx < 22 ∨ 22 + σ.2.2.1.length ≤ idx) : r_all b n q σ T (x_u I 212 idx z) L := ⟨h.1, h.2.1, h.2.2.1, r_st_h h.2.2.2 h1 h2 h3⟩
theorem r_in_any {σ : pS} {I L : xF} (h : r_st σ I L) {x : Int} (hg : x_gw x) (hx : L 209 17 = t_cv x) : (r_in I L 22 (I 212 0) ∨ r_in I L 30 (I 212 1) ∨ r_in I L 36 (I 212 2)) ↔ (x ∈ σ.1 ∨ x ∈ σ.2.1 ∨ x ∈ σ.2.2.1) := by
  obtain ⟨g1, g2, g3, g4, g5, g6⟩ := h
  rw [g1.1, g1.2.1, g1.2.2.1, r_nm_in g3.1 hg hx, r_nm_in g3.2.1 hg hx, r_nm_in g3.2.2 hg hx]
def r_pre : xPre := fun za I L => za = [xR 210] ∧ ∃ b n q σ T, r_all b n q σ T I L ∧ 2 ≤ T.1
def r_post (f : (Nat → Int) → Int → pS → pT → pR) : xPost := fun _ I L rv I' L' => ∀ b n q σ T, r_all b n q σ T I L → 2 ≤ T.1 → r_out b n q (f b n σ T) rv I' L'
theorem r_out_rv {b : Nat → Int} {n q : Int} {r : pR} {rv : Option xV} {I' L' : xF} (h : r_out b n q r rv I' L') : rv = some (.inl 0) ∨ rv = some (.inl 1) := by
  match r, h with
  | .inl (_, _), h => exact Or.inl h.1
  | .inr (_, _), h => exact Or.inr h.1
/-- cells of h by their places -/
theorem x_sgH8 : ∀ k : Fin 8, y_seg x_sgH (8 + k.val) = some (0, 99) ∧ y_seg x_sgH (22 + k.val) = some (0, 5) ∧ y_seg x_sgH (30 + k.val) = some (0, 20) ∧ y_seg x_sgH (38 + k.val) = some (0, 99) ∧ y_seg x_sgH (46 + k.val) = some (-2147483648, 2147483647) ∧ y_seg x_sgH (54 + k.val) = some (0, 40) := by decide
theorem x_sgH6 : ∀ k : Fin 6, y_seg x_sgH (16 + k.val) = some (0, 20) := by decide
theorem x_bit1 {m : Int} {k : Nat} (h0 : 0 ≤ m) : x_and2 (m / ((2 ^ k : Nat) : Int)) 1 = 1 ↔ m.toNat.testBit k = true := by
  have e : (m / ((2 ^ k : Nat) : Int)).toNat = m.toNat / 2 ^ k := by
    obtain ⟨n, rfl⟩ : ∃ n : Nat, m = n := ⟨m.toNat, by omega⟩
    rw [← Int.natCast_ediv, Int.toNat_natCast, Int.toNat_natCast]
  unfold x_and2
  rw [e, show (1 : Int).toNat = 1 from rfl, Nat.and_one_is_mod, Nat.testBit_eq_decide_div_mod_eq, decide_eq_true_eq]
  omega
section XN2
variable {EX : (Nat → Prop) → State → Heap → Prop} {l : Launch} {kc : Nat → ClassId} {D : va_G} {xb : Nat} {ad : Nat → Option Nat}
def xr_bo : xPre := fun za _ _ => ∃ (m : Int) (k : Nat), za = [.inl m, .inl (k : Int)] ∧ 0 ≤ m ∧ k < 4
def xo_bo : xPost := fun za I L rv I' L' => I' = I ∧ L' = L ∧ ∃ (m : Int) (k : Nat), za = [.inl m, .inl (k : Int)] ∧ ((m.toNat.testBit k = true ∧ rv = some (.inl 1)) ∨ (m.toNat.testBit k = false ∧ rv = some (.inl 0)))
theorem xk_bo (hE : z_EX EX) : x_Ok EX l zTB zNT kc D vwCl xb yTY ad yP0 167 0 xr_bo xo_bo := by
  refine x_meth (M := ym_X12_bitOf) hE y_prog 30 rfl (by decide) x_none_ok (fun za I L ⟨m, k, h, _⟩ => by subst h; exact (by decide : 2 ≤ 2)) (fun za I L ⟨m, k, h, h0, hk⟩ => ?_)
  subst h
  refine And.intro (by omega) ?_
  rw [Int.toNat_natCast]
  refine Or.inr ⟨Int.ediv_nonneg h0 (Int.natCast_nonneg _), by decide, ?_⟩
  refine And.intro ?_ ?_
  · intro t
    rw [Ne, x_bit1 h0] at t
    exact ⟨by decide, rfl, rfl, m, k, rfl, Or.inr ⟨by simpa using t, rfl⟩⟩
  · intro t
    rw [x_bit1 h0] at t
    exact ⟨by decide, rfl, rfl, m, k, rfl, Or.inl ⟨t, rfl⟩⟩
def xr_on : xPre := fun za I L => ∃ (j : Nat) (lo hi : Int), za = [xR 210, .inl (j : Int), .inl ((3 + j : Nat) : Int), .inl lo, .inl hi] ∧ j < 4 ∧ -1 ≤ lo ∧ hi ≤ 999 ∧ (∀ q, y_seg x_sgH (3 + j) = some q → q.1 ≤ lo ∧ hi ≤ q.2) ∧ ∃ b n q σ T, r_all b n q σ T I L ∧ 2 ≤ T.1
def xo_on : xPost := fun za I L rv I' L' => ∀ (j : Nat) (lo hi : Int), za = [xR 210, .inl (j : Int), .inl ((3 + j : Nat) : Int), .inl lo, .inl hi] → ∀ b n q σ T, r_all b n q σ T I L → 2 ≤ T.1 → r_out b n q (p_once j lo hi b n σ T) rv I' L'
def ct_on : List (Nat × Nat × xPre × xPost) := [(167, 0, xr_bo, xo_bo), (176, 0, xr_bad, xo_bad), (175, 1, xr_next, xo_next), (182, 3, xr_pt, xo_pt)]
theorem ct_on_ok (hE : z_EX EX) : x_ctok EX l zTB zNT kc D vwCl xb yTY ad yP0 (x_ctl ct_on) := x_ctl_cons (xk_bo hE) (x_ctl_cons (xk_bad hE) (x_ctl_cons (xk_next hE) (x_ctl_cons (xk_pt hE) x_ctl_nil)))
theorem r_all_bit {b : Nat → Int} {n q : Int} {σ : pS} {T : pT} {I L : xF} {j : Nat} (h : r_all b n q σ T I L) (hj : j < 4) : r_all b n q (p_ot σ j) T (x_u I 209 20 (x_or2 (I 209 20) ((2 ^ j : Nat) : Int))) L := by
  obtain ⟨a1, a2, a3, a4, a5, a6, a7, a8, a9⟩ := h
  have hlt := x_or2_lt a8.1 a8.2.1 (show j < 8 by omega)
  refine ⟨a1, a2, a3, a4, a5, a6, a7, ⟨hlt.1, hlt.2, fun i hi => ?_⟩, a9⟩
  show (x_or2 (I 209 20) ((2 ^ j : Nat) : Int)).toNat.testBit i = if i = j then true else σ.2.2.2.2.1 i
  rw [x_or2_bit, a8.2.2 i hi]
  by_cases hij : i = j
  · subst hij
    simp
  · rw [if_neg hij]
    have : ¬ (j = i) := fun q => hij q.symm
    rw [decide_eq_false this, Bool.or_false]
set_option maxHeartbeats 4000000 in
theorem xk_on (hE : z_EX EX) : x_Ok EX l zTB zNT kc D vwCl xb yTY ad yP0 187 4 xr_on xo_on := by
  refine x_meth (M := ym_X12_once) hE y_prog 60 rfl (by decide) (ct_on_ok hE) (fun za I L ⟨j, lo, hi, h, _⟩ => by subst h; exact (by decide : 5 ≤ 5)) (fun za I L ⟨j, lo, hi, h, hj, hlo, hhi, hsg, b0, n0, q0, σ0, T0, h0, hT0⟩ => ?_)
  subst h
  have hj9 : ∀ (j' : Nat) (lo' hi' : Int), [xR 210, Sum.inl (j : Int), .inl ((3 + j : Nat) : Int), .inl lo, .inl hi] = [xR 210, Sum.inl (j' : Int), .inl ((3 + j' : Nat) : Int), .inl lo', .inl hi'] → j' = j ∧ lo' = lo ∧ hi' = hi := fun j' lo' hi' e => by
    simp only [List.cons.injEq, Sum.inl.injEq] at e
    refine ⟨by omega, ?_, ?_⟩
    · exact e.2.2.2.1.symm
    · exact e.2.2.2.2.1.symm
  have hm8 := h0.2.2.2.2.2.2.2.1
  have hp2 : (0 : Int) ≤ ((2 ^ j : Nat) : Int) := Int.natCast_nonneg _
  intro m (hm : m = I 209 20) _
  refine And.intro ⟨m, j, rfl, by omega, hj⟩ ?_
  rintro rv I2 L2 ⟨g1, g2, m', k', hx, ⟨t1, rfl⟩ | ⟨t1, rfl⟩⟩
  · subst g1
    subst g2
    have hx : ([.inl m, .inl (j : Int)] : List xV) = [.inl m', .inl (k' : Int)] := hx
    simp only [List.cons.injEq, Sum.inl.injEq] at hx
    obtain ⟨rfl, hk', _⟩ := hx
    obtain rfl : k' = j := by omega
    refine And.intro (fun q => absurd q (by decide)) (fun _ => ?_)
    refine And.intro ⟨3, rfl, by decide, by decide⟩ ?_
    rintro rv I3 L3 ⟨f, hf, rfl, rfl, rfl⟩
    cases hf
    refine And.intro (by decide) ?_
    intro j' lo' hi' e b n q σ T h hT
    obtain ⟨rfl, rfl, rfl⟩ := hj9 _ _ _ e
    have h2 := h.2.2.2.2.2.2.2.1.2.2 j' hj
    unfold p_once
    rw [if_pos (by rw [← h2, ← hm]; exact t1)]
    exact ⟨rfl, rfl, h.2.1.1⟩
  · subst g1
    subst g2
    have hx : ([.inl m, .inl (j : Int)] : List xV) = [.inl m', .inl (k' : Int)] := hx
    simp only [List.cons.injEq, Sum.inl.injEq] at hx
    obtain ⟨rfl, hk', _⟩ := hx
    obtain rfl : k' = j := by omega
    refine And.intro (fun _ => ?_) (fun q => absurd rfl q)
    intro m2 (hm2 : m2 = I2 209 20) _
    refine And.intro ⟨rfl, by omega, by omega⟩ ?_
    rw [Int.toNat_natCast]
    refine And.intro ⟨by omega, hp2⟩ ?_
    subst hm2
    have hor := x_or2_lt hm8.1 hm8.2.1 (show k' < 8 by omega)
    refine And.intro (show 0 ≤ x_or2 (I2 209 20) ((2 ^ k' : Nat) : Int) ∧ x_or2 (I2 209 20) ((2 ^ k' : Nat) : Int) ≤ 255 by omega) ?_
    refine And.intro ⟨rfl, r_all_bh (r_all_bit h0 hj) hT0⟩ ?_
    intro rv I1 L1 hadv
    have h9 := hadv.1
    subst h9
    have H1 : ∀ b n q σ T, r_all b n q σ T I2 L2 → 2 ≤ T.1 → r_all b n q (p_ot σ k') (t_tok b n 900 T.2.2.1) I1 L1 := fun b n q σ T h hT => r_all_next hT (r_all_bit h hj) hadv
    have G1 := H1 _ _ _ _ _ h0 hT0
    have hok : ∀ b n q σ T, r_all b n q σ T I2 L2 → p_once k' lo hi b n σ T = p_num b n lo hi (t_tok b n 900 T.2.2.1) (fun x T2 => .inr ((σ.1, σ.2.1, σ.2.2.1, σ.2.2.2.1, (fun i => if i = k' then true else σ.2.2.2.2.1 i), (fun i => if i = k' then x else σ.2.2.2.2.2 i)), T2)) := fun b n q σ T h => by
      unfold p_once
      rw [if_neg]
      have := h.2.2.2.2.2.2.2.1.2.2 k' hj
      rw [← this, ← hm, t1]
      decide
    refine And.intro ⟨((3 + k' : Nat) : Int), lo, hi, rfl, hlo, hhi, fun hk => r_all_bh G1 (by have := (r_tok_num G1.2.1).1.mp hk; omega), by omega, by rw [Int.toNat_natCast]; exact hsg⟩ ?_
    rintro rv I3 L3 ⟨to', lo', hi', hlh, ⟨m1, rfl, g1, g2⟩ | ⟨m1, m2, rfl, g1, g2⟩ | ⟨m1, m2, m3, rfl, I4, hadv3, rfl⟩⟩
    · cases hlh
      subst g1
      subst g2
      refine And.intro (by decide) ?_
      intro j' lo' hi' e b n q σ T h hT
      obtain ⟨rfl, rfl, rfl⟩ := hj9 _ _ _ e
      have h1 := H1 _ _ _ _ _ h hT
      rw [hok b n q σ T h, p_num_1 (fun q => m1 ((r_tok_num h1.2.1).1.mpr q))]
      exact ⟨rfl, rfl, h1.2.1.1⟩
    · cases hlh
      subst g1
      subst g2
      refine And.intro (by decide) ?_
      intro j' lo' hi' e b n q σ T h hT
      obtain ⟨rfl, rfl, rfl⟩ := hj9 _ _ _ e
      have h1 := H1 _ _ _ _ _ h hT
      rw [hok b n q σ T h, p_num_2 ((r_tok_num h1.2.1).1.mp m1) (by rw [← (r_tok_num h1.2.1).2 m1]; exact m2)]
      exact ⟨rfl, rfl, h1.2.1.1⟩
    · cases hlh
      refine And.intro (by decide) ?_
      intro j' lo' hi' e b n q σ T h hT
      obtain ⟨rfl, rfl, rfl⟩ := hj9 _ _ _ e
      have h1 := H1 _ _ _ _ _ h hT
      have e7 := (r_tok_num h1.2.1).2 m1
      have h3 := r_all_next (I := x_u I1 209 18 (I1 209 14)) (by have := (r_tok_num h1.2.1).1.mp m1; omega) h1 hadv3
      rw [hok b n q σ T h, p_num_k ((r_tok_num h1.2.1).1.mp m1) (by omega), Int.toNat_natCast]
      obtain ⟨a1, a2, a3, a4, a5, a6, a7, a8, a9⟩ := h3
      refine ⟨rfl, a1, a2, a3, ?_, a5, a6, fun i hi => ?_, a8, fun i hi => ?_, p_own_f (p_own_eq a9.2 (fun c _ => x_u_k (show 22 + c ≠ 3 + j' by omega))) (fun c _ => if_neg (show ¬ 100 + c = j' by omega))⟩
      · show x_u I4 212 (3 + j') (I1 209 14) 212 0 = _ ∧ x_u I4 212 (3 + j') (I1 209 14) 212 1 = _ ∧ x_u I4 212 (3 + j') (I1 209 14) 212 2 = _ ∧ x_u I4 212 (3 + j') (I1 209 14) 212 7 = _
        rw [x_u_k (by omega), x_u_k (by omega), x_u_k (by omega), x_u_k (by omega)]
        exact a4
      · show σ.2.2.2.1[i]? = some (x_u I4 212 (3 + j') (I1 209 14) 212 (46 + i))
        rw [x_u_k (by omega)]
        exact a7 i hi
      · show x_u I4 212 (3 + j') (I1 209 14) 212 (3 + i) = if i = j' then (t_tok b n 900 T.2.2.1).2.2.2 else σ.2.2.2.2.2 i
        rw [x_u_if]
        by_cases hij : i = j'
        · rw [if_pos ⟨rfl, by omega⟩, if_pos hij]
          exact e7
        · rw [if_neg (by omega), if_neg hij]
          exact a9.1 i hi
end XN2
