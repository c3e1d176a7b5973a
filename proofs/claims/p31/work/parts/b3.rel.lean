/-! ===== cells of both objects that hold the same ===== -/
abbrev rlT : Type := List ((Nat × Nat) × (Nat × Nat) × (Int × Int))
def rl_R (RL : rlT) (ws : va_W) : Prop := ∀ q ∈ RL, ∃ x : Int32, y_at ws q.1.1 q.1.2 = some x ∧ y_at ws q.2.1.1 q.2.1.2 = some x
def rl_B : yB → rlT → yB
  | B, [] => B
  | B, q :: r => rl_B (B.1 + 1, (q.2.2.1, q.2.2.2, none) :: B.2) r
def rl_k : Nat → rlT → yN
  | _, [] => []
  | n, q :: r => ((q.1.1, .inl (Int.ofNat q.1.2)), .inr (n, 0)) :: ((q.2.1.1, .inl (Int.ofNat q.2.1.2)), .inr (n, 0)) :: rl_k (n + 1) r
def rl_t (RL : rlT) : Bool := RL.all (fun q => match y_ty yTY q.1.1 q.1.2 with
  | some b => decide (q.2.2.1 ≤ b.1) && decide (b.2 ≤ q.2.2.2)
  | none => false)
theorem rl_mk {kc : Nat → ClassId} {ad : Nat → Option Nat} {ws : va_W} (hw : y_w kc ad yTY ws) : ∀ {RL : rlT} {B : yB} {env : List Int}, rl_t RL = true → rl_R RL ws → y_B B env → ∃ env', env <+: env' ∧ y_B (rl_B B RL) env' ∧ y_k env' ws (rl_k B.1 RL)
  | [], B, env, _, _, hB => ⟨env, List.prefix_refl _, hB, fun _ h => by cases h⟩
  | q :: r, B, env, ht, hR, hB => by
    unfold rl_t at ht
    rw [List.all_cons, Bool.and_eq_true] at ht
    obtain ⟨x, x1, x2⟩ := hR q List.mem_cons_self
    have hb : q.2.2.1 ≤ x.toInt ∧ x.toInt ≤ q.2.2.2 := by
      have h1 := ht.1
      split at h1
      next b hb =>
        rw [Bool.and_eq_true] at h1
        obtain ⟨y, y1, y2, y3⟩ := y_ty_ok hw hb
        rw [x1] at y1
        cases y1
        have := of_decide_eq_true h1.1
        have := of_decide_eq_true h1.2
        omega
      next => cases h1
    have hB' := y_B_push hB (q := (q.2.2.1, q.2.2.2, none)) (v := x.toInt) ⟨hb.1, hb.2, fun _ _ e => by cases e⟩
    obtain ⟨env', e1, e2, e3⟩ := rl_mk hw (RL := r) ht.2 (fun p hp => hR p (List.mem_cons_of_mem _ hp)) hB'
    have he : y_e env' (.inr (B.1, 0)) = some x.toInt := by
      refine y_e_mono e1 ?_
      unfold y_e
      dsimp only
      rw [← hB.2.1]
      simp
    refine ⟨env', List.IsPrefix.trans (List.prefix_append _ _) e1, e2, fun p hp => ?_⟩
    rcases List.mem_cons.mp hp with rfl | hp
    · exact ⟨q.1.2, x, rfl, x1, he⟩
    rcases List.mem_cons.mp hp with rfl | hp
    · exact ⟨q.2.1.2, x, rfl, x2, he⟩
    exact e3 p hp
def rl_end (RL : rlT) (q : yB × Nat × yS) : Bool := hl_end q && RL.all (fun p => hq_ad (hq_k q p.1.1 p.1.2) (hq_k q p.2.1.1 p.2.1.2) 0)
theorem rl_end_R {RL : rlT} {q : yB × Nat × yS} (h : RL.all (fun p => hq_ad (hq_k q p.1.1 p.1.2) (hq_k q p.2.1.1 p.2.1.2) 0) = true) {env : List Int} {ws : va_W} (hk : y_k env ws q.2.2.2.2.1) : rl_R RL ws := fun p hp => hq_eq_cell (List.all_eq_true.mp h p hp) hk
def hw_K : yCon := (249, [.inr (some 210)], [], [(some (.inl ((.negSucc 0), (.negSucc 0))), [((209, 2), ((.ofNat 0), (.ofNat 0)), none)], false), (some (.inl ((.negSucc 2147483647), (.ofNat 2147483647))), [((209, 31), ((.ofNat 1), (.ofNat 1)), none), ((209, 2), ((.ofNat 0), (.ofNat 0)), none)], false), (some (.inl ((.ofNat 0), (.ofNat 0))), [((209, 2), ((.ofNat 0), (.ofNat 0)), none)], false)], [(209, 0, 0), (209, 2, 5), (209, 29, 31), (218, 0, 5)], 2, false, [])
def hw_H : List yCut := [(128, [(0, .inr (some 210)), (1, .inl ((.negSucc 2147483647), (.ofNat 2147483647))), (2, .inl ((.ofNat 0), (.ofNat 255))), (3, .inl ((.ofNat 0), (.ofNat 255))), (4, .inl ((.ofNat 0), (.ofNat 6)))], [((209, 2), ((.ofNat 0), (.ofNat 0)), none)], [.inl (.ofNat 3), .inr (.inl 4), .inl (.ofNat 0), .inl (.ofNat 0)], false),
  (145, [(0, .inr (some 210)), (1, .inl ((.negSucc 2147483647), (.ofNat 2147483647))), (2, .inl ((.ofNat 0), (.ofNat 255))), (3, .inl ((.ofNat 0), (.ofNat 255))), (4, .inl ((.ofNat 0), (.ofNat 5))), (5, .inl ((.ofNat 0), (.ofNat 255))), (6, .inl ((.ofNat 0), (.ofNat 8)))], [((209, 2), ((.ofNat 0), (.ofNat 0)), none)], [.inl (.ofNat 3), .inr (.inl 4), .inl (.ofNat 1), .inr (.inl 6)], false),
  (193, [(0, .inr (some 210)), (1, .inl ((.negSucc 2147483647), (.ofNat 2147483647))), (2, .inl ((.ofNat 0), (.ofNat 255))), (3, .inl ((.ofNat 0), (.ofNat 255))), (4, .inl ((.ofNat 0), (.ofNat 5))), (5, .inl ((.ofNat 0), (.ofNat 255))), (6, .inl ((.ofNat 0), (.ofNat 2147483647)))], [((209, 2), ((.ofNat 0), (.ofNat 0)), none)], [.inl (.ofNat 3), .inr (.inl 4), .inl (.ofNat 2), .inr (.inl 6)], false),
  (36, [(0, .inr (some 210)), (1, .inl ((.ofNat 0), (.ofNat 6)))], [((209, 2), ((.ofNat 0), (.ofNat 0)), none)], [.inl (.ofNat 1), .inr (.inl 1), .inl (.ofNat 0), .inl (.ofNat 0)], false),
  (57, [(0, .inr (some 210)), (1, .inl ((.ofNat 0), (.ofNat 940)))], [((209, 2), ((.ofNat 0), (.ofNat 0)), none)], [.inl (.ofNat 2), .inr (.inl 1), .inl (.ofNat 0), .inl (.ofNat 0)], false)]
theorem hw_e : y_ckE yP0 yTY zTF yRC yGR yCTab hw_K hw_H 1148 = true := by decide +kernel
theorem hw_h : ∀ h ∈ hw_H, y_ckH yP0 yTY zTF yRC yGR yCTab hw_K hw_H 1148 h = true := List.forall_mem_cons.mpr ⟨by decide +kernel, List.forall_mem_cons.mpr ⟨by decide +kernel, List.forall_mem_cons.mpr ⟨by decide +kernel, List.forall_mem_cons.mpr ⟨by decide +kernel, List.forall_mem_cons.mpr ⟨by decide +kernel, fun _ h => absurd h List.not_mem_nil⟩⟩⟩⟩⟩
section HWK
variable {EX : (Nat → Prop) → State → Heap → Prop} {l : Launch} {kc : Nat → ClassId} {D : va_G} {xb : Nat} {ad : Nat → Option Nat}
theorem hw_ok (hE : z_EX EX) : y_ConOk EX l zTB zNT kc D vwCl xb yTY yGR w_R ad yP0 hw_K := y_chk_ok (RC := yRC) hE w_R_RI y_prog (fun j K' hK' => ⟨yCT_j hK', fun _ => y_cons hE hK'⟩) hw_e hw_h
end HWK
/-- how long the tape is -/
def rl_L : rlT := [((1, 2), (209, 2), (0, 940))]
theorem rl_L_t : rl_t rl_L = true := by decide +kernel
def rl_clr (CT : List (List (List yCon))) (j : Nat) : List (List (List yCon)) := CT.set (j / 16) ((CT.getD (j / 16) []).set (j % 16) [])
def rl_CT0 : List (List (List yCon)) := y_cput (y_cput (y_cput (y_cputl (y_cput (y_cput (y_cputl yCTab 273 [hc_imK 0, hc_imK 1, hl_imo (-2147483648) (-1), hl_imo 2 2147483647]) 274 hl_re) 272 hd_K) 261 [hu_K, hu_o (-2147483648) (-1), hu_o 2 2147483647]) 190 ht_K2) 269 ht_Ks) 249 hw_K
def rl_CT : List (List (List yCon)) := rl_clr (rl_clr (rl_clr (rl_clr (rl_clr (rl_clr (rl_clr (rl_clr (rl_clr (rl_clr (rl_CT0) 114) 115) 116) 148) 150) 152) 98) 162) 164) 141
theorem rl_clr_in {CT : List (List (List yCon))} {i j : Nat} {K : yCon} (h : K ∈ y_cget (rl_clr CT i) j) : K ∈ y_cget CT j := y_cclr_in h
section RL1
variable {EX : (Nat → Prop) → State → Heap → Prop} {l : Launch} {kc : Nat → ClassId} {D : va_G} {xb : Nat} {ad : Nat → Option Nat}
theorem rl_all (hE : z_EX EX) (j : Nat) (K : yCon) (h : K ∈ y_cget rl_CT j) : K.1 = j ∧ (K.2.2.2.2.2.1 < 40 → y_ConOk EX l zTB zNT kc D vwCl xb yTY yGR w_R ad yP0 K) := by
  have h0 : K ∈ y_cget rl_CT0 j := rl_clr_in (rl_clr_in (rl_clr_in (rl_clr_in (rl_clr_in (rl_clr_in (rl_clr_in (rl_clr_in (rl_clr_in (rl_clr_in (h))))))))))
  rcases y_cput_in h0 with ⟨hj, rfl⟩ | h0
  · exact ⟨hj.symm, fun _ => hw_ok hE⟩
  rcases y_cput_in h0 with ⟨hj, rfl⟩ | h1
  · exact ⟨hj.symm, fun _ => w_R_conv (ht_sok hE)⟩
  rcases y_cput_in h1 with ⟨hj, rfl⟩ | h2
  · exact ⟨hj.symm, fun _ => ht_ok hE⟩
  rcases y_cputl_in (CT := y_cput (y_cput (y_cputl yCTab 273 [hc_imK 0, hc_imK 1, hl_imo (-2147483648) (-1), hl_imo 2 2147483647]) 274 hl_re) 272 hd_K) (j := 261) (Ks := [hu_K, hu_o (-2147483648) (-1), hu_o 2 2147483647]) h2 with ⟨hj, h3⟩ | h3
  · rcases List.mem_cons.mp h3 with rfl | h3
    · exact ⟨hj.symm, fun _ => hu_ok hE⟩
    rcases List.mem_cons.mp h3 with rfl | h3
    · exact ⟨hj.symm, fun _ => hl_o hE hu_c1⟩
    have := List.mem_singleton.mp h3
    subst this
    exact ⟨hj.symm, fun _ => hl_o hE hu_c2⟩
  rcases y_cput_in h3 with ⟨hj, rfl⟩ | h4
  · exact ⟨hj.symm, fun _ => hd_ok hE⟩
  rcases y_cput_in h4 with ⟨hj, rfl⟩ | h5
  · exact ⟨hj.symm, fun _ => hl_re_ok hE⟩
  rcases y_cputl_in (CT := yCTab) (j := 273) (Ks := [hc_imK 0, hc_imK 1, hl_imo (-2147483648) (-1), hl_imo 2 2147483647]) h5 with ⟨hj, h6⟩ | h6
  · rcases List.mem_cons.mp h6 with rfl | h6
    · exact ⟨hj.symm, fun _ => w_R_conv (hc_ims hE (Or.inl rfl))⟩
    rcases List.mem_cons.mp h6 with rfl | h6
    · exact ⟨hj.symm, fun _ => w_R_conv (hc_ims hE (Or.inr rfl))⟩
    rcases List.mem_cons.mp h6 with rfl | h6
    · exact ⟨hj.symm, fun _ => hl_o hE hl_c1⟩
    have := List.mem_singleton.mp h6
    subst this
    exact ⟨hj.symm, fun _ => hl_o hE hl_c2⟩
  · exact ⟨yCT_j h6, fun _ => y_cons hE h6⟩
end RL1
/-- all but the tapes' bytes, the CAPITAL's numbers, the images -/
def rl_E : yR := (211, 62, 9999) :: (209, 0, 28) :: (209, 32, 9999) :: (141, 0, 7) :: (141, 10, 9999) :: hl_E.filter (fun q => !([2, 210, 4, 155, 156, 182, 183, 211, 222, 224, 7, 159, 186, 141, 209].contains q.1))
theorem rl_E_sub : y_sub rl_E hl_E = true := by decide +kernel
theorem rb_fr {u v : va_W} (hf : y_fr rl_E u v) (h : rb_R u) : rb_R v := rb_same (fun j => hf 2 j (xy_noreg (by decide +kernel) j)) (fun j => hf 210 j (xy_noreg (by decide +kernel) j)) h
/-! ===== the CAPITAL on both sides: numbers, whose each COAT is; what is kept; the latest HOOKS ===== -/
def rc_f (j : Nat) : Nat := if j < 3 then j else j + 1
theorem rc_f8 {j : Nat} (h : j < 7) : rc_f j < 8 := by
  unfold rc_f
  split <;> omega
def rc_t (k : Nat) : Prop := k < 7 ∨ (22 ≤ k ∧ k < 30)
def rc_H (A4 A7 B : Nat → Int) : Prop := (∀ j, j < 7 → A4 (rc_f j) = B j) ∧ ∀ c : Nat, c < 8 → (c : Int) < A4 2 → A7 c = B (22 + c) ∧ 0 ≤ A7 c ∧ A7 c < A4 1
theorem rc_H_eq {A4 A7 B A4' A7' B' : Nat → Int} (h : rc_H A4 A7 B) (h4 : ∀ k, k < 8 → A4' k = A4 k) (h7 : ∀ k, k < 8 → A7' k = A7 k) (hB : ∀ k, rc_t k → B' k = B k) : rc_H A4' A7' B' := by
  refine ⟨fun j hj => ?_, fun c hc hl => ?_⟩
  · rw [h4 _ (rc_f8 hj), hB j (Or.inl hj)]
    exact h.1 j hj
  · rw [h4 2 (by decide)] at hl
    rw [h7 c hc, hB (22 + c) (Or.inr ⟨by omega, by omega⟩), h4 1 (by decide)]
    exact h.2 c hc hl
def rc_T (I : xF) : Prop := I 141 8 = h_lat (I 209 31) (I 209 29) ∧ I 141 9 = h_lat (I 209 31) (I 209 30)
def rc_I (I : xF) : Prop := rc_H (I 4) (I 7) (I 211) ∧ (I 155 3 = I 224 0 ∧ I 182 3 = I 224 1) ∧ (I 224 0 ≠ 0 → rc_H (I 156) (I 159) (I 222)) ∧ (I 224 1 ≠ 0 → rc_H (I 183) (I 186) (fun k => I 222 (299 + k))) ∧ rc_T I
/-- the cells that it speaks of -/
def rc_L : List (Nat × Nat × Nat) := [(4, 0, 7), (156, 0, 7), (183, 0, 7), (7, 0, 7), (159, 0, 7), (186, 0, 7), (155, 3, 3), (182, 3, 3), (224, 0, 1), (141, 8, 9), (209, 29, 31), (211, 0, 6), (211, 22, 29), (222, 0, 6), (222, 22, 29), (222, 299, 305), (222, 321, 328)]
def rc_B (r k : Nat) : Bool := rc_L.any (fun q => Nat.beq r q.1 && (Nat.ble q.2.1 k && Nat.ble k q.2.2))
theorem rc_cB : ∀ q ∈ rc_L, ∀ i : Fin 8, (!Nat.ble (q.2.1 + i.val) q.2.2 || xy_c q.1 (q.2.1 + i.val)) = true := by decide +kernel
theorem rc_len : ∀ q ∈ rc_L, q.2.2 ≤ q.2.1 + 7 := by decide
theorem rc_c {r k : Nat} (h : rc_B r k = true) : xy_c r k = true := by
  obtain ⟨q, hq, h1⟩ := List.any_eq_true.mp h
  simp only [Bool.and_eq_true] at h1
  have h2 := Nat.eq_of_beq_eq_true h1.1
  subst h2
  have h3 : q.2.1 ≤ k := Nat.le_of_ble_eq_true h1.2.1
  have h4 : k ≤ q.2.2 := Nat.le_of_ble_eq_true h1.2.2
  have h5 := rc_len q hq
  have h6 := rc_cB q hq ⟨k - q.2.1, by omega⟩
  dsimp only at h6
  rw [show q.2.1 + (k - q.2.1) = k by omega, Bool.or_eq_true] at h6
  rcases h6 with h6 | h6
  · rw [h1.2.2] at h6
    cases h6
  · exact h6
theorem rc_8 {k : Nat} (h : k < 8) : (rc_B 4 k = true ∧ rc_B 156 k = true ∧ rc_B 183 k = true) ∧ rc_B 7 k = true ∧ rc_B 159 k = true ∧ rc_B 186 k = true := by
  have : ∀ k : Fin 8, (rc_B 4 k.val = true ∧ rc_B 156 k.val = true ∧ rc_B 183 k.val = true) ∧ rc_B 7 k.val = true ∧ rc_B 159 k.val = true ∧ rc_B 186 k.val = true := by decide +kernel
  exact this ⟨k, h⟩
theorem rc_22 {k : Nat} (h : rc_t k) : rc_B 211 k = true ∧ rc_B 222 k = true ∧ rc_B 222 (299 + k) = true := by
  have h9 : ∀ k : Fin 30, (k.val < 7 ∨ 22 ≤ k.val) → rc_B 211 k.val = true ∧ rc_B 222 k.val = true ∧ rc_B 222 (299 + k.val) = true := by decide +kernel
  unfold rc_t at h
  exact h9 ⟨k, by omega⟩ (show k < 7 ∨ 22 ≤ k by omega)
theorem rc_tk : rc_B 155 3 = true ∧ rc_B 182 3 = true ∧ rc_B 224 0 = true ∧ rc_B 224 1 = true := by decide +kernel
theorem rc_tl : rc_B 141 8 = true ∧ rc_B 141 9 = true ∧ rc_B 209 29 = true ∧ rc_B 209 30 = true ∧ rc_B 209 31 = true := by decide +kernel
theorem rc_n0 {r k : Nat} (hr : rc_B r k = true) : ¬ (r = 209 ∧ k = 0) := fun ⟨q, q2⟩ => by
  subst q
  subst q2
  exact absurd hr (by decide)
theorem rc_n23 {r k : Nat} (hr : rc_B r k = true) : ¬ (r = 209 ∧ k = 23) := fun ⟨q, q2⟩ => by
  subst q
  subst q2
  exact absurd hr (by decide)
theorem rc_reg {r k : Nat} (h : rc_B r k = true) : r = 4 ∨ r = 156 ∨ r = 183 ∨ r = 7 ∨ r = 159 ∨ r = 186 ∨ r = 155 ∨ r = 182 ∨ r = 224 ∨ r = 141 ∨ r = 209 ∨ r = 211 ∨ r = 222 := by
  obtain ⟨q, hq, h1⟩ := List.any_eq_true.mp h
  simp only [Bool.and_eq_true] at h1
  have h2 := Nat.eq_of_beq_eq_true h1.1
  have h3 : ∀ q ∈ rc_L, q.1 = 4 ∨ q.1 = 156 ∨ q.1 = 183 ∨ q.1 = 7 ∨ q.1 = 159 ∨ q.1 = 186 ∨ q.1 = 155 ∨ q.1 = 182 ∨ q.1 = 224 ∨ q.1 = 141 ∨ q.1 = 209 ∨ q.1 = 211 ∨ q.1 = 222 := by decide
  have := h3 q hq
  omega
theorem rc_T_eq {I Z : xF} (h : rc_T I) (e : ∀ r k, r = 141 ∨ r = 209 → rc_B r k = true → Z r k = I r k) : rc_T Z := by
  obtain ⟨u1, u2, u3, u4, u5⟩ := rc_tl
  unfold rc_T
  rw [e _ _ (Or.inl rfl) u1, e _ _ (Or.inl rfl) u2, e _ _ (Or.inr rfl) u3, e _ _ (Or.inr rfl) u4, e _ _ (Or.inr rfl) u5]
  exact h
/-- all but the CAPITAL that is in force and the latest HOOKS stay -/
theorem rc_up {I Z : xF} (hI : rc_I I) (e : ∀ r k, rc_B r k = true → r ≠ 4 → r ≠ 7 → r ≠ 211 → r ≠ 141 → r ≠ 209 → Z r k = I r k) (hH : rc_H (Z 4) (Z 7) (Z 211)) (hT : rc_T Z) : rc_I Z := by
  obtain ⟨h1, h2, h3, h4, h5⟩ := hI
  obtain ⟨t1, t2, t3, t4⟩ := rc_tk
  have e3 := e _ _ t3 (by decide) (by decide) (by decide) (by decide) (by decide)
  have e4 := e _ _ t4 (by decide) (by decide) (by decide) (by decide) (by decide)
  refine ⟨hH, ?_, ?_, ?_, hT⟩
  · rw [e _ _ t1 (by decide) (by decide) (by decide) (by decide) (by decide), e _ _ t2 (by decide) (by decide) (by decide) (by decide) (by decide), e3, e4]
    exact h2
  · rw [e3]
    intro q
    exact rc_H_eq (h3 q) (fun k hk => e _ _ (rc_8 hk).1.2.1 (by decide) (by decide) (by decide) (by decide) (by decide)) (fun k hk => e _ _ (rc_8 hk).2.2.1 (by decide) (by decide) (by decide) (by decide) (by decide)) (fun k hk => e _ _ (rc_22 hk).2.1 (by decide) (by decide) (by decide) (by decide) (by decide))
  · rw [e4]
    intro q
    exact rc_H_eq (h4 q) (fun k hk => e _ _ (rc_8 hk).1.2.2 (by decide) (by decide) (by decide) (by decide) (by decide)) (fun k hk => e _ _ (rc_8 hk).2.2.2 (by decide) (by decide) (by decide) (by decide) (by decide)) (fun k hk => e _ _ (rc_22 hk).2.2 (by decide) (by decide) (by decide) (by decide) (by decide))
theorem rc_fr {I I' : xF} (h : ∀ r k, rc_B r k = true → I' r k = I r k) (hI : rc_I I) : rc_I I' := rc_up hI (fun r k hr _ _ _ _ _ => h r k hr) (rc_H_eq hI.1 (fun k hk => h _ _ (rc_8 hk).1.1) (fun k hk => h _ _ (rc_8 hk).2.1) (fun k hk => h _ _ (rc_22 hk).1)) (rc_T_eq hI.2.2.2.2 (fun r k _ hr => h r k hr))
def rc_R (ws : va_W) : Prop := rc_I (x_of ws x_0)
theorem rc_same {u v : va_W} (h : ∀ r k, rc_B r k = true → y_at v r k = y_at u r k) (hu : rc_R u) : rc_R v := rc_fr (fun r k hr => by
  unfold x_of
  rw [h r k hr]) hu
/-- effects that leave these cells, some rows aside -/
def rc_nox (X : List Nat) (eff : yR) : Bool := eff.all (fun q => X.contains q.1 || rc_L.all (fun p => !(Nat.beq p.1 q.1) || (Nat.blt q.2.2 p.2.1 || Nat.blt p.2.2 q.2.1)))
theorem rc_nox_ok {X : List Nat} {eff : yR} (h : rc_nox X eff = true) {r k : Nat} (hr : rc_B r k = true) (hx : X.contains r = false) : y_in eff r k = false := by
  refine y_in_no (fun q hq h1 h2 => ?_)
  have h3 := List.all_eq_true.mp h q hq
  rw [h1, hx, Bool.false_or] at h3
  obtain ⟨p, hp, h4⟩ := List.any_eq_true.mp hr
  simp only [Bool.and_eq_true] at h4
  have h5 := Nat.eq_of_beq_eq_true h4.1
  have h6 : p.2.1 ≤ k := Nat.le_of_ble_eq_true h4.2.1
  have h7 : k ≤ p.2.2 := Nat.le_of_ble_eq_true h4.2.2
  have h8 := List.all_eq_true.mp h3 p hp
  rw [← h5, Nat.beq_refl, Bool.not_true, Bool.false_or, Bool.or_eq_true] at h8
  rcases h8 with h8 | h8
  · have : q.2.2 < p.2.1 := Nat.le_of_ble_eq_true h8
    omega
  · have : p.2.2 < q.2.1 := Nat.le_of_ble_eq_true h8
    omega
def rc_no (eff : yR) : Bool := rc_nox [] eff
theorem rc_no_ok {eff : yR} (h : rc_no eff = true) {r k : Nat} (hr : rc_B r k = true) : y_in eff r k = false := rc_nox_ok h hr rfl
theorem rl_E_no : rc_no rl_E = true := by decide +kernel
def rq_R (ws : va_W) : Prop := rb_R ws ∧ rc_R ws
theorem rq_fr {u v : va_W} (hf : y_fr rl_E u v) (h : rq_R u) : rq_R v := ⟨rb_fr hf h.1, rc_same (fun r k hr => hf r k (rc_no_ok rl_E_no hr)) h.2⟩
theorem rq_same {u v : va_W} (h : ∀ r k, y_at v r k = y_at u r k) (hu : rq_R u) : rq_R v := ⟨rb_same (fun j => h 2 j) (fun j => h 210 j) hu.1, rc_same (fun r k _ => h r k) hu.2⟩
section RLU
variable {p : Program} {l : Launch} {e : Env} {s : State} {m : MethodId} {below : List Frame} {meth : Method} {c : Code} {b L : Nat} {xs : Nat → Int32} {kc : Nat → ClassId} {D : va_G} {EX : (Nat → Prop) → State → Heap → Prop}
theorem rl_up {ws0 ws : va_W} {env : List Int} {z : yS} {ls : Array Slot} {sv : List Value} {H : Heap} {locs : List Loc} (hS : y_S b kc D vwCl (zA0 s) s.heap 7 yTY rl_E yGR w_R ws0 env z ls sv ws H locs) : y_S b kc D vwCl (zA0 s) s.heap 7 yTY hl_E yGR w_R ws0 env z ls sv ws H locs := by
  obtain ⟨h1, h2, hk, hf, hG, hw, hfr, had, hP, hD, hSS⟩ := hS
  exact ⟨h1, h2, hk, hf, hG, hw, y_fr_sub rl_E_sub hfr, had, hP, hD, hSS⟩
theorem rl_SC {eff : yR} (h : hl_C EX p s m meth c b L xs kc D) {i : Nat} (hi : i + 6 ≤ L) (hL : L ≤ 3072) {ws : va_W} {nc ns : Nat} : y_SC p l e room_1 s m #[Value.ref b] below meth c (lw_Z below #[Value.ref b] s) b kc D vwCl (zA0 s) s.heap 7 yTY eff yGR w_R ws nc ns code (hl_env i xs) := by
  obtain ⟨⟨hx, hb, hr, hml, hown, hts, hX, hbl, hlocks, hgv⟩, hK, hN, hE, hEx⟩ := h
  intro env B pc zl st kn fl c0 he hB h7 hc hd kk ls sv ws' H locs hS
  obtain ⟨h1, h2, h3⟩ := hS
  obtain ⟨_, sv', rfl, ⟨y, rfl, hy⟩, h4⟩ := y_st1 h2
  obtain ⟨_, sv'', rfl, ⟨a, ha, rfl⟩, h5⟩ := y_st1 h4
  obtain rfl : b = a := Option.some.inj ha
  have he0 : env[0]? = some (i : Int) := y_pre_get he rfl
  have hy2 : (i : Int) + (c0 : Int) = y.toInt := by
    unfold y_e at hy
    dsimp only at hy
    rw [he0] at hy
    exact Option.some.inj hy
  have hyn : y.toNatClampNeg = i + c0 := by
    have : y.toNatClampNeg = y.toInt.toNat := rfl
    omega
  have hin : vp_in y L := by
    intro q
    rcases q with q | q
    · rw [Int32.lt_iff_toInt_lt] at q
      have : (0 : Int32).toInt = 0 := by decide
      omega
    · omega
  have hS3 := h3.2.2.2.2.2.2.2.2
  refine va_sld hx hb hX hbl (Nat.not_le.mpr hbl) hS3 hin hd ?_
  rw [hyn]
  refine kk ls _ ws' H locs ⟨h1, ⟨⟨_, rfl, ?_⟩, h5⟩, h3⟩
  refine y_nm_ok hB ?_
  show (env[c0 + 1]?).map _ = _
  rw [y_pre_get he (hl_x hc)]
  exact congrArg some (Int.add_zero _)
end RLU
def rl_z : yS := (hl_zl, [], rl_k 7 rl_L, (true, [], []))
def rl_Bx (lo hi : Int) : yB := rl_B (7, [hl_Q, hl_Q, hl_Q, hl_Q, (lo, hi, none), hl_Q, (0, 3066, none)]) rl_L
def rl_ckx (lo hi : Int) (pc : Nat) : Bool := match y_run yP0 yTY zTF rl_E yRC yGR (y_ct rl_CT yTY yRC rl_E 40) 3000 true 40 ym_law (fun pc _ _ => pc == 1347) true (rl_Bx lo hi) pc rl_z with
  | some es => es.all (rl_end rl_L)
  | none => false
