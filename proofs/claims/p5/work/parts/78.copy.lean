theorem w_WF_copy {ws u : va_W} {r o r' o' : Nat} (h : ∀ k, k ≤ 180 → y_at u r' (o' + k) = y_at ws r (o + k)) (hn : ∀ n : Int32, y_at ws r o = some n → n.toInt ≤ 59) (hw : w_WF ws r o) : w_WF u r' o' := by
  intro n hn' i hi
  have h0 := h 0 (by omega)
  rw [Nat.add_zero, Nat.add_zero, hn'] at h0
  obtain ⟨d, hd⟩ := hw n h0.symm i hi
  have := hn n h0.symm
  refine ⟨d, ?_⟩
  rw [← hd]
  exact w_D_same (fun j hj => by
    have h1 := h (1 + 3 * j) (by omega)
    unfold w_at
    rw [show o' + 1 + 3 * j = o' + (1 + 3 * j) by omega, show o + 1 + 3 * j = o + (1 + 3 * j) by omega]
    exact h1)
theorem w_cnt {kc : Nat → ClassId} {ad : Nat → Option Nat} {ws : va_W} (hw : y_w kc ad yTY ws) : (∀ n : Int32, y_at ws 211 118 = some n → n.toInt ≤ 59) ∧ (∀ n : Int32, y_at ws 222 118 = some n → n.toInt ≤ 59) ∧ (∀ n : Int32, y_at ws 222 417 = some n → n.toInt ≤ 59) := by
  have hone : ∀ r k, y_ty yTY r k = some (0, 44) → ∀ n : Int32, y_at ws r k = some n → n.toInt ≤ 59 := by
    intro r k hq n hn
    obtain ⟨x, x1, x2, x3⟩ := y_ty_ok hw hq
    rw [hn] at x1
    cases x1
    dsimp only at x3
    omega
  exact ⟨hone 211 118 (by decide +kernel), hone 222 118 (by decide +kernel), hone 222 417 (by decide +kernel)⟩
theorem w_RI_same {kc : Nat → ClassId} {ad : Nat → Option Nat} {ws u : va_W} (hw : y_w kc ad yTY ws) (h : ∀ r k, y_in yRC r k = true → y_at u r k = y_at ws r k) (hr : w_RI ws) : w_RI u := by
  obtain ⟨c1, c2, c3⟩ := w_cnt hw
  have hin : ∀ r a b, (r, a, b) ∈ yRC → ∀ k, a ≤ k → k ≤ b → y_in yRC r k = true := fun r a b hm k h1 h2 => List.any_eq_true.mpr ⟨_, hm, by simp [h1, h2]⟩
  exact ⟨w_WF_same (fun k h1 h2 => h _ _ (hin 211 118 298 (by decide) k h1 (by omega))) c1 hr.1, w_WF_same (fun k h1 h2 => h _ _ (hin 222 118 298 (by decide) k h1 (by omega))) c2 hr.2.1, w_WF_same (fun k h1 h2 => h _ _ (hin 222 417 597 (by decide) k h1 (by omega))) c3 hr.2.2⟩
theorem w_cntV {kc : Nat → ClassId} {ad : Nat → Option Nat} {ws : va_W} (hw : y_w kc ad yTYV ws) : (∀ n : Int32, y_at ws 211 118 = some n → n.toInt ≤ 59) ∧ (∀ n : Int32, y_at ws 222 118 = some n → n.toInt ≤ 59) ∧ (∀ n : Int32, y_at ws 222 417 = some n → n.toInt ≤ 59) := by
  have hone : ∀ r k, y_ty yTYV r k = some (0, 44) → ∀ n : Int32, y_at ws r k = some n → n.toInt ≤ 59 := by
    intro r k hq n hn
    obtain ⟨x, x1, x2, x3⟩ := y_ty_ok hw hq
    rw [hn] at x1
    cases x1
    dsimp only at x3
    omega
  exact ⟨hone 211 118 (by decide +kernel), hone 222 118 (by decide +kernel), hone 222 417 (by decide +kernel)⟩
theorem w_RI_sameV {kc : Nat → ClassId} {ad : Nat → Option Nat} {ws u : va_W} (hw : y_w kc ad yTYV ws) (h : ∀ r k, y_in yRC r k = true → y_at u r k = y_at ws r k) (hr : w_RI ws) : w_RI u := by
  obtain ⟨c1, c2, c3⟩ := w_cntV hw
  have hin : ∀ r a b, (r, a, b) ∈ yRC → ∀ k, a ≤ k → k ≤ b → y_in yRC r k = true := fun r a b hm k h1 h2 => List.any_eq_true.mpr ⟨_, hm, by simp [h1, h2]⟩
  exact ⟨w_WF_same (fun k h1 h2 => h _ _ (hin 211 118 298 (by decide) k h1 (by omega))) c1 hr.1, w_WF_same (fun k h1 h2 => h _ _ (hin 222 118 298 (by decide) k h1 (by omega))) c2 hr.2.1, w_WF_same (fun k h1 h2 => h _ _ (hin 222 417 597 (by decide) k h1 (by omega))) c3 hr.2.2⟩
def hc_imE (k : Nat) : yR := [(222, 299 * k, 299 * k + 298), (209, 0, 0), (224, k, k)]
def hc_reE : yR := [(211, 0, 298), (209, 0, 0), (209, 23, 23)]
def hc_imK (k : Nat) : yCon := (273, [.inr (some 210), .inl (Int.ofNat k, Int.ofNat k)], [], [(some (.inl (1, 1)), [], true)], hc_imE k, 21, true, [])
def hc_reK (k : Nat) : yCon := (274, [.inr (some 210), .inl (Int.ofNat k, Int.ofNat k)], [], [(some (.inl (1, 1)), [], true), (some (.inl (0, 0)), [], true)], hc_reE, 21, true, [])
theorem hc_i0 : ((List.range 299).all (hc_it 273 18 0 222 0 211 0)) = true := by decide +kernel
theorem hc_i1 : ((List.range 299).all (hc_it 273 18 1 222 299 211 0)) = true := by decide +kernel
theorem hc_r0 : ((List.range 299).all (hc_it 274 27 0 211 0 222 0)) = true := by decide +kernel
theorem hc_r1 : ((List.range 299).all (hc_it 274 27 1 211 0 222 299)) = true := by decide +kernel
theorem hc_i0e : hc_end 273 18 0 [(224, 0, 0)] = true := by decide +kernel
theorem hc_i1e : hc_end 273 18 1 [(224, 1, 1)] = true := by decide +kernel
theorem hc_r0e : hc_end 274 27 0 [(209, 23, 23)] = true := by decide +kernel
theorem hc_r1e : hc_end 274 27 1 [(209, 23, 23)] = true := by decide +kernel
theorem hc_i0s : hc_ent false 273 18 0 = true := by decide +kernel
theorem hc_i1s : hc_ent false 273 18 1 = true := by decide +kernel
theorem hc_r0s : hc_ent true 274 27 0 = true := by decide +kernel
theorem hc_r1s : hc_ent true 274 27 1 = true := by decide +kernel
