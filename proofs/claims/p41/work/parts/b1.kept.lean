/-! ===== image, restore: which images are kept ===== -/
def hg_hd (pcL kk : Nat) (a : Nat × Nat) : yCut := match a.1 with
  | 0 => (pcL, [(0, .inr (some 210)), (1, .inl (Int.ofNat kk, Int.ofNat kk)), (2, .inl (Int.ofNat a.2, Int.ofNat a.2))], [], [], false)
  | _ => (0, [(0, .inr (some 210)), (1, .inl (Int.ofNat kk, Int.ofNat kk))], [((224, kk), (0, 1), none)], [], false)
def hg_E (rd od : Nat) (tl : yR) (a : Nat × Nat) : yR := match a.1 with
  | 0 => if a.2 < 299 then [(rd, od + a.2, od + a.2)] else tl
  | _ => [(209, 0, 0)]
def hg_run (jm pcL kk : Nat) (E : yR) (a : Nat × Nat) : Option (List (yB × Nat × yS)) := match yP0 jm with
  | some M => y_run yP0 yTY zTF E [] yGR (y_ct yCTab yTY [] E 20) 900 false 20 M (fun pc _ _ => pc == pcL) true (y_cst (0, []) (hg_hd pcL kk a)).1 (hg_hd pcL kk a).1 (y_cst (0, []) (hg_hd pcL kk a)).2
  | none => none
def hg_it (jm pcL kk rd od rs os : Nat) (i : Nat) : Bool := match hg_run jm pcL kk [(rd, od + i, od + i)] (0, i) with
  | some es => es.all (fun q => y_hit yTY 0 q.1 q.2.1 q.2.2 (hg_hd pcL kk (0, i + 1)) && (match y_kget q.2.2.2.2.1 rs (.inl (Int.ofNat (os + i))), y_kget q.2.2.2.2.1 rd (.inl (Int.ofNat (od + i))) with
    | some t, some t' => y_eqI t t'
    | _, _ => false))
  | none => false
def hg_end (z : Bool) (jm pcL kk : Nat) (tl : yR) : Bool := match yP0 jm, hg_run jm pcL kk tl (0, 299) with
  | some M, some es => es.all (fun q => hq_ret M q 1 1 && (z || hq_in q (hq_k q 224 kk) 1 1))
  | _, _ => false
def hg_ent (z : Bool) (jm pcL kk : Nat) : Bool := match yP0 jm, hg_run jm pcL kk [(209, 0, 0)] (1, 0) with
  | some M, some es => es.all (fun q => (y_hit yTY 0 q.1 q.2.1 q.2.2 (hg_hd pcL kk (0, 0)) && (!z || hq_in q (hq_k0 (hg_hd pcL kk (1, 0)) 224 kk) 1 1)) || (z && (hq_ret M q 0 0 && hq_in q (hq_k0 (hg_hd pcL kk (1, 0)) 224 kk) 0 0)))
  | _, _ => false
section HC
variable {EX : (Nat → Prop) → State → Heap → Prop} {l : Launch} {kc : Nat → ClassId} {D : va_G} {xb : Nat} {ad : Nat → Option Nat}
variable {z : Bool} {jm pcL kk rd od rs os : Nat} {tl effM : yR}
def hg_F (z : Bool) (kk : Nat) (rd od rs os : Nat) (w0 : va_W) (a : Nat × Nat) (_ : Array Slot) (ws : va_W) : Prop := match a.1 with
  | 0 => (∀ j, j < a.2 → y_at ws rd (od + j) = y_at w0 rs (os + j)) ∧ (∀ k, y_at ws rs k = y_at w0 rs k) ∧ (z = true → hs_cell w0 224 kk 1)
  | _ => ws = w0
def hg_P (z : Bool) (kk : Nat) (rd od rs os : Nat) (w0 : va_W) (rv : Option Value) (u : va_W) : Prop := ∃ x : Int32, rv = some (.int x) ∧ ((x.toInt = 1 ∧ (z = true → hs_cell w0 224 kk 1) ∧ (z = false → hs_cell u 224 kk 1) ∧ ∀ j, j < 299 → y_at u rd (od + j) = y_at w0 rs (os + j)) ∨ (z = true ∧ x.toInt = 0 ∧ hs_cell w0 224 kk 0 ∧ ∀ r k, r ≠ 209 → y_at u r k = y_at w0 r k))
def hg_D (a : Nat × Nat) : Prop := (a.1 = 0 ∧ a.2 ≤ 299) ∨ a = (1, 0)
def hg_r (a : Nat × Nat) : Nat := match a.1 with
  | 0 => 300 - a.2
  | _ => 400
theorem hg_all {M : yM} (hM : yP0 jm = some M) (hne : rs ≠ rd) (hd9 : rd ≠ 209) (hs9 : rs ≠ 209) (htd : tl.all (fun q => !(q.1 == rd)) = true) (hts : tl.all (fun q => !(q.1 == rs)) = true) (hsub1 : ∀ i, i < 299 → y_sub [(rd, od + i, od + i)] effM = true) (hsub2 : y_sub tl effM = true) (hsub3 : y_sub [(209, 0, 0)] effM = true)
    (hit : ((List.range 299).all (hg_it jm pcL kk rd od rs os)) = true) (hend : hg_end z jm pcL kk tl = true) (hent : hg_ent z jm pcL kk = true) (a : Nat × Nat) (ha : hg_D a) : y_go1 kc yP0 yTY zTF yGR [] (fun _ => True) yCTab ad M 900 20 20 hg_D (hg_hd pcL kk) (hg_E rd od tl) hg_r effM (hg_F z kk rd od rs os) (hg_P z kk rd od rs os) a := by
  have hno : ∀ {r k : Nat}, tl.all (fun q => !(q.1 == r)) = true → y_in tl r k = false := by
    intro r k h
    cases hh : y_in tl r k with
    | false => rfl
    | true =>
      obtain ⟨p, hp, h1⟩ := List.any_eq_true.mp hh
      have h2 := List.all_eq_true.mp h p hp
      rw [Bool.and_eq_true] at h1
      rw [h1.1] at h2
      cases h2
  rcases ha with ⟨h0, hi⟩ | rfl
  · obtain ⟨k0, i⟩ := a
    dsimp only at h0 hi
    subst h0
    by_cases hi9 : i < 299
    · have hck := List.all_eq_true.mp hit i (List.mem_range.mpr hi9)
      have hEi : hg_E rd od tl (0, i) = [(rd, od + i, od + i)] := by
        show (if i < 299 then _ else _) = _
        rw [if_pos hi9]
      unfold hg_it hg_run at hck
      rw [hM] at hck
      dsimp only at hck
      unfold y_go1
      rw [hEi]
      split at hck
      next es hes =>
        refine ⟨_, es, hes, hsub1 i hi9, fun q hq => Or.inl ⟨(0, i + 1), Or.inl ⟨rfl, hi9⟩, (show 300 - (i + 1) < 300 - i by omega), ?_, ?_⟩⟩
        · have := List.all_eq_true.mp hck q hq
          rw [Bool.and_eq_true] at this
          exact this.1
        · intro w0 ws ws' ls ls' e0 env hF _ _ _ _ _ _ _ hfr hB _ hk'
          have h9 := List.all_eq_true.mp hck q hq
          rw [Bool.and_eq_true] at h9
          have h9 := h9.2
          obtain ⟨f1, f2, f3⟩ := hF
          dsimp only at f1
          have hs : ∀ k, y_at ws' rs k = y_at ws rs k := fun k => hfr rs k (by
            unfold y_in
            simp only [List.any_cons, List.any_nil, Bool.or_false]
            rw [show (rd == rs) = false by simpa using fun h => hne h.symm]
            rfl)
          refine ⟨fun j hj => ?_, fun k => (hs k).trans (f2 k), f3⟩
          dsimp only at hj
          by_cases hji : j = i
          · subst hji
            split at h9
            next t t' ht ht' =>
              have := y_eqI_ok h9
              subst this
              obtain ⟨x, x1, x2⟩ := y_kcell hk' ht
              obtain ⟨x', y1, y2⟩ := y_kcell hk' ht'
              rw [x2] at y2
              have := y_i32 (Option.some.inj y2)
              subst this
              rw [y1, ← x1, hs, f2]
            next => cases h9
          · rw [← f1 j (by omega)]
            exact hfr rd (od + j) (by
              unfold y_in
              simp only [List.any_cons, List.any_nil, Bool.or_false]
              cases hb : Nat.ble (od + i) (od + j) with
              | false => simp
              | true => cases hb2 : Nat.ble (od + j) (od + i) with
                | false => simp
                | true =>
                  have := Nat.le_of_ble_eq_true hb
                  have := Nat.le_of_ble_eq_true hb2
                  exact absurd (show j = i by omega) hji)
      next => cases hck
    · have hi3 : i = 299 := by omega
      subst hi3
      have hEi : hg_E rd od tl (0, 299) = tl := by
        show (if (299 : Nat) < 299 then [(rd, od + 299, od + 299)] else tl) = tl
        rw [if_neg (by omega)]
      unfold hg_end hg_run at hend
      rw [hM] at hend
      dsimp only at hend
      unfold y_go1
      rw [hEi]
      split at hend
      next M' es hM' hes =>
        cases hM'
        refine ⟨_, es, hes, hsub2, fun q hq => Or.inr ?_⟩
        have h9 := List.all_eq_true.mp hend q hq
        rw [Bool.and_eq_true, Bool.or_eq_true] at h9
        obtain ⟨rz, z1, z2, z3, z4⟩ := hq_ret_ok (ad := ad) h9.1
        refine ⟨rz, z1, z2, z3, ?_⟩
        intro w0 ws ws' ls rv e0 env hF _ _ _ _ _ _ _ _ hfr _ hB hk hrv
        obtain ⟨x, x1, x2, x3⟩ := z4 env rv hB hrv
        refine ⟨x, x1, Or.inl ⟨by omega, hF.2.2, fun hz => ?_, fun j hj => ?_⟩⟩
        · obtain ⟨y, y1, y2, y3⟩ := hq_in_cell (h9.2.resolve_left (fun e => by rw [hz] at e; cases e)) hk hB
          exact ⟨y, y1, by omega⟩
        rw [← hF.1 j hj]
        exact hfr rd _ (hno htd)
      next => cases hend
  · unfold hg_ent hg_run at hent
    rw [hM] at hent
    dsimp only at hent
    unfold y_go1
    split at hent
    next M' es hM' hes =>
      cases hM'
      refine ⟨_, es, hes, hsub3, fun q hq => ?_⟩
      have h9 := List.all_eq_true.mp hent q hq
      rw [Bool.or_eq_true] at h9
      have hn9 : ∀ {r k : Nat}, r ≠ 209 → y_in [(209, 0, 0)] r k = false := fun {r k} hr => by
        unfold y_in
        simp only [List.any_cons, List.any_nil, Bool.or_false]
        rw [show ((209 : Nat) == r) = false by simpa using fun h => hr h.symm]
        rfl
      rcases h9 with h9 | h9
      · rw [Bool.and_eq_true, Bool.or_eq_true] at h9
        refine Or.inl ⟨(0, 0), Or.inl ⟨rfl, by decide⟩, (show 300 - 0 < 400 by decide), h9.1, ?_⟩
        intro w0 ws ws' ls ls' e0 env hF _ _ _ hk0 he _ _ hfr hB _ _
        have hF : ws = w0 := hF
        subst hF
        refine ⟨fun j hj => absurd hj (Nat.not_lt_zero _), fun k => hfr rs k (hn9 hs9), fun hz => ?_⟩
        obtain ⟨y, y1, y2, y3⟩ := hq_in0_cell (h9.2.resolve_left (fun e => by rw [hz] at e; cases e)) hk0 he hB
        exact ⟨y, y1, by omega⟩
      · refine Or.inr ?_
        rw [Bool.and_eq_true, Bool.and_eq_true] at h9
        obtain ⟨rz, z1, z2, z3, z4⟩ := hq_ret_ok (ad := ad) h9.2.1
        refine ⟨rz, z1, z2, z3, ?_⟩
        intro w0 ws ws' ls rv e0 env hF _ _ _ hk0 he _ _ _ hfr _ hB _ hrv
        have hF : ws = w0 := hF
        subst hF
        obtain ⟨x, x1, x2, x3⟩ := z4 env rv hB hrv
        obtain ⟨y, y1, y2, y3⟩ := hq_in0_cell h9.2.2 hk0 he hB
        exact ⟨x, x1, Or.inr ⟨h9.1, by omega, ⟨y, y1, by omega⟩, fun r k hr => hfr r k (hn9 hr)⟩⟩
    next => cases hent
end HC
theorem hg_i0 : ((List.range 299).all (hg_it 273 18 0 222 0 211 0)) = true := hc_i0
theorem hg_i1 : ((List.range 299).all (hg_it 273 18 1 222 299 211 0)) = true := hc_i1
theorem hg_r0 : ((List.range 299).all (hg_it 274 27 0 211 0 222 0)) = true := hc_r0
theorem hg_r1 : ((List.range 299).all (hg_it 274 27 1 211 0 222 299)) = true := hc_r1
theorem hg_i0e : hg_end false 273 18 0 [(224, 0, 0)] = true := by decide +kernel
theorem hg_i1e : hg_end false 273 18 1 [(224, 1, 1)] = true := by decide +kernel
theorem hg_r0e : hg_end true 274 27 0 [(209, 23, 23)] = true := by decide +kernel
theorem hg_r1e : hg_end true 274 27 1 [(209, 23, 23)] = true := by decide +kernel
theorem hg_i0s : hg_ent false 273 18 0 = true := by decide +kernel
theorem hg_i1s : hg_ent false 273 18 1 = true := by decide +kernel
theorem hg_r0s : hg_ent true 274 27 0 = true := by decide +kernel
theorem hg_r1s : hg_ent true 274 27 1 = true := by decide +kernel
