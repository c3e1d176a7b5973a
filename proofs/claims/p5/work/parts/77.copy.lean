/-! ===== contracts put beside the others ===== -/
def y_cput (CT : List (List (List yCon))) (j : Nat) (K : yCon) : List (List (List yCon)) := CT.set (j / 16) ((CT.getD (j / 16) []).set (j % 16) (K :: (CT.getD (j / 16) []).getD (j % 16) []))
theorem y_cput_in {CT : List (List (List yCon))} {j j' : Nat} {K K' : yCon} (h : K' ∈ y_cget (y_cput CT j K) j') : (j' = j ∧ K' = K) ∨ K' ∈ y_cget CT j' := by
  unfold y_cget y_cput at h
  rw [List.getElem?_set] at h
  by_cases h1 : j / 16 = j' / 16
  · rw [if_pos h1] at h
    by_cases h2 : j / 16 < CT.length
    · rw [if_pos h2] at h
      dsimp only at h
      have hg : CT.getD (j / 16) [] = CT[j / 16] := by rw [List.getD_eq_getElem?_getD, List.getElem?_eq_getElem h2]; rfl
      rw [hg, List.getElem?_set] at h
      by_cases h3 : j % 16 = j' % 16
      · rw [if_pos h3] at h
        by_cases h4 : j % 16 < CT[j / 16].length
        · rw [if_pos h4] at h
          dsimp only at h
          have hg2 : CT[j / 16].getD (j % 16) [] = CT[j / 16][j % 16] := by rw [List.getD_eq_getElem?_getD, List.getElem?_eq_getElem h4]; rfl
          rw [hg2] at h
          rcases List.mem_cons.mp h with h | h
          · exact Or.inl ⟨by omega, h⟩
          · refine Or.inr ?_
            unfold y_cget
            rw [← h1, List.getElem?_eq_getElem h2]
            dsimp only
            rw [← h3, List.getElem?_eq_getElem h4]
            exact h
        · rw [if_neg h4] at h
          cases h
      · rw [if_neg h3] at h
        refine Or.inr ?_
        unfold y_cget
        rw [← h1, List.getElem?_eq_getElem h2]
        exact h
    · rw [if_neg h2] at h
      cases h
  · rw [if_neg h1] at h
    exact Or.inr h
/-- a cell that is known -/
theorem y_kcell {env : List Int} {ws : va_W} {kn : yN} {r k : Nat} {t : yI} (hk : y_k env ws kn) (h : y_kget kn r (.inl (Int.ofNat k)) = some t) : ∃ x : Int32, y_at ws r k = some x ∧ y_e env t = some x.toInt := by
  obtain ⟨j, x, g0, g1, g2⟩ := hk _ (y_kget_in h)
  dsimp only at g0 g1 g2
  have hj : j = k := by have h9 : (k : Int) = (j : Int) := Option.some.inj g0; omega
  subst hj
  exact ⟨x, g1, g2⟩
theorem y_i32 {x y : Int32} (h : x.toInt = y.toInt) : x = y := by
  rw [← Int32.ofInt_toInt x, ← Int32.ofInt_toInt y, h]
/-! ===== a row that is copied: image, restore ===== -/
def hc_hd (pcL kk : Nat) (a : Nat × Nat) : yCut := match a.1 with
  | 0 => (pcL, [(0, .inr (some 210)), (1, .inl (Int.ofNat kk, Int.ofNat kk)), (2, .inl (Int.ofNat a.2, Int.ofNat a.2))], [], [], false)
  | _ => (0, [(0, .inr (some 210)), (1, .inl (Int.ofNat kk, Int.ofNat kk))], [], [], false)
def hc_E (rd od : Nat) (tl : yR) (a : Nat × Nat) : yR := match a.1 with
  | 0 => if a.2 < 299 then [(rd, od + a.2, od + a.2)] else tl
  | _ => [(209, 0, 0)]
def hc_run (jm pcL kk : Nat) (E : yR) (a : Nat × Nat) : Option (List (yB × Nat × yS)) := match yP0 jm with
  | some M => y_run yP0 yTY zTF E [] yGR (y_ct yCTab yTY [] E 20) 900 false 20 M (fun pc _ _ => pc == pcL) true (y_cst (0, []) (hc_hd pcL kk a)).1 (hc_hd pcL kk a).1 (y_cst (0, []) (hc_hd pcL kk a)).2
  | none => none
def hc_it (jm pcL kk rd od rs os : Nat) (i : Nat) : Bool := match hc_run jm pcL kk [(rd, od + i, od + i)] (0, i) with
  | some es => es.all (fun q => y_hit yTY 0 q.1 q.2.1 q.2.2 (hc_hd pcL kk (0, i + 1)) && (match y_kget q.2.2.2.2.1 rs (.inl (Int.ofNat (os + i))), y_kget q.2.2.2.2.1 rd (.inl (Int.ofNat (od + i))) with
    | some t, some t' => y_eqI t t'
    | _, _ => false))
  | none => false
/-- an answer within bounds -/
def hq_ret (M : yM) (q : yB × Nat × yS) (lo hi : Int) : Bool := q.2.2.2.2.2.2.1.isEmpty && (q.2.2.2.2.2.2.2.isEmpty && (match y_res M.2.2.2.2.1 M.2.2.2.1 q.1 q.2.1 q.2.2.2.1 with
  | some (some (.inl t)) => decide (lo ≤ (y_rng q.1 t).1) && decide ((y_rng q.1 t).2 ≤ hi)
  | _ => false))
theorem hq_ret_ok {M : yM} {q : yB × Nat × yS} {lo hi : Int} (h : hq_ret M q lo hi = true) {ad : Nat → Option Nat} : ∃ rz, y_res M.2.2.2.2.1 M.2.2.2.1 q.1 q.2.1 q.2.2.2.1 = some rz ∧ q.2.2.2.2.2.2.1 = [] ∧ q.2.2.2.2.2.2.2 = [] ∧ ∀ (env : List Int) (rv : Option Value), y_B q.1 env → z_L (y_v env ad) rz.toList rv.toList → ∃ x : Int32, rv = some (.int x) ∧ lo ≤ x.toInt ∧ x.toInt ≤ hi := by
  unfold hq_ret at h
  simp only [Bool.and_eq_true] at h
  obtain ⟨q1, q2, q3⟩ := h
  split at q3
  next t ht =>
    rw [Bool.and_eq_true] at q3
    refine ⟨_, ht, List.isEmpty_iff.mp q1, List.isEmpty_iff.mp q2, fun env rv hB hrv => ?_⟩
    cases rv with
    | none => exact hrv.elim
    | some v =>
      obtain ⟨⟨x, rfl, hx⟩, _⟩ := hrv
      have r := y_rng_ok hB hx
      have a1 := of_decide_eq_true q3.1
      have a2 := of_decide_eq_true q3.2
      exact ⟨x, rfl, by omega, by omega⟩
  next => cases q3
def hc_end (jm pcL kk : Nat) (tl : yR) : Bool := match yP0 jm, hc_run jm pcL kk tl (0, 299) with
  | some M, some es => es.all (fun q => hq_ret M q 1 1)
  | _, _ => false
def hc_ent (z : Bool) (jm pcL kk : Nat) : Bool := match yP0 jm, hc_run jm pcL kk [(209, 0, 0)] (1, 0) with
  | some M, some es => es.all (fun q => y_hit yTY 0 q.1 q.2.1 q.2.2 (hc_hd pcL kk (0, 0)) || (z && hq_ret M q 0 0))
  | _, _ => false
section HC
variable {EX : (Nat → Prop) → State → Heap → Prop} {l : Launch} {kc : Nat → ClassId} {D : va_G} {xb : Nat} {ad : Nat → Option Nat}
variable {z : Bool} {jm pcL kk rd od rs os : Nat} {tl effM : yR}
def hc_F (rd od rs os : Nat) (w0 : va_W) (a : Nat × Nat) (_ : Array Slot) (ws : va_W) : Prop := match a.1 with
  | 0 => (∀ j, j < a.2 → y_at ws rd (od + j) = y_at w0 rs (os + j)) ∧ ∀ k, y_at ws rs k = y_at w0 rs k
  | _ => ws = w0
def hc_P (z : Bool) (rd od rs os : Nat) (w0 : va_W) (rv : Option Value) (u : va_W) : Prop := ∃ x : Int32, rv = some (.int x) ∧ ((x.toInt = 1 ∧ ∀ j, j < 299 → y_at u rd (od + j) = y_at w0 rs (os + j)) ∨ (z = true ∧ x.toInt = 0 ∧ ∀ r k, r ≠ 209 → y_at u r k = y_at w0 r k))
def hc_D (a : Nat × Nat) : Prop := (a.1 = 0 ∧ a.2 ≤ 299) ∨ a = (1, 0)
def hc_r (a : Nat × Nat) : Nat := match a.1 with
  | 0 => 300 - a.2
  | _ => 400
theorem hc_all {M : yM} (hM : yP0 jm = some M) (hne : rs ≠ rd) (hd9 : rd ≠ 209) (hs9 : rs ≠ 209) (htd : tl.all (fun q => !(q.1 == rd)) = true) (hts : tl.all (fun q => !(q.1 == rs)) = true) (hsub1 : ∀ i, i < 299 → y_sub [(rd, od + i, od + i)] effM = true) (hsub2 : y_sub tl effM = true) (hsub3 : y_sub [(209, 0, 0)] effM = true)
    (hit : ((List.range 299).all (hc_it jm pcL kk rd od rs os)) = true) (hend : hc_end jm pcL kk tl = true) (hent : hc_ent z jm pcL kk = true) (a : Nat × Nat) (ha : hc_D a) : y_go1 kc yP0 yTY zTF yGR [] (fun _ => True) yCTab ad M 900 20 20 hc_D (hc_hd pcL kk) (hc_E rd od tl) hc_r effM (hc_F rd od rs os) (hc_P z rd od rs os) a := by
  have hno : ∀ {r k : Nat}, tl.all (fun q => !(q.1 == r)) = true → y_in tl r k = false := by
    intro r k h
    cases hh : y_in tl r k with
    | false => rfl
    | true =>
      obtain ⟨p, hp, h1⟩ := List.any_eq_true.mp hh
      have h2 := List.all_eq_true.mp h p hp
      rw [Bool.and_eq_true] at h1
      rw [h1.1] at h2
      cases h2
  rcases ha with ⟨h0, hi⟩ | rfl
  · obtain ⟨k0, i⟩ := a
    dsimp only at h0 hi
    subst h0
    by_cases hi9 : i < 299
    · have hck := List.all_eq_true.mp hit i (List.mem_range.mpr hi9)
      have hEi : hc_E rd od tl (0, i) = [(rd, od + i, od + i)] := by
        show (if i < 299 then _ else _) = _
        rw [if_pos hi9]
      unfold hc_it hc_run at hck
      rw [hM] at hck
      dsimp only at hck
      unfold y_go1
      rw [hEi]
      split at hck
      next es hes =>
        refine ⟨_, es, hes, hsub1 i hi9, fun q hq => Or.inl ⟨(0, i + 1), Or.inl ⟨rfl, hi9⟩, (show 300 - (i + 1) < 300 - i by omega), ?_, ?_⟩⟩
        · have := List.all_eq_true.mp hck q hq
          rw [Bool.and_eq_true] at this
          exact this.1
        · intro w0 ws ws' ls ls' e0 env hF _ _ _ _ _ _ _ hfr hB _ hk'
          have h9 := List.all_eq_true.mp hck q hq
          rw [Bool.and_eq_true] at h9
          have h9 := h9.2
          obtain ⟨f1, f2⟩ := hF
          dsimp only at f1
          have hs : ∀ k, y_at ws' rs k = y_at ws rs k := fun k => hfr rs k (by
            unfold y_in
            simp only [List.any_cons, List.any_nil, Bool.or_false]
            rw [show (rd == rs) = false by simpa using fun h => hne h.symm]
            rfl)
          refine ⟨fun j hj => ?_, fun k => (hs k).trans (f2 k)⟩
          dsimp only at hj
          by_cases hji : j = i
          · subst hji
            split at h9
            next t t' ht ht' =>
              have := y_eqI_ok h9
              subst this
              obtain ⟨x, x1, x2⟩ := y_kcell hk' ht
              obtain ⟨x', y1, y2⟩ := y_kcell hk' ht'
              rw [x2] at y2
              have := y_i32 (Option.some.inj y2)
              subst this
              rw [y1, ← x1, hs, f2]
            next => cases h9
          · rw [← f1 j (by omega)]
            exact hfr rd (od + j) (by
              unfold y_in
              simp only [List.any_cons, List.any_nil, Bool.or_false]
              cases hb : Nat.ble (od + i) (od + j) with
              | false => simp
              | true => cases hb2 : Nat.ble (od + j) (od + i) with
                | false => simp
                | true =>
                  have := Nat.le_of_ble_eq_true hb
                  have := Nat.le_of_ble_eq_true hb2
                  exact absurd (show j = i by omega) hji)
      next => cases hck
    · have hi3 : i = 299 := by omega
      subst hi3
      have hEi : hc_E rd od tl (0, 299) = tl := by
        show (if (299 : Nat) < 299 then [(rd, od + 299, od + 299)] else tl) = tl
        rw [if_neg (by omega)]
      unfold hc_end hc_run at hend
      rw [hM] at hend
      dsimp only at hend
      unfold y_go1
      rw [hEi]
      split at hend
      next M' es hM' hes =>
        cases hM'
        refine ⟨_, es, hes, hsub2, fun q hq => Or.inr ?_⟩
        obtain ⟨rz, z1, z2, z3, z4⟩ := hq_ret_ok (ad := ad) (List.all_eq_true.mp hend q hq)
        refine ⟨rz, z1, z2, z3, ?_⟩
        intro w0 ws ws' ls rv e0 env hF _ _ _ _ _ _ _ _ hfr _ hB _ hrv
        obtain ⟨x, x1, x2, x3⟩ := z4 env rv hB hrv
        refine ⟨x, x1, Or.inl ⟨by omega, fun j hj => ?_⟩⟩
        rw [← hF.1 j hj]
        exact hfr rd _ (hno htd)
      next => cases hend
  · unfold hc_ent hc_run at hent
    rw [hM] at hent
    dsimp only at hent
    unfold y_go1
    split at hent
    next M' es hM' hes =>
      cases hM'
      refine ⟨_, es, hes, hsub3, fun q hq => ?_⟩
      have h9 := List.all_eq_true.mp hent q hq
      rw [Bool.or_eq_true] at h9
      have hn9 : ∀ {r k : Nat}, r ≠ 209 → y_in [(209, 0, 0)] r k = false := fun {r k} hr => by
        unfold y_in
        simp only [List.any_cons, List.any_nil, Bool.or_false]
        rw [show ((209 : Nat) == r) = false by simpa using fun h => hr h.symm]
        rfl
      rcases h9 with h9 | h9
      · refine Or.inl ⟨(0, 0), Or.inl ⟨rfl, by decide⟩, (show 300 - 0 < 400 by decide), h9, ?_⟩
        intro w0 ws ws' ls ls' e0 env hF _ _ _ _ _ _ _ hfr _ _ _
        have hF : ws = w0 := hF
        subst hF
        exact ⟨fun j hj => absurd hj (Nat.not_lt_zero _), fun k => hfr rs k (hn9 hs9)⟩
      · refine Or.inr ?_
        rw [Bool.and_eq_true] at h9
        obtain ⟨rz, z1, z2, z3, z4⟩ := hq_ret_ok (ad := ad) h9.2
        refine ⟨rz, z1, z2, z3, ?_⟩
        intro w0 ws ws' ls rv e0 env hF _ _ _ _ _ _ _ _ hfr _ hB _ hrv
        have hF : ws = w0 := hF
        subst hF
        obtain ⟨x, x1, x2, x3⟩ := z4 env rv hB hrv
        exact ⟨x, x1, Or.inr ⟨h9.1, by omega, fun r k hr => hfr r k (hn9 hr)⟩⟩
    next => cases hent
end HC
