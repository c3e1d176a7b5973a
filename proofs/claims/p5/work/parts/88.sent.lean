section HZ
variable {EX : (Nat → Prop) → State → Heap → Prop} {l : Launch} {kc : Nat → ClassId} {D : va_G} {xb : Nat} {ad : Nat → Option Nat}
abbrev hz_S : Type := Nat × Nat × Nat
def hz_D (a : hz_S) : Prop := a.1 ≤ 9 ∨ a.1 = 10 ∧ a.2.1 ≤ 120 ∨ a.1 = 11 ∧ a.2.1 < 120 ∨ a.1 = 12 ∧ a.2.1 ≤ 40
def hz_r (a : hz_S) : Nat := match a.1 with
  | 0 => 200000
  | 1 => 1000 + 4000 * a.2.1 + 3 * a.2.2 + 6
  | 2 => 1000 + 4000 * a.2.1 + 1
  | 3 => 1000 + 4000 * a.2.1 + 3 * a.2.2 + 5
  | 4 => 303
  | 5 => 303
  | 6 => 302
  | 7 => 301
  | 8 => 300
  | 10 => 2 * (125 - a.2.1) + 1
  | 11 => 2 * (125 - a.2.1)
  | _ => 0
def hz_O (ws : va_W) (O : Nat) : Prop := ∀ o, hs_cell ws 209 41 o → 20 ≤ O + o
def hz_Pp (ws : va_W) (P : Nat) : Prop := ∀ p, hs_cell ws 209 4 p → 941 ≤ P + p
def hz_cp (ws : va_W) (i : Nat) : Prop := ∃ c, hs_cell ws 209 40 c ∧ hs_cell ws 211 118 c ∧ i ≤ 3 * c ∧ c ≤ 40 ∧ ∀ j, j < i → y_at ws 211 (119 + j) = y_at ws 213 j
def hz_F (_ : va_W) (a : hz_S) (_ : Array Slot) (ws : va_W) : Prop := match a.1 with
  | 0 => w_WF ws 211 118
  | 1 => w_WF ws 211 118 ∧ hs_I ws ∧ hz_O ws a.2.1 ∧ hz_Pp ws a.2.2
  | 2 => w_WF ws 211 118 ∧ hz_O ws a.2.1
  | 3 => w_WF ws 211 118 ∧ hz_O ws a.2.1 ∧ hz_Pp ws a.2.2
  | 8 => True
  | 9 => False
  | 10 => hz_cp ws a.2.1
  | 11 => hz_cp ws a.2.1 ∧ ∀ c, hs_cell ws 209 40 c → a.2.1 < 3 * c
  | 12 => hz_cp ws (3 * a.2.1)
  | _ => w_WF ws 211 118
def hz_P (_ : va_W) (rv : Option Value) (u : va_W) : Prop := (∃ x : Int32, rv = some (.int x)) ∧ w_WF u 211 118
theorem hz_WF {E : yR} (h : hq_free E 211 118 298 = true) {ws ws' : va_W} (hw : y_w kc ad yTYV ws) (hf : y_fr E ws ws') (hs : w_WF ws 211 118) : w_WF ws' 211 118 := w_WF_same (fun k h1 h2 => hq_free_ok h hf h1 (by omega)) (w_cntV hw).1 hs
theorem hz_rt_ok {q : yB × Nat × yS} (h : hz_rt q = true) : ∃ rz, y_res ym_X12_sentence.2.2.2.2.1 ym_X12_sentence.2.2.2.1 q.1 q.2.1 q.2.2.2.1 = some rz ∧ q.2.2.2.2.2.2.1 = [] ∧ q.2.2.2.2.2.2.2 = [] ∧ ∀ (env : List Int) (rv : Option Value), y_B q.1 env → z_L (y_v env ad) rz.toList rv.toList → ∃ x : Int32, rv = some (.int x) := by
  unfold hz_rt at h
  rw [show yP0 269 = some ym_X12_sentence from rfl] at h
  dsimp only at h
  obtain ⟨rz, z1, z2, z3, z4⟩ := hq_ret_ok (ad := ad) h
  exact ⟨rz, z1, z2, z3, fun env rv hB hrv => by obtain ⟨x, x1, _⟩ := z4 env rv hB hrv; exact ⟨x, x1⟩⟩
/-- an end that answers, what is said staying in order -/
theorem hz_out {a : hz_S} (hE : hq_free (hz_E a) 211 118 298 = true) (hw : ∀ w0 ls ws, hz_F w0 a ls ws → w_WF ws 211 118) {q : yB × Nat × yS} (h : hz_rt q = true) : ∃ rz, y_res ym_X12_sentence.2.2.2.2.1 ym_X12_sentence.2.2.2.1 q.1 q.2.1 q.2.2.2.1 = some rz ∧ q.2.2.2.2.2.2.1 = [] ∧ q.2.2.2.2.2.2.2 = [] ∧ ∀ (w0 ws ws' : va_W) (ls : Array Slot) (rv : Option Value) (e0 env : List Int), hz_F w0 a ls ws → ((hz_hd a).2.2.2.2 = true → hs_I ws) → (q.2.2.2.2.2.1 = true → hs_I ws') → y_l e0 ad ym_X12_sentence.2.2.1 (y_cst (0, []) (hz_hd a)).2.1 ls → y_k e0 ws (y_cst (0, []) (hz_hd a)).2.2.2.1 → e0 <+: env → y_w kc ad yTYV ws → y_w kc ad yTYV ws' → y_Go yGR ws' → y_fr (hz_E a) ws ws' → y_fr hz_eff w0 ws' → y_B q.1 env → y_k env ws' q.2.2.2.2.1 → z_L (y_v env ad) rz.toList rv.toList → hz_P w0 rv ws' := by
  obtain ⟨rz, z1, z2, z3, z4⟩ := hz_rt_ok (ad := ad) h
  refine ⟨rz, z1, z2, z3, ?_⟩
  intro w0 ws ws' ls rv e0 env hF _ _ _ _ _ hw0 _ _ hfr _ hB _ hrv
  exact ⟨z4 env rv hB hrv, hz_WF hE hw0 hfr (hw w0 ls ws hF)⟩
abbrev hz_go (kc : Nat → ClassId) (ad : Nat → Option Nat) (a : hz_S) : Prop := y_go1 kc yP0 yTYV zTF yGR hs_RC hs_I hz_CT ad ym_X12_sentence 400 7 7 hz_D hz_hd hz_E hz_r hz_eff hz_F hz_P a
theorem hz_run_eq {cps : List Nat} {a : hz_S} : hz_run cps a = y_run yP0 yTYV zTF (hz_E a) hs_RC yGR (y_ct hz_CT yTYV hs_RC (hz_E a) 7) 400 false 7 ym_X12_sentence (fun pc _ _ => cps.contains pc) true (y_cst (0, []) (hz_hd a)).1 (hz_hd a).1 (y_cst (0, []) (hz_hd a)).2 := rfl
theorem hz_go0 {v : Nat × Nat} : hz_go kc ad (0, v) := by
  have hck := hz_k0
  unfold hz_c0 at hck
  rw [hz_run_eq] at hck
  split at hck
  next es hes =>
    refine ⟨_, es, hes, (show y_sub (hz_E (0, 0, 0)) hz_eff = true by decide +kernel), fun q hq => Or.inl ?_⟩
    have h9 := List.all_eq_true.mp hck q hq
    simp only [Bool.and_eq_true] at h9
    obtain ⟨q0, q1, q2, q3, q4⟩ := h9
    refine ⟨(1, 20, 941), Or.inl (show 1 ≤ 9 by decide), (show 1000 + 4000 * 20 + 3 * 941 + 6 < 200000 by decide), q0, ?_⟩
    intro w0 ws ws' ls ls' e0 env hF _ _ _ hk0 he hw hw' hfr hB _ hk
    obtain ⟨x1, a1, a2, a3⟩ := hq_in_cell q1 hk hB
    obtain ⟨x2, b1, b2, b3⟩ := hq_in_cell q2 hk hB
    obtain ⟨x3, c1, c2, c3⟩ := hq_in_cell q3 hk hB
    obtain ⟨x4, d1, d2, d3⟩ := hq_in_cell q4 hk hB
    exact ⟨hz_WF (E := hz_E (0, 0, 0)) (by decide) hw hfr hF, ⟨0, 0, 0, 0, 0, ⟨x1, a1, by omega⟩, ⟨x3, c1, by omega⟩, ⟨x2, b1, by omega⟩, ⟨x4, d1, by omega⟩, rfl, Nat.le_refl _, by decide, by decide⟩, fun o _ => (show 20 ≤ 20 + o by omega), fun p _ => (show 941 ≤ 941 + p by omega)⟩
  next => cases hck
theorem hz_go2 {O v : Nat} : hz_go kc ad (2, O, v) := by
  have hck := hz_k2
  unfold hz_c2 at hck
  rw [hz_run_eq] at hck
  split at hck
  next es hes =>
    refine ⟨_, es, hes, (show y_sub ho_eff hz_eff = true by decide +kernel), fun q hq => ?_⟩
    have h9 := List.all_eq_true.mp hck q hq
    rw [Bool.or_eq_true] at h9
    rcases h9 with h9 | h9
    · exact Or.inr (hz_out (a := (2, O, v)) (show hq_free ho_eff 211 118 298 = true by decide) (fun _ _ _ h => h.1) h9)
    · simp only [Bool.and_eq_true] at h9
      obtain ⟨q0, q1, q2⟩ := h9
      have hgo : ∀ (w0 ws ws' : va_W) (ls : Array Slot) (e0 env : List Int), hz_F w0 (2, O, v) ls ws → y_k e0 ws (y_cst (0, []) (hz_hd (2, O, v))).2.2.2.1 → e0 <+: env → y_w kc ad yTYV ws → y_w kc ad yTYV ws' → y_fr ho_eff ws ws' → y_B q.1 env → y_k env ws' q.2.2.2.2.1 → w_WF ws' 211 118 ∧ ∀ o, hs_cell ws' 209 41 o → 21 ≤ O + o ∧ o ≤ 20 := by
        intro w0 ws ws' ls e0 env hF hk0 he hw hw' hfr hB hk
        refine ⟨hz_WF (E := ho_eff) (by decide) hw hfr hF.1, fun o ho => ?_⟩
        obtain ⟨x, x', a1, a2, a3⟩ := hq_ge_cell (h := hz_hd (2, 0, 0)) q2 hk0 hk he hB
        have h1 := hs_cell_eq ho a2
        obtain ⟨o0, o1, o2⟩ := hs_nat (r := 209) (k := 41) hw (q := (0, 20)) (by decide +kernel) (by decide)
        obtain ⟨o3, o4, o5⟩ := hs_nat (r := 209) (k := 41) hw' (q := (0, 20)) (by decide +kernel) (by decide)
        have h2 := hs_cell_eq o1 a1
        have h3 := hF.2 o0 o1
        have h4 := hs_one o4 ho
        dsimp only at h3 o5
        omega
      cases O with
      | zero =>
        refine Or.inl ⟨(9, 0, 0), Or.inl (show 9 ≤ 9 by decide), (show 0 < 1000 + 4000 * 0 + 1 by decide), q0, ?_⟩
        intro w0 ws ws' ls ls' e0 env hF _ _ _ hk0 he hw hw' hfr hB _ hk
        obtain ⟨o3, o4, o5⟩ := hs_nat (r := 209) (k := 41) hw' (q := (0, 20)) (by decide +kernel) (by decide)
        have := (hgo w0 ws ws' ls e0 env hF hk0 he hw hw' hfr hB hk).2 o3 o4
        omega
      | succ O =>
        refine Or.inl ⟨(1, O, 941), Or.inl (show 1 ≤ 9 by decide), (show 1000 + 4000 * O + 3 * 941 + 6 < 1000 + 4000 * (O + 1) + 1 by omega), q0, ?_⟩
        intro w0 ws ws' ls ls' e0 env hF _ hri' _ hk0 he hw hw' hfr hB _ hk
        obtain ⟨g1, g2⟩ := hgo w0 ws ws' ls e0 env hF hk0 he hw hw' hfr hB hk
        exact ⟨g1, hri' q1, fun o ho => (show 20 ≤ O + o by have := g2 o ho; omega), fun p _ => (show 941 ≤ 941 + p by omega)⟩
  next => cases hck
theorem hz_go3 {O P : Nat} : hz_go kc ad (3, O, P) := by
  have hck := hz_k3
  unfold hz_c3 at hck
  rw [hz_run_eq] at hck
  split at hck
  next es hes =>
    refine ⟨_, es, hes, (show y_sub hb_eff hz_eff = true by decide +kernel), fun q hq => ?_⟩
    have h9 := List.all_eq_true.mp hck q hq
    rw [Bool.or_eq_true] at h9
    have hS : ∀ {w0 ws ws' : va_W} {ls : Array Slot}, hz_F w0 (3, O, P) ls ws → y_w kc ad yTYV ws → y_fr hb_eff ws ws' → w_WF ws' 211 118 ∧ hz_O ws' O := fun {w0 ws ws' ls} hF hw hfr => ⟨hz_WF (E := hb_eff) (by decide) hw hfr hF.1, fun o ho => hF.2.1 o (hs_cell_fr (hq_free_ok (E := hb_eff) (a := 41) (b := 41) (by decide) hfr (Nat.le_refl _) (Nat.le_refl _)).symm ho)⟩
    rcases h9 with h9 | h9
    · exact Or.inr (hz_out (a := (3, O, P)) (show hq_free hb_eff 211 118 298 = true by decide) (fun _ _ _ h => h.1) h9)
    · left
      rw [Bool.or_eq_true] at h9
      rcases h9 with h9 | h9
      · refine ⟨(6, 0, 0), Or.inl (show 6 ≤ 9 by decide), (show 302 < 1000 + 4000 * O + 3 * P + 5 by omega), h9, ?_⟩
        intro w0 ws ws' ls ls' e0 env hF _ _ _ _ _ hw _ hfr _ _ _
        exact (hS hF hw hfr).1
      · rw [Bool.or_eq_true] at h9
        rcases h9 with h9 | h9
        · refine ⟨(2, O, 0), Or.inl (show 2 ≤ 9 by decide), (show 1000 + 4000 * O + 1 < 1000 + 4000 * O + 3 * P + 5 by omega), h9, ?_⟩
          intro w0 ws ws' ls ls' e0 env hF _ _ _ _ _ hw _ hfr _ _ _
          exact hS hF hw hfr
        · rw [Bool.or_eq_true] at h9
          rcases h9 with h9 | h9
          · refine ⟨(4, 0, 0), Or.inl (show 4 ≤ 9 by decide), (show 303 < 1000 + 4000 * O + 3 * P + 5 by omega), h9, ?_⟩
            intro w0 ws ws' ls ls' e0 env hF _ _ _ _ _ hw _ hfr _ _ _
            exact (hS hF hw hfr).1
          · rw [Bool.or_eq_true] at h9
            rcases h9 with h9 | h9
            · refine ⟨(5, 0, 0), Or.inl (show 5 ≤ 9 by decide), (show 303 < 1000 + 4000 * O + 3 * P + 5 by omega), h9, ?_⟩
              intro w0 ws ws' ls ls' e0 env hF _ _ _ _ _ hw _ hfr _ _ _
              exact (hS hF hw hfr).1
            · simp only [Bool.and_eq_true] at h9
              obtain ⟨q0, q1, q2⟩ := h9
              have hgo : ∀ (w0 ws ws' : va_W) (ls : Array Slot) (e0 env : List Int), hz_F w0 (3, O, P) ls ws → y_k e0 ws (y_cst (0, []) (hz_hd (3, O, P))).2.2.2.1 → e0 <+: env → y_w kc ad yTYV ws → y_w kc ad yTYV ws' → y_B q.1 env → y_k env ws' q.2.2.2.2.1 → ∀ p, hs_cell ws' 209 4 p → 942 ≤ P + p ∧ p ≤ 940 := by
                intro w0 ws ws' ls e0 env hF hk0 he hw hw' hB hk p hp
                obtain ⟨x, x', a1, a2, a3⟩ := hq_ge_cell (h := hz_hd (3, 0, 0)) q2 hk0 hk he hB
                have h1 := hs_cell_eq hp a2
                obtain ⟨o0, o1, o2⟩ := hs_nat (r := 209) (k := 4) hw (q := (0, 940)) (by decide +kernel) (by decide)
                obtain ⟨o3, o4, o5⟩ := hs_nat (r := 209) (k := 4) hw' (q := (0, 940)) (by decide +kernel) (by decide)
                have h2 := hs_cell_eq o1 a1
                have h3 := hF.2.2 o0 o1
                have h4 := hs_one o4 hp
                dsimp only at h3 o5
                omega
              cases P with
              | zero =>
                refine ⟨(9, 0, 0), Or.inl (show 9 ≤ 9 by decide), (show 0 < 1000 + 4000 * O + 3 * 0 + 5 by omega), q0, ?_⟩
                intro w0 ws ws' ls ls' e0 env hF _ _ _ hk0 he hw hw' hfr hB _ hk
                obtain ⟨o3, o4, o5⟩ := hs_nat (r := 209) (k := 4) hw' (q := (0, 940)) (by decide +kernel) (by decide)
                have := hgo w0 ws ws' ls e0 env hF hk0 he hw hw' hB hk o3 o4
                omega
              | succ P =>
                refine ⟨(1, O, P), Or.inl (show 1 ≤ 9 by decide), (show 1000 + 4000 * O + 3 * P + 6 < 1000 + 4000 * O + 3 * (P + 1) + 5 by omega), q0, ?_⟩
                intro w0 ws ws' ls ls' e0 env hF _ hri' _ hk0 he hw hw' hfr hB _ hk
                obtain ⟨g1, g2⟩ := hS hF hw hfr
                exact ⟨g1, hri' q1, g2, fun p hp => (show 941 ≤ P + p by have := hgo w0 ws ws' ls e0 env hF hk0 he hw hw' hB hk p hp; omega)⟩
  next => cases hck
theorem hz_go4 {v : Nat × Nat} : hz_go kc ad (4, v) := by
  have hck := hz_k4
  unfold hz_c4 at hck
  rw [hz_run_eq] at hck
  split at hck
  next es hes =>
    refine ⟨_, es, hes, (show y_sub hb_eff hz_eff = true by decide +kernel), fun q hq => Or.inl ⟨(6, 0, 0), Or.inl (show 6 ≤ 9 by decide), (show 302 < 303 by decide), List.all_eq_true.mp hck q hq, ?_⟩⟩
    intro w0 ws ws' ls ls' e0 env hF _ _ _ _ _ hw _ hfr _ _ _
    exact hz_WF (E := hb_eff) (by decide) hw hfr hF
  next => cases hck
theorem hz_go5 {v : Nat × Nat} : hz_go kc ad (5, v) := by
  have hck := hz_k5
  unfold hz_c5 at hck
  rw [hz_run_eq] at hck
  split at hck
  next es hes =>
    exact ⟨_, es, hes, (show y_sub hb_eff hz_eff = true by decide +kernel), fun q hq => Or.inr (hz_out (a := (5, v)) (show hq_free hb_eff 211 118 298 = true by decide) (fun _ _ _ h => h) (List.all_eq_true.mp hck q hq))⟩
  next => cases hck
theorem hz_go6 {v : Nat × Nat} : hz_go kc ad (6, v) := by
  have hck := hz_k6
  unfold hz_c6 at hck
  rw [hz_run_eq] at hck
  split at hck
  next es hes =>
    refine ⟨_, es, hes, (show y_sub hn_eff hz_eff = true by decide +kernel), fun q hq => Or.inl ⟨(7, 0, 0), Or.inl (show 7 ≤ 9 by decide), (show 301 < 302 by decide), List.all_eq_true.mp hck q hq, ?_⟩⟩
    intro w0 ws ws' ls ls' e0 env hF _ _ _ _ _ hw _ hfr _ _ _
    exact hz_WF (E := hn_eff) (by decide) hw hfr hF
  next => cases hck
theorem hz_go7 {v : Nat × Nat} : hz_go kc ad (7, v) := by
  have hck := hz_k7
  unfold hz_c7 at hck
  rw [hz_run_eq] at hck
  split at hck
  next es hes =>
    refine ⟨_, es, hes, (show y_sub [(209, 15, 16)] hz_eff = true by decide +kernel), fun q hq => ?_⟩
    have h9 := List.all_eq_true.mp hck q hq
    rw [Bool.or_eq_true] at h9
    rcases h9 with h9 | h9
    · exact Or.inr (hz_out (a := (7, v)) (show hq_free [(209, 15, 16)] 211 118 298 = true by decide) (fun _ _ _ h => h) h9)
    · refine Or.inl ⟨(8, 0, 0), Or.inl (show 8 ≤ 9 by decide), (show 300 < 301 by decide), h9, ?_⟩
      intro w0 ws ws' ls ls' e0 env hF _ _ _ _ _ hw _ hfr _ _ _
      trivial
  next => cases hck
/-- two cells hold the same -/
theorem hq_eq_cell {q : yB × Nat × yS} {r k r' k' : Nat} {env : List Int} {ws' : va_W} (hc : hq_ad (hq_k q r k) (hq_k q r' k') 0 = true) (hk : y_k env ws' q.2.2.2.2.1) : ∃ x : Int32, y_at ws' r k = some x ∧ y_at ws' r' k' = some x := by
  obtain ⟨t, t', h1, h2, h3⟩ := hq_ad_ok hc
  obtain ⟨x, x1, x2⟩ := y_kcell hk h1
  obtain ⟨x', y1, y2⟩ := y_kcell hk h2
  have h4 := h3 env _ _ x2 y2
  have : x' = x := y_i32 (by omega)
  subst this
  exact ⟨x', x1, y1⟩
theorem hz_go8 {v : Nat × Nat} : hz_go kc ad (8, v) := by
  have hck := hz_k8
  unfold hz_c8 at hck
  rw [hz_run_eq] at hck
  split at hck
  next es hes =>
    refine ⟨_, es, hes, (show y_sub [(211, 118, 118)] hz_eff = true by decide +kernel), fun q hq => ?_⟩
    have h9 := List.all_eq_true.mp hck q hq
    rw [Bool.and_eq_true] at h9
    refine Or.inl ⟨(10, 0, 0), Or.inr (Or.inl ⟨rfl, (show 0 ≤ 120 by decide)⟩), (show 2 * (125 - 0) + 1 < 300 by decide), h9.1, ?_⟩
    intro w0 ws ws' ls ls' e0 env hF hri _ _ _ _ hw _ hfr _ _ hk
    obtain ⟨c, t, o, w, d, h1, h2, h3, h4, h5, h6, h7, h8⟩ := hri rfl
    obtain ⟨x, x1, x2⟩ := hq_eq_cell h9.2 hk
    have h1' : hs_cell ws' 209 40 c := hs_cell_fr (hq_free_ok (E := [(211, 118, 118)]) (a := 40) (b := 40) (by decide) hfr (Nat.le_refl _) (Nat.le_refl _)) h1
    exact ⟨c, h1', ⟨x, x1, hs_cell_eq h1' x2⟩, Nat.zero_le _, by omega, fun j hj => absurd hj (Nat.not_lt_zero _)⟩
  next => cases hck
theorem hz_go11 {i v : Nat} (hi : i < 120) : hz_go kc ad (11, i, v) := by
  have hck := List.all_eq_true.mp hz_k11 i (List.mem_range.mpr hi)
  unfold hz_c11 at hck
  rw [hz_run_eq] at hck
  split at hck
  next es hes =>
    refine ⟨_, es, hes, ?_, fun q hq => ?_⟩
    · show y_sub [(211, 119 + i, 119 + i)] hz_eff = true
      unfold y_sub y_ina hz_eff
      simp
      omega
    have h9 := List.all_eq_true.mp hck q hq
    rw [Bool.and_eq_true] at h9
    refine Or.inl ⟨(10, i + 1, 0), Or.inr (Or.inl ⟨rfl, (show i + 1 ≤ 120 by omega)⟩), (show 2 * (125 - (i + 1)) + 1 < 2 * (125 - i) by omega), h9.1, ?_⟩
    intro w0 ws ws' ls ls' e0 env hF hri _ _ _ _ hw _ hfr _ _ hk
    obtain ⟨⟨c, h1, h2, h3, h4, h5⟩, h6⟩ := hF
    dsimp only at h3 h5 h6
    obtain ⟨x, x1, x2⟩ := hq_eq_cell h9.2 hk
    have hs : ∀ r k, (r = 211 → k ≠ 119 + i) → y_at ws' r k = y_at ws r k := fun r k e1 => hfr r k (y_in_no (fun p hp e => by
      have := List.mem_singleton.mp hp
      subst this
      have := e1 (show (211 : Nat) = r from e).symm
      dsimp only; omega))
    refine ⟨c, hs_cell_fr (hs _ _ (fun h => absurd h (by decide))) h1, hs_cell_fr (hs _ _ (fun _ => by omega)) h2, (show i + 1 ≤ 3 * c by have := h6 c h1; omega), h4, fun j hj => ?_⟩
    dsimp only at hj
    by_cases hji : j = i
    · subst hji
      rw [x1, x2]
    · rw [hs 211 _ (fun _ => by omega), hs 213 _ (fun h => absurd h (by decide))]
      exact h5 j (by omega)
  next => cases hck
theorem w_D_pre {f : Nat → Option Int32} : ∀ {n d : Nat}, w_D f n = some d → ∀ i, i ≤ n → ∃ e, w_D f i = some e
  | 0, d, h, i, hi => ⟨d, by rw [show i = 0 by omega]; exact h⟩
  | n + 1, d, h, i, hi => by
    by_cases h1 : i = n + 1
    · subst h1; exact ⟨d, h⟩
    · unfold w_D at h
      split at h
      next e x h2 h3 => exact w_D_pre h2 i (by omega)
      next => cases h
theorem hz_go12 {c v : Nat} (hc : c ≤ 40) : hz_go kc ad (12, c, v) := by
  have hck := List.all_eq_true.mp hz_k12 c (List.mem_range.mpr (by omega))
  unfold hz_c12 at hck
  rw [hz_run_eq] at hck
  split at hck
  next es hes =>
    refine ⟨_, es, hes, rfl, fun q hq => Or.inr ?_⟩
    obtain ⟨rz, z1, z2, z3, z4⟩ := hz_rt_ok (ad := ad) (List.all_eq_true.mp hck q hq)
    refine ⟨rz, z1, z2, z3, ?_⟩
    intro w0 ws ws' ls rv e0 env hF hri _ _ hk0 _ hw0 _ _ hfr _ hB _ hrv
    refine ⟨z4 env rv hB hrv, ?_⟩
    obtain ⟨c0, h1, h2, h3, h4, h5⟩ := hF
    obtain ⟨c1, t, o, w, d, g1, g2, g3, g4, g5, _⟩ := hri rfl
    have hcc : c0 = c := hs_k0c (h := hz_hd (12, c, v)) (by unfold hq_k0 y_cst hz_hd; simp [y_mkf, y_f1, y_kget, y_mks, y_mk, y_eqI]) hk0 h1
    have hc1 : c1 = c0 := hs_one g1 h1
    subst hc1 hcc
    have hs : ∀ r k, y_at ws' r k = y_at ws r k := fun r k => hfr r k rfl
    intro n hn i hi
    rw [hs] at hn
    have hn2 := hs_cell_eq h2 hn
    obtain ⟨e, he⟩ := w_D_pre g5 i (by omega)
    refine ⟨e, ?_⟩
    rw [← he]
    refine w_D_same (fun j hj => ?_)
    have := h5 (3 * j) (show 3 * j < 3 * c1 by omega)
    unfold w_at hs_rd
    rw [hs, show 118 + 1 + 3 * j = 119 + 3 * j by omega]
    exact this
  next => cases hck
end HZ
