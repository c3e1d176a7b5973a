/-! ===== behind ===== -/
def hb_CT : List (List (List yCon)) := y_cput (y_cput yCTabV 265 hn_Kn) 264 hn_Kj
def hb_hd (a : Nat × Nat) : yCut := match a.1 with
  | 0 => (0, [(0, .inr (some 210))], [((209, 44), (1, 1), none)], [], true)
  | 1 => (4, [(0, .inr (some 210))], [((209, 44), (1, 1), none)], [], true)
  | 2 => (45, [(0, .inr (some 210))], [((209, 44), (1, 1), none), ((209, 11), (1, 1), none)], [], true)
  | 3 => (45, [(0, .inr (some 210))], [((209, 44), (1, 1), none), ((209, 11), (1, 1), none), ((209, 42), (Int.ofNat a.2, Int.ofNat a.2), none)], [], true)
  | _ => (98, [(0, .inr (some 210))], [((209, 44), (1, 1), none), ((209, 42), (0, 44), none), ((209, 11), (0, 4), none), ((209, 4), (0, 940), none)], [], true)
def hb_E (a : Nat × Nat) : yR := match a.1 with
  | 3 => [(220, a.2, a.2), (209, 42, 42), (209, 44, 44), (209, 4, 4), (209, 11, 14)]
  | 4 => [(209, 42, 43), (209, 4, 4), (209, 11, 16)]
  | _ => hn_eff
def hb_eff : yR := [(209, 4, 4), (209, 11, 16), (209, 40, 40), (209, 42, 44), (213, 0, 134), (220, 0, 44)]
def hb_c0 : Bool := match yP0 268, hq_runV 268 hb_CT 6 6 400 (hb_E (0, 0)) hs_RC [4] (hb_hd (0, 0)) with
  | some _, some es => es.all (fun q => y_hit yTYV 0 q.1 q.2.1 q.2.2 (hb_hd (1, 0)))
  | _, _ => false
def hb_c1 : Bool := match yP0 268, hq_runV 268 hb_CT 6 6 400 (hb_E (1, 0)) hs_RC [45, 98] (hb_hd (1, 0)) with
  | some _, some es => es.all (fun q => y_hit yTYV 0 q.1 q.2.1 q.2.2 (hb_hd (2, 0)) || y_hit yTYV 0 q.1 q.2.1 q.2.2 (hb_hd (4, 0)))
  | _, _ => false
def hb_c3 (t : Nat) : Bool := match yP0 268, hq_runV 268 hb_CT 6 6 400 (hb_E (3, t)) hs_RC [] (hb_hd (3, t)) with
  | some M, some es => es.all (fun q => hq_ret M q 1 1 && (hq_in q (hq_k q 209 42) (Int.ofNat t + 1) (Int.ofNat t + 1) && (hq_in q (hq_k q 209 44) 0 0 && hq_in q (hq_k q 220 t) 21 22)))
  | _, _ => false
/-- more than the elder one by so much -/
def hq_ge (q : yB × Nat × yS) (a b : Option yI) (c : Int) : Bool := match a, b with
  | some t, some t' => y_gx q.1 t' t c
  | _, _ => false
def hb_c4 : Bool := match yP0 268, hq_runV 268 hb_CT 6 6 400 (hb_E (4, 0)) hs_RC [] (hb_hd (4, 0)) with
  | some M, some es => es.all (fun q => hq_ret M q 0 0 || (hq_ret M q 1 1 && (hq_ad (hq_k0 (hb_hd (4, 0)) 209 42) (hq_k q 209 42) (-1) && (hq_in q (hq_k0 (hb_hd (4, 0)) 209 11) 3 3 && (hq_ge q (hq_k0 (hb_hd (4, 0)) 209 4) (hq_k q 209 4) 1 || (hq_in q (hq_k q 209 11) 0 0 || hq_in q (hq_k q 209 11) 4 4))))))
  | _, _ => false
theorem hb_k0 : hb_c0 = true := by decide +kernel
theorem hb_k1 : hb_c1 = true := by decide +kernel
theorem hb_k3 : ((List.range 40).all hb_c3) = true := by decide +kernel
theorem hb_k4 : hb_c4 = true := by decide +kernel
theorem hq_ge_cell {h : yCut} {q : yB × Nat × yS} {r k : Nat} {c : Int} {e0 env : List Int} {ws ws' : va_W} (hc : hq_ge q (hq_k0 h r k) (hq_k q r k) c = true) (hk0 : y_k e0 ws (y_cst (0, []) h).2.2.2.1) (hk : y_k env ws' q.2.2.2.2.1) (he : e0 <+: env) (hB : y_B q.1 env) : ∃ x x' : Int32, y_at ws r k = some x ∧ y_at ws' r k = some x' ∧ x.toInt + c ≤ x'.toInt := by
  unfold hq_ge at hc
  split at hc
  next t t' h1 h2 =>
    obtain ⟨x, x1, x2⟩ := y_kcell hk0 h1
    obtain ⟨x', y1, y2⟩ := y_kcell hk h2
    exact ⟨x, x', x1, y1, y_gx_ok hB hc y2 (y_e_mono he x2)⟩
  next => cases hc
/-- a cell at the head, as the end's bounds say -/
theorem hq_in0_cell {h : yCut} {q : yB × Nat × yS} {r k : Nat} {lo hi : Int} {e0 env : List Int} {ws : va_W} (hc : hq_in q (hq_k0 h r k) lo hi = true) (hk0 : y_k e0 ws (y_cst (0, []) h).2.2.2.1) (he : e0 <+: env) (hB : y_B q.1 env) : ∃ x : Int32, y_at ws r k = some x ∧ lo ≤ x.toInt ∧ x.toInt ≤ hi := by
  obtain ⟨t, h1, h2⟩ := hq_in_ok hc
  obtain ⟨x, x1, x2⟩ := y_kcell hk0 h1
  exact ⟨x, x1, h2 env _ hB (y_e_mono he x2)⟩
