/-! ===== operand ===== -/
def ho_L (lo : Int) : List (Nat × yP) := [(0, .inr (some 210)), (1, .inl (0, 1)), (2, .inl (0, 1)), (3, .inl (lo, 7))]
def ho_hd (a : Nat × Nat) : yCut := match a.1 with
  | 0 => (0, [(0, .inr (some 210))], [((209, 44), (0, 0), none), ((209, 41), (0, 20), none)], [], true)
  | 1 => (84, ho_L (-1), [], [], false)
  | 2 => (84, ho_L (-1), [((209, 42), (Int.ofNat a.2, Int.ofNat a.2), none)], [], false)
  | 3 => (126, ho_L 0, [], [], false)
  | _ => (126, ho_L 0, [((209, 40), (Int.ofNat a.2, Int.ofNat a.2), none)], [], false)
def ho_E (a : Nat × Nat) : yR := match a.1 with
  | 0 => [(209, 41, 41), (209, 4, 4), (209, 11, 16)]
  | 2 => [(220, a.2, a.2), (209, 42, 43)]
  | _ => [(209, 44, 44), (209, 40, 40), (213, 3 * a.2, 3 * a.2 + 2), (209, 4, 4), (209, 11, 16), (209, 18, 18)]
def ho_eff : yR := [(209, 4, 4), (209, 11, 16), (209, 18, 18), (209, 40, 44), (213, 0, 134), (220, 0, 44)]
def ho_c0 : Bool := match yP0 267, hq_runV 267 yCTabV 5 5 400 (ho_E (0, 0)) hs_RC [84, 126] (ho_hd (0, 0)) with
  | some M, some es => es.all (fun q => hq_ret M q 0 0 || (hq_ad (hq_k0 (ho_hd (0, 0)) 209 41) (hq_k q 209 41) 1 && (y_hit yTYV 0 q.1 q.2.1 q.2.2 (ho_hd (1, 0)) || y_hit yTYV 0 q.1 q.2.1 q.2.2 (ho_hd (3, 0)))))
  | _, _ => false
def ho_c2 (t : Nat) : Bool := match yP0 267, hq_runV 267 yCTabV 5 5 400 (ho_E (2, t)) hs_RC [] (ho_hd (2, t)) with
  | some M, some es => es.all (fun q => hq_ret M q 1 1 && (hq_in q (hq_k q 209 42) (Int.ofNat t + 1) (Int.ofNat t + 1) && (hq_in q (hq_k q 220 t) 20 20 || hq_in q (hq_k q 220 t) 23 23)))
  | _, _ => false
def ho_c4 (c : Nat) : Bool := match yP0 267, hq_runV 267 yCTabV 5 5 400 (ho_E (4, c)) hs_RC [] (ho_hd (4, c)) with
  | some M, some es => es.all (fun q => hq_ret M q 0 0 || (hq_ret M q 1 1 && (hq_in q (hq_k q 209 40) (Int.ofNat c + 1) (Int.ofNat c + 1) && (hq_in q (hq_k q 209 44) 1 1 && hq_in q (hq_k q 213 (3 * c)) 0 19))))
  | _, _ => false
theorem ho_k0 : ho_c0 = true := by decide +kernel
theorem ho_k2 : ((List.range 39).all ho_c2) = true := by decide +kernel
theorem ho_k4a : ((List.range 10).all fun i => ho_c4 i) = true := by decide +kernel
theorem ho_k4b : ((List.range 10).all fun i => ho_c4 (10 + i)) = true := by decide +kernel
theorem ho_k4c : ((List.range 10).all fun i => ho_c4 (20 + i)) = true := by decide +kernel
theorem ho_k4d : ((List.range 9).all fun i => ho_c4 (30 + i)) = true := by decide +kernel
theorem ho_k4 : ((List.range 39).all ho_c4) = true := by
  refine List.all_eq_true.mpr (fun c hc => ?_)
  have hc := List.mem_range.mp hc
  by_cases h1 : c < 10
  · exact List.all_eq_true.mp ho_k4a c (List.mem_range.mpr h1)
  · by_cases h2 : c < 20
    · have := List.all_eq_true.mp ho_k4b (c - 10) (List.mem_range.mpr (by omega))
      rwa [show 10 + (c - 10) = c by omega] at this
    · by_cases h3 : c < 30
      · have := List.all_eq_true.mp ho_k4c (c - 20) (List.mem_range.mpr (by omega))
        rwa [show 20 + (c - 20) = c by omega] at this
      · have := List.all_eq_true.mp ho_k4d (c - 30) (List.mem_range.mpr (by omega))
        rwa [show 30 + (c - 30) = c by omega] at this
