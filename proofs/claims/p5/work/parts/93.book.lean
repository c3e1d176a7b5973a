/-! ===== book ===== -/
def hk_CT : List (List (List yCon)) := y_cputl (y_cputl (y_cput yCTabV 175 hk_next) 259 ((List.range 41).map hk_lK)) 260 ((List.range 5).map hk_dK)
def hk_L (a b c : Int × Int) : List (Nat × yP) := [(0, .inr (some 210)), (1, .inl a), (2, .inl (-2147483648, 2147483647)), (3, .inl b), (4, .inl c)]
def hk_hd (a : Nat × Nat × Nat) : yCut := match a.1 with
  | 0 => (0, [(0, .inr (some 210)), (1, .inl (-2147483648, 2147483647))], [], [], true)
  | 1 => (39, [(0, .inr (some 210)), (1, .inl (0, 1))], [((209, 36), (Int.ofNat a.2.1, Int.ofNat a.2.1), none)], [], true)
  | 2 => (120, hk_L (0, 1) (-1, -1) (Int.ofNat a.2.1, Int.ofNat a.2.1), [], [], true)
  | 3 => (120, hk_L (0, 1) (0, 40) (0, 41), [], [], true)
  | 4 => (120, hk_L (0, 1) (-1, -1) (Int.ofNat a.2.1, Int.ofNat a.2.1), ((209, 36), (Int.ofNat a.2.1 + 1, 40), none) :: hk_fs a.2.1 a.2.2, [], true)
  | 5 => (120, hk_L (0, 1) (-1, -1) (Int.ofNat a.2.1, Int.ofNat a.2.1), [((209, 36), (0, Int.ofNat a.2.1), none)], [], true)
  | 6 => (205, [(0, .inr (some 210)), (1, .inl (0, 1)), (2, .inl (-2147483648, 2147483647)), (3, .inl (-1, 40))], [], [], true)
  | 7 => (259, [(0, .inr (some 210)), (1, .inl (1, 1)), (3, .inl (-1, 40)), (4, .inl (0, 0))], [((209, 23), (1, 8), none)], [], true)
  | _ => (259, [(0, .inr (some 210)), (1, .inl (1, 1)), (3, .inl (-1, 40)), (4, .inl (Int.ofNat a.2.2, Int.ofNat a.2.2))], [((209, 23), (Int.ofNat a.2.1, Int.ofNat a.2.1), none)], [], true)
def hk_E (a : Nat × Nat × Nat) : yR := match a.1 with
  | 0 => [(209, 0, 0), (209, 2, 5), (209, 11, 15), (209, 36, 36)]
  | 1 => [(213, 3 * a.2.1, 3 * a.2.1 + 2), (209, 4, 4), (209, 11, 16), (209, 18, 18), (209, 36, 36), (217, 0, 55), (219, 0, 3)]
  | 3 => []
  | 4 => [(211, 62, 117), (219, 0, 1)]
  | 5 => []
  | 6 => [(219, 2, 3), (209, 38, 38), (209, 23, 23), (216, 0, 447), (211, 62, 117)]
  | _ => if a.2.2 < 56 then [(216, 56 * (a.2.1 - 1) + a.2.2, 56 * (a.2.1 - 1) + a.2.2)] else []
def hk_eff : yR := [(209, 0, 0), (209, 2, 5), (209, 11, 16), (209, 18, 18), (209, 23, 23), (209, 36, 36), (209, 38, 38), (211, 62, 117), (213, 0, 134), (216, 0, 447), (217, 0, 55), (219, 0, 3)]
def hk_run (cps : List Nat) (a : Nat × Nat × Nat) : Option (List (yB × Nat × yS)) := hq_runV 261 hk_CT 8 8 400 (hk_E a) yRC cps (hk_hd a)
def hk_hit (q : yB × Nat × yS) (a : Nat × Nat × Nat) : Bool := y_hit yTYV 0 q.1 q.2.1 q.2.2 (hk_hd a)
def hk_rt (q : yB × Nat × yS) : Bool := q.2.2.2.2.2.1 && (match yP0 261 with
  | some M => hq_ret M q (-2147483648) 2147483647
  | none => false)
def hk_c0 : Bool := match hk_run [39] (0, 0, 0) with
  | some es => es.all (fun q => hk_rt q || hk_hit q (1, 0, 0))
  | none => false
def hk_c1 (n : Nat) : Bool := match hk_run [39, 120] (1, n, 0) with
  | some es => es.all (fun q => hk_rt q || ((hk_hit q (2, 0, 0) && hq_in q (hq_k q 209 36) (Int.ofNat n) (Int.ofNat n)) || (decide (n < 40) && (hk_hit q (1, n + 1, 0) && (List.range 5).any (fun f => (hk_fs n f).all (fun F => y_fm yTYV q.1 q.2.2.2.2.1 F))))))
  | none => false
def hk_c3 : Bool := match hk_run [205] (3, 0, 0) with
  | some es => es.all (fun q => hk_hit q (6, 0, 0))
  | none => false
def hk_c4 (i f : Nat) : Bool := match hk_run [120] (4, i, f) with
  | some es => es.all (fun q => hk_hit q (3, 0, 0) || hk_hit q (2, i + 1, 0))
  | none => false
def hk_c5 (i : Nat) : Bool := match hk_run [205] (5, i, 0) with
  | some es => es.all (fun q => hk_hit q (6, 0, 0))
  | none => false
def hk_c6 : Bool := match hk_run [259] (6, 0, 0) with
  | some es => es.all (fun q => hk_rt q || hk_hit q (7, 0, 0))
  | none => false
def hk_c8 (u i : Nat) : Bool := match hk_run [259] (8, u, i) with
  | some es => es.all (fun q => if i < 56 then hk_hit q (8, u, i + 1) else hk_rt q)
  | none => false
theorem hk_k0 : hk_c0 = true := by decide +kernel
theorem hk_k1_0 : ((List.range 9).all fun i => hk_c1 (0 + i)) = true := by decide +kernel
theorem hk_k1_9 : ((List.range 9).all fun i => hk_c1 (9 + i)) = true := by decide +kernel
theorem hk_k1_18 : ((List.range 9).all fun i => hk_c1 (18 + i)) = true := by decide +kernel
theorem hk_k1_27 : ((List.range 9).all fun i => hk_c1 (27 + i)) = true := by decide +kernel
theorem hk_k1_36 : ((List.range 5).all fun i => hk_c1 (36 + i)) = true := by decide +kernel
theorem hk_k1 : ((List.range 41).all fun i => hk_c1 i) = true := by
  refine List.all_eq_true.mpr (fun c hc => ?_)
  have hc := List.mem_range.mp hc
  by_cases h0 : c < 9
  · have := List.all_eq_true.mp hk_k1_0 (c - 0) (List.mem_range.mpr (by omega))
    rwa [show 0 + (c - 0) = c by omega] at this
  by_cases h9 : c < 18
  · have := List.all_eq_true.mp hk_k1_9 (c - 9) (List.mem_range.mpr (by omega))
    rwa [show 9 + (c - 9) = c by omega] at this
  by_cases h18 : c < 27
  · have := List.all_eq_true.mp hk_k1_18 (c - 18) (List.mem_range.mpr (by omega))
    rwa [show 18 + (c - 18) = c by omega] at this
  by_cases h27 : c < 36
  · have := List.all_eq_true.mp hk_k1_27 (c - 27) (List.mem_range.mpr (by omega))
    rwa [show 27 + (c - 27) = c by omega] at this
  have := List.all_eq_true.mp hk_k1_36 (c - 36) (List.mem_range.mpr (by omega))
  rwa [show 36 + (c - 36) = c by omega] at this
theorem hk_k3 : hk_c3 = true := by decide +kernel
theorem hk_k4_0 : ((List.range 5).all fun i => (List.range 5).all fun f => hk_c4 (0 + i) f) = true := by decide +kernel
theorem hk_k4_5 : ((List.range 5).all fun i => (List.range 5).all fun f => hk_c4 (5 + i) f) = true := by decide +kernel
theorem hk_k4_10 : ((List.range 5).all fun i => (List.range 5).all fun f => hk_c4 (10 + i) f) = true := by decide +kernel
theorem hk_k4_15 : ((List.range 5).all fun i => (List.range 5).all fun f => hk_c4 (15 + i) f) = true := by decide +kernel
theorem hk_k4_20 : ((List.range 5).all fun i => (List.range 5).all fun f => hk_c4 (20 + i) f) = true := by decide +kernel
theorem hk_k4_25 : ((List.range 5).all fun i => (List.range 5).all fun f => hk_c4 (25 + i) f) = true := by decide +kernel
theorem hk_k4_30 : ((List.range 5).all fun i => (List.range 5).all fun f => hk_c4 (30 + i) f) = true := by decide +kernel
theorem hk_k4_35 : ((List.range 5).all fun i => (List.range 5).all fun f => hk_c4 (35 + i) f) = true := by decide +kernel
theorem hk_k4 : ((List.range 40).all fun i => (List.range 5).all fun f => hk_c4 i f) = true := by
  refine List.all_eq_true.mpr (fun c hc => ?_)
  have hc := List.mem_range.mp hc
  by_cases h0 : c < 5
  · have := List.all_eq_true.mp hk_k4_0 (c - 0) (List.mem_range.mpr (by omega))
    rwa [show 0 + (c - 0) = c by omega] at this
  by_cases h5 : c < 10
  · have := List.all_eq_true.mp hk_k4_5 (c - 5) (List.mem_range.mpr (by omega))
    rwa [show 5 + (c - 5) = c by omega] at this
  by_cases h10 : c < 15
  · have := List.all_eq_true.mp hk_k4_10 (c - 10) (List.mem_range.mpr (by omega))
    rwa [show 10 + (c - 10) = c by omega] at this
  by_cases h15 : c < 20
  · have := List.all_eq_true.mp hk_k4_15 (c - 15) (List.mem_range.mpr (by omega))
    rwa [show 15 + (c - 15) = c by omega] at this
  by_cases h20 : c < 25
  · have := List.all_eq_true.mp hk_k4_20 (c - 20) (List.mem_range.mpr (by omega))
    rwa [show 20 + (c - 20) = c by omega] at this
  by_cases h25 : c < 30
  · have := List.all_eq_true.mp hk_k4_25 (c - 25) (List.mem_range.mpr (by omega))
    rwa [show 25 + (c - 25) = c by omega] at this
  by_cases h30 : c < 35
  · have := List.all_eq_true.mp hk_k4_30 (c - 30) (List.mem_range.mpr (by omega))
    rwa [show 30 + (c - 30) = c by omega] at this
  have := List.all_eq_true.mp hk_k4_35 (c - 35) (List.mem_range.mpr (by omega))
  rwa [show 35 + (c - 35) = c by omega] at this
theorem hk_k5 : ((List.range 41).all hk_c5) = true := by decide +kernel
theorem hk_k6 : hk_c6 = true := by decide +kernel
theorem hk_k8_1 : ((List.range 57).all fun i => hk_c8 1 i) = true := by decide +kernel
theorem hk_k8_2 : ((List.range 57).all fun i => hk_c8 2 i) = true := by decide +kernel
theorem hk_k8_3 : ((List.range 57).all fun i => hk_c8 3 i) = true := by decide +kernel
theorem hk_k8_4 : ((List.range 57).all fun i => hk_c8 4 i) = true := by decide +kernel
theorem hk_k8_5 : ((List.range 57).all fun i => hk_c8 5 i) = true := by decide +kernel
theorem hk_k8_6 : ((List.range 57).all fun i => hk_c8 6 i) = true := by decide +kernel
theorem hk_k8_7 : ((List.range 57).all fun i => hk_c8 7 i) = true := by decide +kernel
theorem hk_k8_8 : ((List.range 57).all fun i => hk_c8 8 i) = true := by decide +kernel
theorem hk_k8a : ((List.range 4).all fun u => (List.range 57).all fun i => hk_c8 (u + 1) i) = true := by
  refine List.all_eq_true.mpr (fun c hc => ?_)
  match c, List.mem_range.mp hc with
  | 0, _ => exact hk_k8_1
  | 1, _ => exact hk_k8_2
  | 2, _ => exact hk_k8_3
  | 3, _ => exact hk_k8_4
theorem hk_k8b : ((List.range 4).all fun u => (List.range 57).all fun i => hk_c8 (u + 5) i) = true := by
  refine List.all_eq_true.mpr (fun c hc => ?_)
  match c, List.mem_range.mp hc with
  | 0, _ => exact hk_k8_5
  | 1, _ => exact hk_k8_6
  | 2, _ => exact hk_k8_7
  | 3, _ => exact hk_k8_8
