/-! ===== sentence ===== -/
def hz_CT : List (List (List yCon)) := y_cput (y_cput (y_cput hb_CT 268 hb_K1) 268 hb_K2) 267 ho_K
def hz_L (g : Int) : List (Nat × yP) := [(0, .inr (some 210)), (1, .inl (g, g))]
def hz_hd (a : Nat × Nat × Nat) : yCut := match a.1 with
  | 0 => (0, [(0, .inr (some 210))], [], [], false)
  | 1 => (48, hz_L 1, [], [], false)
  | 2 => (48, hz_L 1, [((209, 44), (0, 0), none), ((209, 41), (0, 20), none)], [], true)
  | 3 => (48, hz_L 1, [((209, 44), (1, 1), none), ((209, 11), (0, 3), none), ((209, 4), (0, 940), none)], [], true)
  | 4 => (48, hz_L 1, [((209, 44), (1, 1), none), ((209, 11), (0, 0), none)], [], true)
  | 5 => (48, hz_L 1, [((209, 44), (1, 1), none), ((209, 11), (4, 4), none)], [], true)
  | 6 => (70, hz_L 1, [((209, 44), (1, 1), none)], [], true)
  | 7 => (76, hz_L 1, [((209, 44), (1, 1), none), ((209, 42), (0, 44), none)], [], true)
  | 8 => (48, hz_L 0, [((209, 40), (0, 44), none)], [], true)
  | 10 => (145, [(0, .inr (some 210)), (1, .inl (0, 0)), (2, .inl (Int.ofNat a.2.1, Int.ofNat a.2.1))], [], [], true)
  | 11 => (145, [(0, .inr (some 210)), (1, .inl (0, 0)), (2, .inl (Int.ofNat a.2.1, Int.ofNat a.2.1))], [((209, 40), (Int.ofNat (a.2.1 / 3 + 1), 44), none)], [], true)
  | 12 => (145, [(0, .inr (some 210)), (1, .inl (0, 0)), (2, .inl (Int.ofNat (3 * a.2.1), Int.ofNat (3 * a.2.1)))], [((209, 40), (Int.ofNat a.2.1, Int.ofNat a.2.1), none)], [], true)
  | _ => (48, hz_L 1, [], [], false)
def hz_E (a : Nat × Nat × Nat) : yR := match a.1 with
  | 0 => [(209, 0, 0), (209, 2, 5), (209, 11, 15), (209, 40, 44)]
  | 2 => ho_eff
  | 6 => hn_eff
  | 7 => [(209, 15, 16)]
  | 8 => [(211, 118, 118)]
  | 11 => [(211, 119 + a.2.1, 119 + a.2.1)]
  | 12 => []
  | _ => hb_eff
def hz_eff : yR := [(209, 0, 0), (209, 2, 5), (209, 11, 16), (209, 18, 18), (209, 40, 44), (213, 0, 134), (220, 0, 44), (211, 118, 298)]
def hz_run (cps : List Nat) (a : Nat × Nat × Nat) : Option (List (yB × Nat × yS)) := hq_runV 269 hz_CT 7 7 400 (hz_E a) hs_RC cps (hz_hd a)
def hz_hit (q : yB × Nat × yS) (a : Nat × Nat × Nat) : Bool := y_hit yTYV 0 q.1 q.2.1 q.2.2 (hz_hd a)
def hz_rt (q : yB × Nat × yS) : Bool := match yP0 269 with
  | some M => hq_ret M q (-2147483648) 2147483647
  | none => false
def hz_c0 : Bool := match hz_run [48] (0, 0, 0) with
  | some es => es.all (fun q => hz_hit q (1, 0, 0) && (hq_in q (hq_k q 209 40) 0 0 && (hq_in q (hq_k q 209 41) 0 0 && (hq_in q (hq_k q 209 42) 0 0 && hq_in q (hq_k q 209 44) 0 0))))
  | none => false
def hz_c2 : Bool := match hz_run [48] (2, 0, 0) with
  | some es => es.all (fun q => hz_rt q || (hz_hit q (1, 0, 0) && (q.2.2.2.2.2.1 && hq_ge q (hq_k0 (hz_hd (2, 0, 0)) 209 41) (hq_k q 209 41) 1)))
  | none => false
def hz_c3 : Bool := match hz_run [48, 70] (3, 0, 0) with
  | some es => es.all (fun q => hz_rt q || (hz_hit q (6, 0, 0) || (hz_hit q (2, 0, 0) || (hz_hit q (4, 0, 0) || (hz_hit q (5, 0, 0) || (hz_hit q (1, 0, 0) && (q.2.2.2.2.2.1 && hq_ge q (hq_k0 (hz_hd (3, 0, 0)) 209 4) (hq_k q 209 4) 1)))))))
  | none => false
def hz_c4 : Bool := match hz_run [48, 70] (4, 0, 0) with
  | some es => es.all (fun q => hz_hit q (6, 0, 0))
  | none => false
def hz_c5 : Bool := match hz_run [48, 70] (5, 0, 0) with
  | some es => es.all (fun q => hz_rt q)
  | none => false
def hz_c6 : Bool := match hz_run [76] (6, 0, 0) with
  | some es => es.all (fun q => hz_hit q (7, 0, 0))
  | none => false
def hz_c7 : Bool := match hz_run [48] (7, 0, 0) with
  | some es => es.all (fun q => hz_rt q || hz_hit q (8, 0, 0))
  | none => false
def hz_c8 : Bool := match hz_run [145] (8, 0, 0) with
  | some es => es.all (fun q => hz_hit q (10, 0, 0) && hq_ad (hq_k q 211 118) (hq_k q 209 40) 0)
  | none => false
def hz_c11 (i : Nat) : Bool := match hz_run [145] (11, i, 0) with
  | some es => es.all (fun q => hz_hit q (10, i + 1, 0) && hq_ad (hq_k q 211 (119 + i)) (hq_k q 213 i) 0)
  | none => false
def hz_c12 (c : Nat) : Bool := match hz_run [] (12, c, 0) with
  | some es => es.all (fun q => hz_rt q)
  | none => false
theorem hz_k0 : hz_c0 = true := by decide +kernel
theorem hz_k2 : hz_c2 = true := by decide +kernel
theorem hz_k3 : hz_c3 = true := by decide +kernel
theorem hz_k4 : hz_c4 = true := by decide +kernel
theorem hz_k5 : hz_c5 = true := by decide +kernel
theorem hz_k6 : hz_c6 = true := by decide +kernel
theorem hz_k7 : hz_c7 = true := by decide +kernel
theorem hz_k8 : hz_c8 = true := by decide +kernel
theorem hz_k11 : ((List.range 120).all hz_c11) = true := by decide +kernel
theorem hz_k12 : ((List.range 41).all hz_c12) = true := by decide +kernel
