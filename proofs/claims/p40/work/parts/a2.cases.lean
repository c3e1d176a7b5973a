/-! ===== the law: its cases ===== -/
def hl_E : yR := (List.range 226).map (fun r => (r, 0, 9999))
def hl_Q : yQ := (-2147483648, 2147483647, none)
def hl_B : yB := (7, [hl_Q, hl_Q, hl_Q, hl_Q, hl_Q, hl_Q, (0, 3066, none)])
def hl_zl : List (Nat × yV) := [(0, .inr (.inl (some 0))), (1, .inr (.inl (some 1))), (2, .inr (.inl (some 210))), (3, .inr (.inl (some 226))), (4, .inl (.inr (0, 0)))]
def hl_z : yS := (hl_zl, [], [], (true, [], []))
def hl_run (pc : Nat) : Option (List (yB × Nat × yS)) := y_run yP0 yTY zTF hl_E yRC yGR (y_ct hl_CT yTY yRC hl_E 40) 3000 true 40 ym_law (fun pc _ _ => pc == 1347) true hl_B pc hl_z
def hl_lc (zl : List (Nat × yV)) : Bool := (match y_get zl 0, y_get zl 1, y_get zl 2 with
  | some (.inr (.inl (some 0))), some (.inr (.inl (some 1))), some (.inr (.inl (some 210))) => true
  | _, _, _ => false) && (match y_get zl 3, y_get zl 4 with
  | some (.inr (.inl (some 226))), some (.inl (.inr (0, 0))) => true
  | _, _ => false)
def hl_end (q : yB × Nat × yS) : Bool := q.2.1 == 1347 && (hl_lc q.2.2.1 && (q.2.2.2.1.isEmpty && (q.2.2.2.2.2.1 && (q.2.2.2.2.2.2.1.isEmpty && q.2.2.2.2.2.2.2.isEmpty))))
def hl_ck (pc : Nat) : Bool := match hl_run pc with
  | some es => es.all hl_end
  | none => false
theorem hl_k0 : hl_ck 220 = true := by decide +kernel
theorem hl_k1 : hl_ck 293 = true := by decide +kernel
theorem hl_k2 : hl_ck 318 = true := by decide +kernel
theorem hl_k3 : hl_ck 331 = true := by decide +kernel
theorem hl_k4 : hl_ck 344 = true := by decide +kernel
theorem hl_k7 : hl_ck 461 = true := by decide +kernel
theorem hl_k8 : hl_ck 486 = true := by decide +kernel
theorem hl_k9 : hl_ck 523 = true := by decide +kernel
theorem hl_k10 : hl_ck 560 = true := by decide +kernel
theorem hl_k11 : hl_ck 597 = true := by decide +kernel
theorem hl_k12 : hl_ck 622 = true := by decide +kernel
theorem hl_k13 : hl_ck 647 = true := by decide +kernel
theorem hl_k14 : hl_ck 660 = true := by decide +kernel
theorem hl_k15 : hl_ck 697 = true := by decide +kernel
theorem hl_k16 : hl_ck 710 = true := by decide +kernel
theorem hl_k17 : hl_ck 771 = true := by decide +kernel
theorem hl_k18 : hl_ck 784 = true := by decide +kernel
theorem hl_k19 : hl_ck 809 = true := by decide +kernel
theorem hl_k20 : hl_ck 834 = true := by decide +kernel
theorem hl_k21 : hl_ck 859 = true := by decide +kernel
theorem hl_k22 : hl_ck 896 = true := by decide +kernel
theorem hl_k23 : hl_ck 933 = true := by decide +kernel
theorem hl_k24 : hl_ck 958 = true := by decide +kernel
theorem hl_k25 : hl_ck 971 = true := by decide +kernel
theorem hl_k26 : hl_ck 996 = true := by decide +kernel
theorem hl_k27 : hl_ck 1033 = true := by decide +kernel
theorem hl_k28 : hl_ck 1046 = true := by decide +kernel
theorem hl_k29 : hl_ck 1059 = true := by decide +kernel
theorem hl_k30 : hl_ck 1072 = true := by decide +kernel
theorem hl_k31 : hl_ck 1085 = true := by decide +kernel
theorem hl_k32 : hl_ck 1098 = true := by decide +kernel
theorem hl_k33 : hl_ck 1135 = true := by decide +kernel
theorem hl_k34 : hl_ck 1184 = true := by decide +kernel
theorem hl_k35 : hl_ck 1209 = true := by decide +kernel
theorem hl_k36 : hl_ck 1234 = true := by decide +kernel
theorem hl_k37 : hl_ck 1247 = true := by decide +kernel
theorem hl_k38 : hl_ck 1272 = true := by decide +kernel
theorem hl_k39 : hl_ck 1297 = true := by decide +kernel
theorem hl_k40 : hl_ck 1322 = true := by decide +kernel
