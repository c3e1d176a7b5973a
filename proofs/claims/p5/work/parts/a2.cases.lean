/-! ===== the law: its cases ===== -/
def hl_E : yR := (List.range 226).map (fun r => (r, 0, 9999))
def hl_Q : yQ := (-2147483648, 2147483647, none)
def hl_B : yB := (7, [hl_Q, hl_Q, hl_Q, hl_Q, hl_Q, hl_Q, (0, 3066, none)])
def hl_zl : List (Nat × yV) := [(0, .inr (.inl (some 0))), (1, .inr (.inl (some 1))), (2, .inr (.inl (some 210))), (3, .inr (.inl (some 226))), (4, .inl (.inr (0, 0)))]
def hl_z : yS := (hl_zl, [], [], (true, [], []))
def hl_lc (zl : List (Nat × yV)) : Bool := (match y_get zl 0, y_get zl 1, y_get zl 2 with
  | some (.inr (.inl (some 0))), some (.inr (.inl (some 1))), some (.inr (.inl (some 210))) => true
  | _, _, _ => false) && (match y_get zl 3, y_get zl 4 with
  | some (.inr (.inl (some 226))), some (.inl (.inr (0, 0))) => true
  | _, _ => false)
def hl_end (q : yB × Nat × yS) : Bool := q.2.1 == 1347 && (hl_lc q.2.2.1 && (q.2.2.2.1.isEmpty && (q.2.2.2.2.2.1 && (q.2.2.2.2.2.2.1.isEmpty && q.2.2.2.2.2.2.2.isEmpty))))
