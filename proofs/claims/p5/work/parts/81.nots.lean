/-! ===== nots, joins ===== -/
def hn_hd (xl : List (Nat × yP)) (a : Nat × Nat × Nat) : yCut := match a.1 with
  | 0 => (0, (0, .inr (some 210)) :: xl, [((209, 44), (1, 1), none)], [], true)
  | 1 => (0, (0, .inr (some 210)) :: xl, [((209, 44), (1, 1), none), ((209, 40), (Int.ofNat a.2.1, Int.ofNat a.2.1), none), ((209, 42), (0, 44), none)], [], true)
  | _ => (0, (0, .inr (some 210)) :: xl, [((209, 44), (1, 1), none)], [], false)
def hn_E (a : Nat × Nat × Nat) : yR := [(209, 40, 40), (209, 42, 43), (213, 3 * a.2.1, 3 * a.2.1 + 2)]
def hn_eff : yR := [(209, 40, 40), (209, 42, 43), (213, 0, 134)]
/-- the top of the stack, when it has been taken off -/
def hn_top (h : yCut) (q : yB × Nat × yS) : Option yI := match hq_k q 209 42 with
  | some t => y_kget q.2.2.2.2.1 220 t
  | none => none
def hn_ck (jm : Nat) (xl : List (Nat × yP)) (lo hi : Int) (c : Nat) : Bool := match yP0 jm, hq_runV jm yCTabV 5 5 300 (hn_E (1, c, 0)) hs_RC [0] (hn_hd xl (1, c, 0)) with
  | some M, some es => es.all (fun q => if (y_hit yTYV 0 q.1 q.2.1 q.2.2 (hn_hd xl (2, 0, 0))) = true then hq_ad (hq_k0 (hn_hd xl (1, c, 0)) 209 42) (hq_k q 209 42) (-1) && (hq_in q (hq_k q 209 40) (Int.ofNat c + 1) (Int.ofNat c + 1) && (hq_in q (hq_k q 213 (3 * c)) lo hi && hq_in q (hn_top (hn_hd xl (1, c, 0)) q) lo hi))
    else q.2.2.2.2.2.1 && (q.2.2.2.2.2.2.1.isEmpty && (q.2.2.2.2.2.2.2.isEmpty && (match y_res M.2.2.2.2.1 M.2.2.2.1 q.1 q.2.1 q.2.2.2.1 with
      | some none => true
      | _ => false))))
  | _, _ => false
theorem hn_cn : ((List.range 41).all (hn_ck 265 [] 20 20)) = true := by decide +kernel
theorem hn_cj : ((List.range 41).all (hn_ck 264 [(1, .inl (21, 22))] 21 22)) = true := by decide +kernel
