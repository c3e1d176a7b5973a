/-! ===== book: its lines, what it does ===== -/
def y_cputl (CT : List (List (List yCon))) (j : Nat) (Ks : List yCon) : List (List (List yCon)) := CT.set (j / 16) ((CT.getD (j / 16) []).set (j % 16) (Ks ++ (CT.getD (j / 16) []).getD (j % 16) []))
theorem y_cputl_in {CT : List (List (List yCon))} {j j' : Nat} {Ks : List yCon} {K' : yCon} (h : K' ∈ y_cget (y_cputl CT j Ks) j') : (j' = j ∧ K' ∈ Ks) ∨ K' ∈ y_cget CT j' := by
  unfold y_cget y_cputl at h
  rw [List.getElem?_set] at h
  by_cases h1 : j / 16 = j' / 16
  · rw [if_pos h1] at h
    by_cases h2 : j / 16 < CT.length
    · rw [if_pos h2] at h
      dsimp only at h
      have hg : CT.getD (j / 16) [] = CT[j / 16] := by rw [List.getD_eq_getElem?_getD, List.getElem?_eq_getElem h2]; rfl
      rw [hg, List.getElem?_set] at h
      by_cases h3 : j % 16 = j' % 16
      · rw [if_pos h3] at h
        by_cases h4 : j % 16 < CT[j / 16].length
        · rw [if_pos h4] at h
          dsimp only at h
          have hg2 : CT[j / 16].getD (j % 16) [] = CT[j / 16][j % 16] := by rw [List.getD_eq_getElem?_getD, List.getElem?_eq_getElem h4]; rfl
          rw [hg2] at h
          rcases List.mem_append.mp h with h | h
          · exact Or.inl ⟨by omega, h⟩
          · refine Or.inr ?_
            unfold y_cget
            rw [← h1, List.getElem?_eq_getElem h2]
            dsimp only
            rw [← h3, List.getElem?_eq_getElem h4]
            exact h
        · rw [if_neg h4] at h
          cases h
      · rw [if_neg h3] at h
        refine Or.inr ?_
        unfold y_cget
        rw [← h1, List.getElem?_eq_getElem h2]
        exact h
    · rw [if_neg h2] at h
      cases h
  · rw [if_neg h1] at h
    exact Or.inr h
/-- the five forms of a line -/
def hk_fs (j f : Nat) : List yF := match f with
  | 0 => [((213, 3 * j), (0, 0), none), ((213, 3 * j + 1), (0, 7), none), ((213, 3 * j + 2), (0, 7), none)]
  | 1 => [((213, 3 * j), (1, 1), none), ((213, 3 * j + 1), (0, 5), none), ((213, 3 * j + 2), (0, 7), none)]
  | 2 => [((213, 3 * j), (2, 2), none), ((213, 3 * j + 1), (0, 7), none), ((213, 3 * j + 2), (0, 5), none)]
  | 3 => [((213, 3 * j), (3, 3), none), ((213, 3 * j + 1), (0, 7), none)]
  | _ => [((213, 3 * j), (4, 4), none), ((213, 3 * j + 1), (1, 60), none)]
def hk_next : yCon := (yk_242.1, yk_242.2.1, yk_242.2.2.1, [(none, [], false)], yk_242.2.2.2.2.1, yk_242.2.2.2.2.2.1, yk_242.2.2.2.2.2.2.1, [])
def hk_takes : yCon := (yk_248.1, yk_248.2.1, yk_248.2.2.1, [(some (.inl (1, 1)), [((209, 18), (1, 60), none)], false), (some (.inl (0, 0)), [], false)], yk_248.2.2.2.2.1, yk_248.2.2.2.2.2.1, yk_248.2.2.2.2.2.2.1, [])
def hk_find (K : yCon) (hi : Int) : yCon := (K.1, K.2.1, K.2.2.1, [(some (.inl (-1, hi)), [], false)], K.2.2.2.2.1, K.2.2.2.2.2.1, K.2.2.2.2.2.2.1, [])
def hk_wK : yCon := (177, [.inr (some 210), .inr none], [], [(some (.inl (0, 1)), [], false)], [], 1, false, [])
theorem hk_wc : y_ckE yP0 yTYV zTF yRC yGR yCTabV hk_wK [] 100 = true := by decide +kernel
def hk_CT0 : List (List (List yCon)) := y_cputl (y_cput (y_cput (y_cput yCTabV 175 hk_next) 181 hk_takes) 177 hk_wK) 183 [hk_find yk_261 7, hk_find yk_265 5]
def hk_lE (n : Nat) : yR := [(213, 3 * n, 3 * n + 2), (209, 4, 4), (209, 11, 16), (209, 18, 18)]
def hk_lK (n : Nat) : yCon := (259, [.inr (some 210)], [((209, 36), (Int.ofNat n, Int.ofNat n), none)], (some (.inl (0, 0)), [], false) :: (if n < 40 then (List.range 5).map (fun f => (some (.inl (1, 1)), hk_fs n f, false)) else []), hk_lE n, 4, false, [])
def hk_dA (f : Nat) : List yP := match f with
  | 0 => [.inl (0, 0), .inl (0, 7), .inl (0, 7)]
  | 1 => [.inl (1, 1), .inl (0, 5), .inl (0, 7)]
  | 2 => [.inl (2, 2), .inl (0, 7), .inl (0, 5)]
  | 3 => [.inl (3, 3), .inl (0, 7), .inl (-2147483648, 2147483647)]
  | _ => [.inl (4, 4), .inl (1, 60), .inl (-2147483648, 2147483647)]
def hk_dK (f : Nat) : yCon := (260, .inr (some 210) :: hk_dA f, [], [(some (.inl (0, 41)), [], false)], [(211, 62, 117)], 7, false, [])
theorem hk_lc0 : ((List.range 14).all fun n => y_ckE yP0 yTYV zTF yRC yGR hk_CT0 (hk_lK n) [] 400) = true := by decide +kernel
theorem hk_lc1 : ((List.range 14).all fun n => y_ckE yP0 yTYV zTF yRC yGR hk_CT0 (hk_lK (14 + n)) [] 400) = true := by decide +kernel
theorem hk_lc2 : ((List.range 13).all fun n => y_ckE yP0 yTYV zTF yRC yGR hk_CT0 (hk_lK (28 + n)) [] 400) = true := by decide +kernel
theorem hk_dc : ((List.range 5).all fun f => y_ckE yP0 yTYV zTF yRC yGR yCTabV (hk_dK f) [] 400) = true := by decide +kernel
