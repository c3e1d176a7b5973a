/-! ===== the reader of SENTENCES has the LAW's names ===== -/
def nTr_7 : List yC := [.inl (9, [.inr (.inl [some 5]), .inl ((.negSucc 2147483647), (.ofNat 2147483647)), .inl ((.negSucc 2147483647), (.ofNat 2147483647)), .inl ((.negSucc 2147483647), (.ofNat 2147483647)), .inl ((.ofNat 0), (.ofNat 8)), .inr (.inl [some 114]), .inr (.inl [some 115]), .inr (.inl [some 116]), .inr (.inl [some 117]), .inr (.inl [some 118]), .inr (.inl [some 119]), .inr (.inl [some 120]), .inr (.inl [some 121])]),
  .inr (.inl (0, [(8, (.ofNat 0), (.ofNat 30))])),
  .inr (.inl (0, [(8, (.negSucc 2147483647), (.ofNat 2147483647))])),
  .inr (.inl (0, [(8, (.ofNat 0), (.ofNat 7))])),
  .inr (.inl (0, [(8, (.negSucc 2147483647), (.ofNat 2147483647))])),
  .inr (.inl (0, [(8, (.ofNat 0), (.ofNat 7))])),
  .inr (.inl (0, [(6, (.negSucc 2147483647), (.ofNat 2147483647))])),
  .inr (.inl (0, [(6, (.negSucc 2147483647), (.ofNat 2147483647))])),
  .inr (.inl (0, [(6, (.ofNat 0), (.ofNat 0))])),
  .inl (7, [.inr (.inl [some 123]), .inr (.inl [some 124]), .inr (.inl [some 125]), .inr (.inl [some 126]), .inl ((.ofNat 0), (.ofNat 40)), .inl ((.ofNat 0), (.ofNat 20))]),
  .inr (.inl (0, [(40, (.ofNat 0), (.ofNat 2147483647))])),
  .inr (.inl (0, [(40, (.ofNat 0), (.ofNat 62))])),
  .inr (.inl (0, [(40, (.negSucc 0), (.ofNat 999))])),
  .inr (.inl (0, [(40, (.ofNat 0), (.ofNat 255))])),
  .inl (8, [.inr (.inl [some 2]), .inr (.inl [some 128]), .inr (.inl [some 13])]),
  .inl (7, [.inr (.inl [some 129]), .inr (.inl [some 130]), .inr (.inl [some 131]), .inr (.inl [some 132]), .inl ((.ofNat 0), (.ofNat 40)), .inl ((.ofNat 0), (.ofNat 20))])]
def nTY : List (List yC) := [yTr_0, yTr_1, yTr_2, yTr_3, yTr_4, yTr_5, yTr_6, nTr_7, yTr_8, yTr_9, yTr_10, yTr_11, yTr_12, yTr_13, yTr_14]
theorem n_Ta : ∀ i : Nat, i ≠ 7 → nTY[i]? = yTY[i]?
  | 0, _ => rfl
  | 1, _ => rfl
  | 2, _ => rfl
  | 3, _ => rfl
  | 4, _ => rfl
  | 5, _ => rfl
  | 6, _ => rfl
  | 7, h => absurd rfl h
  | 8, _ => rfl
  | 9, _ => rfl
  | 10, _ => rfl
  | 11, _ => rfl
  | 12, _ => rfl
  | 13, _ => rfl
  | 14, _ => rfl
  | k + 15, _ => rfl
theorem n_Tb : ∀ j : Nat, j ≠ 14 → nTr_7[j]? = yTr_7[j]?
  | 0, _ => rfl
  | 1, _ => rfl
  | 2, _ => rfl
  | 3, _ => rfl
  | 4, _ => rfl
  | 5, _ => rfl
  | 6, _ => rfl
  | 7, _ => rfl
  | 8, _ => rfl
  | 9, _ => rfl
  | 10, _ => rfl
  | 11, _ => rfl
  | 12, _ => rfl
  | 13, _ => rfl
  | 14, h => absurd rfl h
  | 15, _ => rfl
  | k + 16, _ => rfl
theorem n_T {r : Nat} (h : r ≠ 126) : y_T nTY r = y_T yTY r := by
  unfold y_T
  by_cases h7 : r / 16 = 7
  · rw [h7]
    show nTr_7[r % 16]? = yTr_7[r % 16]?
    exact n_Tb _ (by omega)
  · rw [n_Ta _ h7]
/-- such a world is one of the former kind -/
theorem n_w {kc : Nat → ClassId} {ad : Nat → Option Nat} {ws : va_W} (h : y_w kc ad nTY ws) : y_w kc ad yTY ws := fun r c hc => by
  by_cases hr : r = 126
  · subst hr
    obtain ⟨a, e, h1, vs, h2, h3⟩ := h 126 _ (show y_T nTY 126 = some (.inl (8, [.inr (.inl [some 2]), .inr (.inl [some 128]), .inr (.inl [some 13])])) from rfl)
    have hc2 : some (.inl (8, [.inr (.inl [some 2]), .inr (.inl [some 128]), .inr (.inl [some 133, some 13])])) = some c := (show y_T yTY 126 = some (.inl (8, [.inr (.inl [some 2]), .inr (.inl [some 128]), .inr (.inl [some 133, some 13])])) from rfl).symm.trans hc
    cases hc2
    refine ⟨a, e, h1, vs, h2, ?_⟩
    match vs, h3 with
    | [v0, v1, v2], ⟨g0, g1, ⟨o, go, gv⟩, g3⟩ =>
      refine ⟨g0, g1, ⟨o, List.mem_cons_of_mem _ go, gv⟩, g3⟩
  · exact h r c (by rw [n_T hr]; exact hc)
section XNT
variable {EX : (Nat → Prop) → State → Heap → Prop} {l : Launch} {kc : Nat → ClassId} {D : va_G} {xb : Nat} {ad : Nat → Option Nat}
def xr_nno : xPre := fun za _ _ => ∃ s t : Int, za = [xR 13, .inr (.inl s), .inl t]
def xo_nno : xPost := fun za I L rv I' L' => I' = I ∧ L' = L ∧ ∃ s t : Int, za = [xR 13, .inr (.inl s), .inl t] ∧ ((∃ k : Nat, (k : Int) < I 12 3 ∧ L 13 k = s ∧ I 14 k = t ∧ rv = some (.inl (I 15 k)) ∧ 0 ≤ I 15 k ∧ I 15 k ≤ 7) ∨ ((∀ k : Nat, (k : Int) < I 12 3 → ¬ (L 13 k = s ∧ I 14 k = t)) ∧ rv = some (.inl (-1))))
theorem xn_none_ok : x_ctok EX l zTB zNT kc D vwCl xb nTY ad yP0 x_none := fun _ _ _ _ h => by cases h
theorem xn_isSign (hE : z_EX EX) : x_Ok EX l zTB zNT kc D vwCl xb nTY ad yP0 109 0 xr_sign xo_isSign := by
  refine x_meth (M := ym_X10_isSign) hE y_prog 40 rfl (by decide) xn_none_ok (fun za I L ⟨x, h⟩ => by subst h; exact Nat.le_refl 2) (fun za I L ⟨x, h⟩ => ?_)
  subst h
  intro k hk _
  refine And.intro ?_ ?_
  · intro t1
    exact ⟨by decide, rfl, rfl, x, rfl, Or.inr ⟨fun q => t1 (hk.trans q.1), rfl⟩⟩
  · intro t1 v hv _
    refine And.intro ?_ ?_
    · intro t2
      exact ⟨by decide, rfl, rfl, x, rfl, Or.inr ⟨fun q => t2 (hv.trans q.2), rfl⟩⟩
    · intro t2
      exact ⟨by decide, rfl, rfl, x, rfl, Or.inl ⟨hk.symm.trans t1, hv.symm.trans t2, rfl⟩⟩
theorem xn_ref (hE : z_EX EX) : x_Ok EX l zTB zNT kc D vwCl xb nTY ad yP0 106 0 xr_ref xo_ref := by
  refine x_meth (M := ym_X10_refuse) hE y_prog 30 rfl (by decide) xn_none_ok (fun za I L ⟨f, h, _⟩ => by subst h; exact (by decide : 2 ≤ 2)) (fun za I L ⟨f, h, hf⟩ => ?_)
  subst h
  refine And.intro hf ?_
  intro p (hp : p = I 1 4) (bp : 0 ≤ p ∧ p ≤ 940)
  refine And.intro bp ?_
  exact ⟨by decide, f, rfl, rfl, rfl, by rw [hp]⟩
theorem xn_unbl (hE : z_EX EX) : x_Ok EX l zTB zNT kc D vwCl xb nTY ad yP0 101 0 xr_unbl xo_unbl := by
  refine x_loop (M := ym_X10_firstUnblank) hE y_prog 40 rfl (by decide) xn_none_ok (fun za I L ⟨x, h, _⟩ => by subst h; exact (by decide : 2 ≤ 3)) (x_cut1 2) (fun za I L n pc lv sv I' L' => I' = I ∧ L' = L ∧ sv = [] ∧ ∃ x i : Int, za = [xR 2, .inl x] ∧ lv = [(2, .inl i), (0, xR 2), (1, .inl x)] ∧ 0 ≤ i ∧ i ≤ I 1 2 ∧ t_skip (I 2) (I 1 2) i = t_skip (I 2) (I 1 2) x ∧ (n : Int) = I 1 2 - i) (fun za I L ⟨x, h, h0, h1⟩ => ?_) (fun za I L _ n pc lv sv I' L' hc hi => ?_)
  · subst h
    exact ⟨(I 1 2 - x).toNat, [(2, .inl x), (0, xR 2), (1, .inl x)], ⟨rfl, rfl, rfl, trivial⟩, rfl, rfl, rfl, x, x, rfl, rfl, h0, h1, rfl, by omega⟩
  · obtain rfl := x_cut1_ok hc
    obtain ⟨rfl, rfl, rfl, x, i, rfl, rfl, h0, h1, h2, h3⟩ := hi
    intro m (hm : m = I' 1 2) (bm : 0 ≤ m ∧ m ≤ 940)
    refine And.intro ?_ ?_
    · intro t1 z (hz : z = I' 1 2) _
      refine ⟨rfl, rfl, x, rfl, ?_⟩
      rw [← h2, t_skip_end (Or.inl (by omega))]
      exact congrArg (fun q => some (Sum.inl q)) (by omega)
    · intro t1
      have hin : 0 ≤ i ∧ i < 940 := by omega
      have hgo : t_bl (I' 2 i.toNat) → t_skip (I' 2) (I' 1 2) (i + 1) = t_skip (I' 2) (I' 1 2) x := fun hb => by
        rw [← h2]
        exact (t_skip_go (by omega) hb).symm
      refine And.intro hin ?_
      intro c (hc : c = I' 2 i.toNat) _
      refine And.intro ?_ ?_
      · intro t2
        exact Or.inl ⟨by omega, (I' 1 2 - (i + 1)).toNat, [(2, .inl (i + 1)), (0, xR 2), (1, .inl x)], by omega, ⟨rfl, rfl, rfl, trivial⟩, rfl, rfl, rfl, x, i + 1, rfl, rfl, by omega, by omega, hgo (Or.inl (by omega)), by omega⟩
      · intro t2
        refine And.intro hin ?_
        intro c2 (hc2 : c2 = I' 2 i.toNat) _
        refine And.intro ?_ ?_
        · intro t3
          exact Or.inl ⟨by omega, (I' 1 2 - (i + 1)).toNat, [(2, .inl (i + 1)), (0, xR 2), (1, .inl x)], by omega, ⟨rfl, rfl, rfl, trivial⟩, rfl, rfl, rfl, x, i + 1, rfl, rfl, by omega, by omega, hgo (Or.inr (by omega)), by omega⟩
        · intro t3
          refine ⟨rfl, rfl, x, rfl, ?_⟩
          rw [← h2, t_skip_end (Or.inr (by omega))]
theorem xn_stop (hE : z_EX EX) : x_Ok EX l zTB zNT kc D vwCl xb nTY ad yP0 102 0 xr_t xo_stop := by
  refine x_meth (M := ym_X10_stopAtEnd) hE y_prog 60 rfl (by decide) xn_none_ok (fun za I L h => by subst h; exact (by decide : 1 ≤ 1)) (fun za I L h => ?_)
  subst h
  intro a (ha : a = I 1 2) (ba : 0 ≤ a ∧ a ≤ 940) b (hb : b = I 1 3) (bb : 0 ≤ b ∧ b ≤ 900)
  refine And.intro ?_ ?_
  · intro t1
    refine And.intro (by decide) ?_
    intro a2 (ha2 : a2 = I 1 2) (ba2 : 0 ≤ a2 ∧ a2 ≤ 940) b2 (hb2 : b2 = I 1 3) (bb2 : 0 ≤ b2 ∧ b2 ≤ 900)
    refine And.intro ?_ ?_
    · intro t2 a3 (ha3 : a3 = I 1 2) (ba3 : 0 ≤ a3 ∧ a3 ≤ 940)
      refine And.intro ba3 ?_
      intro p (hp : p = a3) _
      refine And.intro (show 0 ≤ p ∧ p ≤ 941 by omega) ?_
      refine ⟨rfl, rfl, ?_⟩
      rw [if_neg (by omega), if_neg (by omega), hp, ha3]
    · intro t2
      exact absurd t2 (by omega)
  · intro t1
    refine And.intro (by decide) ?_
    intro a2 (ha2 : a2 = I 1 2) (ba2 : 0 ≤ a2 ∧ a2 ≤ 940) b2 (hb2 : b2 = I 1 3) (bb2 : 0 ≤ b2 ∧ b2 ≤ 900)
    refine And.intro ?_ ?_
    · intro t2
      exact absurd t2 (by omega)
    · intro t2 a3 (ha3 : a3 = I 1 3) (ba3 : 0 ≤ a3 ∧ a3 ≤ 900)
      refine And.intro (show 0 ≤ a3 ∧ a3 ≤ 940 by omega) ?_
      intro p (hp : p = a3) _
      refine And.intro (show 0 ≤ p ∧ p ≤ 941 by omega) ?_
      refine ⟨rfl, rfl, ?_⟩
      rw [if_pos (by omega), if_pos (by omega), hp, ha3]
set_option maxHeartbeats 2000000 in
theorem xn_run (hE : z_EX EX) : x_Ok EX l zTB zNT kc D vwCl xb nTY ad yP0 103 0 xr_run xo_run := by
  refine x_loop (M := ym_X10_readRun) hE y_prog 80 rfl (by decide) xn_none_ok (fun za I L ⟨h, _⟩ => by subst h; exact (by decide : 1 ≤ 5)) (x_cut3 27 82 133) x_runI (fun za I L ⟨h, hp⟩ => ?_) (fun za I L _ n pc lv sv I' L' hc hi => ?_)
  · subst h
    refine And.intro (by decide) ?_
    intro z (hz : z = I 1 2) (bz : 0 ≤ z ∧ z ≤ 940)
    refine And.intro (show 0 ≤ z ∧ z ≤ 941 by omega) ?_
    intro q (hq : q = I 1 4) _
    refine ⟨(2 * (I 1 2 - I 1 4) + 1).toNat, [(0, xR 2), (1, .inl 0), (2, .inl 0), (3, .inl (I 1 4 + (0 : Nat)))], ⟨rfl, rfl, rfl, ?_, trivial⟩, rfl, x_fi_u (x_fi_u x_fi_refl rfl) rfl, x_fi_u x_fi_refl rfl, rfl, hp, 0, 0, 0, ⟨by omega, rfl, rfl, fun _ _ => rfl, fun _ _ => rfl, fun j hj => absurd hj (Nat.not_lt_zero j), by rw [show I 1 4 + ((0 : Nat) : Int) = I 1 4 by omega]⟩, Or.inl ⟨rfl, rfl, hz, by omega⟩⟩
    show some (Sum.inl q) = some (Sum.inl (I 1 4 + ((0 : Nat) : Int)))
    rw [hq, show I 1 4 + ((0 : Nat) : Int) = I 1 4 by omega]
  · obtain ⟨rfl, hfi, hfl, rfl, hp, k, lt, d, hr, h27 | h82 | h133⟩ := hi
    · obtain ⟨rfl, rfl, h5, hn⟩ := h27
      have hr1 := hr.1
      have hb := t_nl_b (b := I 2) (x := I 1 4) k
      have hl2 : lt = t_nl (I 2) (I 1 4) k := hr.2.1
      have e12 : I' 1 2 = I 1 2 := hfi 1 2 rfl
      intro m (hm : m = I' 1 2) (bm : 0 ≤ m ∧ m ≤ 940)
      refine And.intro ?_ ?_
      · intro t1
        refine ⟨0, [(0, xR 2), (1, .inl lt), (2, .inl d)], by omega, ⟨rfl, rfl, rfl, trivial⟩, rfl, hfi, hfl, rfl, hp, k, lt, d, hr, Or.inr (Or.inr ⟨rfl, rfl, rfl, by omega, ?_⟩)⟩
        rw [hr.2.2.2.2.2.2, t_end_end (Or.inl (by omega))]
      · intro t1
        refine And.intro (show 0 ≤ I 1 4 + (k : Int) ∧ I 1 4 + (k : Int) < 940 by omega) ?_
        intro c (hc : c = I' 2 (I 1 4 + (k : Int)).toNat) _
        have hck : c = I 2 ((I 1 4).toNat + k) := by
          rw [hc, hfi 2 _ rfl, show (I 1 4 + (k : Int)).toNat = (I 1 4).toNat + k by omega]
        have h82 : ¬ t_al c → ∃ (j : Nat) (lv' : List (Nat × xV)), j < n ∧ x_subs lv' [(4, .inl c), (0, xR 2), (1, .inl lt), (2, .inl d), (3, .inl (I 1 4 + k))] ∧ x_runI [xR 2] I L j 82 lv' [] I' L' := fun hna => by
          refine ⟨(2 * (I 1 2 - (I 1 4 + k))).toNat, [(0, xR 2), (1, .inl lt), (2, .inl d), (3, .inl (I 1 4 + k)), (4, .inl (I 2 ((I 1 4).toNat + k)))], by omega, ⟨rfl, rfl, rfl, rfl, ?_, trivial⟩, rfl, hfi, hfl, rfl, hp, k, lt, d, hr, Or.inr (Or.inl ⟨rfl, rfl, h5, by omega, by omega, by rw [← hck]; exact hna⟩)⟩
          show some (Sum.inl c) = some (Sum.inl (I 2 ((I 1 4).toNat + k)))
          rw [hck]
        refine And.intro ?_ ?_
        · intro t2
          exact h82 (fun q => by omega)
        · intro t2
          refine And.intro ?_ ?_
          · intro t3
            exact h82 (fun q => by omega)
          · intro t3
            have hal : t_al (I 2 ((I 1 4).toNat + k)) := by rw [← hck]; exact ⟨t2, t3⟩
            refine Or.inl ⟨by omega, ?_⟩
            intro s (hs : s = L' 1 8)
            refine ⟨_, 32, zw_89, by decide +kernel, ?_⟩
            by_cases hg : lt = k ∧ k ≤ 6
            · have hsp := hr.2.2.2.1 hg.1 (by omega)
              have hsb := t_sp_b (b := I 2) (x := I 1 4) k (by omega)
              have hpw := x_pow hg.2
              refine Or.inl ⟨by omega, ?_⟩
              refine Or.inl ⟨by omega, ?_⟩
              refine Or.inl ⟨by omega, ?_⟩
              refine Or.inl ⟨by omega, ?_⟩
              refine ⟨(2 * (I 1 2 - (I 1 4 + ((k + 1 : Nat) : Int))) + 1).toNat, [(0, xR 2), (1, .inl (lt + 1)), (2, .inl d), (3, .inl (I 1 4 + ((k + 1 : Nat) : Int)))], by omega, ⟨rfl, rfl, rfl, ?_, trivial⟩, rfl, hfi, x_fi_u hfl rfl, rfl, hp, k + 1, lt + 1, d, x_rn_step hp.1 hr (by omega) (Or.inl ⟨hal, rfl, rfl, rfl, fun _ _ => ?_⟩), Or.inl ⟨rfl, rfl, h5, by omega⟩⟩
              · show some (Sum.inl (I 1 4 + (k : Int) + 1)) = some (Sum.inl (I 1 4 + ((k + 1 : Nat) : Int)))
                rw [show I 1 4 + (k : Int) + 1 = I 1 4 + ((k + 1 : Nat) : Int) by omega]
              · show s * 32 + (c - 96) = L' 1 8 * 32 + _
                rw [hs, hck]
            · refine Or.inr (fun w _ _ => ?_)
              refine Or.inl ⟨by omega, ?_⟩
              refine Or.inr (fun w2 _ _ => ?_)
              refine Or.inl ⟨by omega, ?_⟩
              refine ⟨(2 * (I 1 2 - (I 1 4 + ((k + 1 : Nat) : Int))) + 1).toNat, [(0, xR 2), (1, .inl (lt + 1)), (2, .inl d), (3, .inl (I 1 4 + ((k + 1 : Nat) : Int)))], by omega, ⟨rfl, rfl, rfl, ?_, trivial⟩, rfl, hfi, x_fi_u hfl rfl, rfl, hp, k + 1, lt + 1, d, x_rn_step hp.1 hr (by omega) (Or.inl ⟨hal, rfl, rfl, rfl, fun h1 h2 => absurd ⟨h1, h2⟩ hg⟩), Or.inl ⟨rfl, rfl, h5, by omega⟩⟩
              show some (Sum.inl (I 1 4 + (k : Int) + 1)) = some (Sum.inl (I 1 4 + ((k + 1 : Nat) : Int)))
              rw [show I 1 4 + (k : Int) + 1 = I 1 4 + ((k + 1 : Nat) : Int) by omega]
    · obtain ⟨rfl, rfl, h5, hn, hlt, hna⟩ := h82
      have hr1 := hr.1
      have hb := t_nl_b (b := I 2) (x := I 1 4) k
      have hl2 : lt = t_nl (I 2) (I 1 4) k := hr.2.1
      have hd2 : d = k - lt := hr.2.2.1
      have h133 : ¬ t_dg (I 2 ((I 1 4).toNat + k)) → ∃ (j : Nat) (lv' : List (Nat × xV)), j < n ∧ x_subs lv' [(0, xR 2), (1, .inl lt), (2, .inl d), (3, .inl (I 1 4 + k)), (4, .inl (I 2 ((I 1 4).toNat + k)))] ∧ x_runI [xR 2] I L j 133 lv' [] (x_u I' 1 5 (I 1 4 + k)) L' := fun hnd => by
        refine ⟨0, [(0, xR 2), (1, .inl lt), (2, .inl d)], by omega, ⟨rfl, rfl, rfl, trivial⟩, rfl, x_fi_u hfi rfl, hfl, rfl, hp, k, lt, d, hr, Or.inr (Or.inr ⟨rfl, rfl, rfl, rfl, ?_⟩)⟩
        rw [hr.2.2.2.2.2.2, t_end_end (Or.inr ?_)]
        rw [show (I 1 4 + (k : Int)).toNat = (I 1 4).toNat + k by omega]
        rintro (q | q)
        · exact hna q
        · exact hnd q
      refine And.intro ?_ ?_
      · intro t2
        refine And.intro (show 0 ≤ I 1 4 + (k : Int) ∧ I 1 4 + (k : Int) ≤ 941 by omega) ?_
        exact h133 (fun q => by omega)
      · intro t2
        refine And.intro ?_ ?_
        · intro t3
          refine And.intro (show 0 ≤ I 1 4 + (k : Int) ∧ I 1 4 + (k : Int) ≤ 941 by omega) ?_
          exact h133 (fun q => by omega)
        · intro t3
          have hdg : t_dg (I 2 ((I 1 4).toNat + k)) := ⟨t2, t3⟩
          refine Or.inl ⟨by omega, ?_⟩
          intro v (hv : v = I' 1 7) (bv : -2147483648 ≤ v ∧ v ≤ 2147483647)
          by_cases hg : lt = 0 ∧ k ≤ 2
          · have hva := hr.2.2.2.2.1 hg.1 (by omega)
            have hvb := t_val_b (b := I 2) (x := I 1 4) k (by omega) hr.2.2.2.2.2.1
            have hpw := x_pow10 hg.2
            refine Or.inl ⟨by omega, ?_⟩
            refine Or.inl ⟨by omega, ?_⟩
            refine Or.inl ⟨by omega, ?_⟩
            refine And.intro (show -2147483648 ≤ v * 10 + (I 2 ((I 1 4).toNat + k) - 48) ∧ v * 10 + (I 2 ((I 1 4).toNat + k) - 48) ≤ 2147483647 by omega) ?_
            refine Or.inl ⟨by omega, ?_⟩
            refine ⟨(2 * (I 1 2 - (I 1 4 + ((k + 1 : Nat) : Int))) + 1).toNat, [(0, xR 2), (1, .inl lt), (2, .inl (d + 1)), (3, .inl (I 1 4 + ((k + 1 : Nat) : Int)))], by omega, ⟨rfl, rfl, rfl, ?_, trivial⟩, rfl, x_fi_u hfi rfl, hfl, rfl, hp, k + 1, lt, d + 1, x_rn_step hp.1 hr (by omega) (Or.inr ⟨hna, hdg, rfl, rfl, rfl, fun _ _ => ?_⟩), Or.inl ⟨rfl, rfl, h5, by omega⟩⟩
            · show some (Sum.inl (I 1 4 + (k : Int) + 1)) = some (Sum.inl (I 1 4 + ((k + 1 : Nat) : Int)))
              rw [show I 1 4 + (k : Int) + 1 = I 1 4 + ((k + 1 : Nat) : Int) by omega]
            · show v * 10 + (_ - 48) = I' 1 7 * 10 + _
              rw [hv]
          · refine Or.inr (fun w _ _ => ?_)
            refine Or.inl ⟨by omega, ?_⟩
            refine Or.inr (fun w2 b1 b2 => ?_)
            refine And.intro ⟨b1, b2⟩ ?_
            refine Or.inl ⟨by omega, ?_⟩
            refine ⟨(2 * (I 1 2 - (I 1 4 + ((k + 1 : Nat) : Int))) + 1).toNat, [(0, xR 2), (1, .inl lt), (2, .inl (d + 1)), (3, .inl (I 1 4 + ((k + 1 : Nat) : Int)))], by omega, ⟨rfl, rfl, rfl, ?_, trivial⟩, rfl, x_fi_u hfi rfl, hfl, rfl, hp, k + 1, lt, d + 1, x_rn_step hp.1 hr (by omega) (Or.inr ⟨hna, hdg, rfl, rfl, rfl, fun h1 h2 => absurd ⟨h1, h2⟩ hg⟩), Or.inl ⟨rfl, rfl, h5, by omega⟩⟩
            show some (Sum.inl (I 1 4 + (k : Int) + 1)) = some (Sum.inl (I 1 4 + ((k + 1 : Nat) : Int)))
            rw [show I 1 4 + (k : Int) + 1 = I 1 4 + ((k + 1 : Nat) : Int) by omega]
    · obtain ⟨rfl, rfl, rfl, h5, he⟩ := h133
      have hb := t_nl_b (b := I 2) (x := I 1 4) k
      have hl2 : lt = t_nl (I 2) (I 1 4) k := hr.2.1
      have hd2 : d = k - lt := hr.2.2.1
      have hfin : ∀ (q : Int), (q = if lt = k ∧ k ≤ 7 then 2 else if lt = 0 ∧ k ≤ 3 then 4 else 1) → ∀ I'' : xF, (x_fi x_s567 I I'' ∧ I'' 1 7 = I' 1 7 ∧ I'' 1 5 = I' 1 5 ∧ I'' 1 6 = q) → xo_run [xR 2] I L none I'' L' := fun q hq I'' ⟨g1, g2, g3, g4⟩ => ⟨rfl, g1, hfl, k, lt, d, he, by rw [g2]; exact hr, by rw [g3]; exact h5, by rw [g4]; exact hq⟩
      refine And.intro (by decide) ?_
      refine And.intro ?_ ?_
      · intro t1
        refine And.intro ?_ ?_
        · intro t2
          exact hfin 1 (by rw [if_neg (by omega), if_neg (by omega)]) _ ⟨x_fi_u hfi rfl, rfl, rfl, rfl⟩
        · intro t2
          refine And.intro ?_ ?_
          · intro t3
            exact hfin 1 (by rw [if_neg (by omega), if_neg (by omega)]) _ ⟨x_fi_u hfi rfl, rfl, rfl, rfl⟩
          · intro t3
            refine And.intro (by decide) ?_
            exact hfin 4 (by rw [if_neg (by omega), if_pos (by omega)]) _ ⟨x_fi_u (x_fi_u hfi rfl) rfl, rfl, rfl, rfl⟩
      · intro t1
        refine And.intro ?_ ?_
        · intro t2
          refine And.intro ?_ ?_
          · intro t3
            exact hfin 1 (by rw [if_neg (by omega), if_neg (by omega)]) _ ⟨x_fi_u hfi rfl, rfl, rfl, rfl⟩
          · intro t3
            exact absurd t3 (by omega)
        · intro t2
          refine And.intro (by decide) ?_
          exact hfin 2 (by rw [if_pos (by omega)]) _ ⟨x_fi_u (x_fi_u hfi rfl) rfl, rfl, rfl, rfl⟩
theorem xn_sgn (hE : z_EX EX) : x_Ok EX l zTB zNT kc D vwCl xb nTY ad yP0 105 0 xr_sgn xo_sgn := by
  refine x_loop (M := ym_X10_readSign) hE y_prog 60 rfl (by decide) xn_none_ok (fun za I L ⟨f, h, _⟩ => by subst h; exact (by decide : 2 ≤ 3)) (x_cut1 41) (fun za I L n pc lv sv I' L' => I' = I ∧ L' = L ∧ ∃ c : Int, za = [xR 2, .inl c] ∧ (0 ≤ c ∧ c ≤ 255) ∧ lv = [(0, xR 2), (1, .inl c)] ∧ ((t_sg c ∧ sv = [.inl 1]) ∨ (¬ t_sg c ∧ sv = [.inl 0]))) (fun za I L ⟨c, h, hc⟩ => ?_) (fun za I L _ n pc lv sv I' L' hc hi => ?_)
  · subst h
    refine And.intro ?_ ?_
    · intro t
      exact ⟨0, [(0, xR 2), (1, .inl c)], ⟨rfl, rfl, trivial⟩, rfl, rfl, c, rfl, hc, rfl, Or.inl ⟨by unfold t_sg; omega, rfl⟩⟩
    intro t1
    refine And.intro ?_ ?_
    · intro t
      exact ⟨0, [(0, xR 2), (1, .inl c)], ⟨rfl, rfl, trivial⟩, rfl, rfl, c, rfl, hc, rfl, Or.inl ⟨by unfold t_sg; omega, rfl⟩⟩
    intro t2
    refine And.intro ?_ ?_
    · intro t
      exact ⟨0, [(0, xR 2), (1, .inl c)], ⟨rfl, rfl, trivial⟩, rfl, rfl, c, rfl, hc, rfl, Or.inl ⟨by unfold t_sg; omega, rfl⟩⟩
    intro t3
    refine And.intro ?_ ?_
    · intro t
      exact ⟨0, [(0, xR 2), (1, .inl c)], ⟨rfl, rfl, trivial⟩, rfl, rfl, c, rfl, hc, rfl, Or.inl ⟨by unfold t_sg; omega, rfl⟩⟩
    intro t4
    refine And.intro ?_ ?_
    · intro t
      exact ⟨0, [(0, xR 2), (1, .inl c)], ⟨rfl, rfl, trivial⟩, rfl, rfl, c, rfl, hc, rfl, Or.inl ⟨by unfold t_sg; omega, rfl⟩⟩
    intro t5
    refine And.intro ?_ ?_
    · intro t
      exact ⟨0, [(0, xR 2), (1, .inl c)], ⟨rfl, rfl, trivial⟩, rfl, rfl, c, rfl, hc, rfl, Or.inr ⟨by unfold t_sg; omega, rfl⟩⟩
    · intro t
      exact ⟨0, [(0, xR 2), (1, .inl c)], ⟨rfl, rfl, trivial⟩, rfl, rfl, c, rfl, hc, rfl, Or.inl ⟨by unfold t_sg; omega, rfl⟩⟩
  · obtain rfl := x_cut1_ok hc
    obtain ⟨rfl, rfl, c, rfl, hc, rfl, ⟨hs, rfl⟩ | ⟨hs, rfl⟩⟩ := hi
    · refine And.intro (fun t => absurd t (by decide)) (fun _ => ?_)
      refine And.intro (by decide) ?_
      refine And.intro (show -2147483648 ≤ c ∧ c ≤ 2147483647 by omega) ?_
      intro p (hp : p = I' 1 4) (bp : 0 ≤ p ∧ p ≤ 940)
      refine Or.inl ⟨by omega, ?_⟩
      refine And.intro (show 0 ≤ p + 1 ∧ p + 1 ≤ 941 by omega) ?_
      exact ⟨c, rfl, rfl, rfl, by rw [if_pos hs, hp]⟩
    · refine And.intro (fun _ => ?_) (fun t => absurd rfl t)
      refine And.intro (by decide) ?_
      refine And.intro (show -2147483648 ≤ c ∧ c ≤ 2147483647 by omega) ?_
      intro p (hp : p = I' 1 4) (bp : 0 ≤ p ∧ p ≤ 940)
      refine Or.inl ⟨by omega, ?_⟩
      refine And.intro (show 0 ≤ p + 1 ∧ p + 1 ≤ 941 by omega) ?_
      exact ⟨c, rfl, rfl, rfl, by rw [if_neg hs, hp]⟩
theorem xn_tell (hE : z_EX EX) : x_Ok EX l zTB zNT kc D vwCl xb nTY ad yP0 104 0 xr_t xo_tell := by
  refine x_loop (M := ym_X10_tellNameFromWord) hE y_prog 60 rfl (by decide) xn_none_ok (fun za I L h => by subst h; exact (by decide : 1 ≤ 2)) (x_cut1 7) (fun za I L n pc lv sv I' L' => L' = L ∧ sv = [] ∧ x_fi x_s67 I I' ∧ ∃ i : Nat, i ≤ 24 ∧ n = 24 - i ∧ lv = [(1, .inl (i : Int)), (0, xR 2)] ∧ ((∃ w : Nat, w < i ∧ x_W32[w]? = some (L 1 8) ∧ I' 1 6 = 2 ∧ I' 1 7 = w) ∨ ((∀ w : Nat, w < i → x_W32[w]? ≠ some (L 1 8)) ∧ I' 1 6 = 3))) (fun za I L h => ?_) (fun za I L _ n pc lv sv I' L' hc hi => ?_)
  · subst h
    refine And.intro (by decide) ?_
    exact ⟨24, [(1, .inl 0), (0, xR 2)], ⟨rfl, rfl, trivial⟩, rfl, rfl, x_fi_u x_fi_refl rfl, 0, by omega, rfl, rfl, Or.inr ⟨fun w hw => absurd hw (Nat.not_lt_zero w), rfl⟩⟩
  · obtain rfl := x_cut1_ok hc
    obtain ⟨rfl, rfl, hfi, i, hi, rfl, rfl, hs⟩ := hi
    refine And.intro ?_ ?_
    · intro t1
      refine ⟨rfl, rfl, hfi, ?_⟩
      have hlen : x_W32.length = 24 := rfl
      rcases hs with ⟨w, h1, h2, h3, h4⟩ | ⟨h1, h2⟩
      · exact Or.inl ⟨w, h2, h3, h4⟩
      · refine Or.inr ⟨fun w hw => ?_, h2⟩
        have := (List.getElem?_eq_some_iff.mp hw).1
        exact h1 w (by omega) hw
    · intro t1
      refine And.intro (show 0 ≤ (i : Int) ∧ (i : Int) < 24 by omega) ?_
      intro z _ (hz : ∀ x, x_W32[(i : Int).toNat]? = some x → z = x) s (hs8 : s = L' 1 8) w (hw : w = 0 ↔ z = s)
      have hlt : i < x_W32.length := by show i < 24; omega
      have hzi : x_W32[i]? = some z := by
        have h9 := hz _ (List.getElem?_eq_getElem hlt)
        rw [h9]
        exact List.getElem?_eq_getElem hlt
      refine And.intro ?_ ?_
      · intro t2
        refine Or.inl ⟨by omega, 24 - (i + 1), [(1, .inl ((i + 1 : Nat) : Int)), (0, xR 2)], by omega, ⟨rfl, rfl, trivial⟩, rfl, rfl, hfi, i + 1, by omega, rfl, rfl, ?_⟩
        rcases hs with ⟨w', h1, h2, h3, h4⟩ | ⟨h1, h2⟩
        · exact Or.inl ⟨w', by omega, h2, h3, h4⟩
        · refine Or.inr ⟨fun w' hw' hq => ?_, h2⟩
          rcases Nat.lt_or_ge w' i with g | g
          · exact h1 w' g hq
          · obtain rfl : w' = i := by omega
            rw [hzi] at hq
            exact t2 (hw.mpr ((Option.some.inj hq).trans hs8.symm))
      · intro t2
        refine And.intro (by decide) ?_
        refine And.intro (show -2147483648 ≤ (i : Int) ∧ (i : Int) ≤ 2147483647 by omega) ?_
        refine Or.inl ⟨by omega, 24 - (i + 1), [(1, .inl ((i + 1 : Nat) : Int)), (0, xR 2)], by omega, ⟨rfl, rfl, trivial⟩, rfl, rfl, x_fi_u (x_fi_u hfi rfl) rfl, i + 1, by omega, rfl, rfl, Or.inl ⟨i, by omega, ?_, rfl, rfl⟩⟩
        rw [hzi, hw.mp t2, hs8]
theorem cn_adv_ok (hE : z_EX EX) : x_ctok EX l zTB zNT kc D vwCl xb nTY ad yP0 (x_ctl ct_adv) := x_ctl_cons (xn_unbl hE) (x_ctl_cons (xn_stop hE) (x_ctl_cons (xn_run hE) (x_ctl_cons (xn_sgn hE) (x_ctl_cons (xn_tell hE) x_ctl_nil))))
set_option maxHeartbeats 2000000 in
theorem xn_adv (hE : z_EX EX) : x_Ok EX l zTB zNT kc D vwCl xb nTY ad yP0 100 1 xr_adv xo_adv := by
  refine x_meth (M := ym_X10_advance) hE y_prog 80 rfl (by decide) (cn_adv_ok hE) (fun za I L ⟨h, _⟩ => by subst h; exact (by decide : 1 ≤ 1)) (fun za I L ⟨h, h0, h1, h940⟩ => ?_)
  subst h
  intro q (hq : q = I 1 5) _
  refine And.intro ⟨q, rfl, by omega, by omega⟩ ?_
  rintro rv I1 L1 ⟨e1, e2, x, hx, rfl⟩
  subst e1
  subst e2
  cases hx
  subst hq
  have hs := t_skip_le (b := I1 2) h1
  refine And.intro (show 0 ≤ t_skip (I1 2) (I1 1 2) (I1 1 5) ∧ t_skip (I1 2) (I1 1 2) (I1 1 5) ≤ 940 by omega) ?_
  generalize hsk : t_skip (I1 2) (I1 1 2) (I1 1 5) = sk at hs ⊢
  have htok : t_tok (I1 2) (I1 1 2) (I1 1 3) (I1 1 5) = (if I1 1 2 ≤ sk ∨ I1 1 3 ≤ sk then (if I1 1 3 < I1 1 2 then (1, I1 1 3, I1 1 3, 0) else (0, I1 1 2, I1 1 2, 0)) else if t_end (I1 2) (I1 1 2) sk = sk then (if t_sg (I1 2 sk.toNat) then (5, sk, sk + 1, I1 2 sk.toNat) else (1, sk, sk + 1, 0)) else if t_nl (I1 2) sk (t_end (I1 2) (I1 1 2) sk - sk).toNat = (t_end (I1 2) (I1 1 2) sk - sk).toNat ∧ (t_end (I1 2) (I1 1 2) sk - sk).toNat ≤ 7 then (2, sk, t_end (I1 2) (I1 1 2) sk, t_sp (I1 2) sk (t_end (I1 2) (I1 1 2) sk - sk).toNat) else if t_nl (I1 2) sk (t_end (I1 2) (I1 1 2) sk - sk).toNat = 0 ∧ (t_end (I1 2) (I1 1 2) sk - sk).toNat ≤ 3 then (4, sk, t_end (I1 2) (I1 1 2) sk, t_val (I1 2) sk (t_end (I1 2) (I1 1 2) sk - sk).toNat) else (1, sk, t_end (I1 2) (I1 1 2) sk, 0)) := by
    unfold t_tok
    rw [hsk]
  intro p1 (hp1 : p1 = sk) _ m1 (hm1 : m1 = I1 1 2) (bm1 : 0 ≤ m1 ∧ m1 ≤ 940)
  have hstop : (I1 1 2 ≤ sk ∨ I1 1 3 ≤ sk) → ∀ rv I' L', xo_stop [xR 2] (x_u I1 1 4 sk) L1 rv I' L' → xo_adv [xR 2] I1 L1 none I' L' := by
    rintro hc rv I' L' ⟨_, rfl, rfl⟩
    refine ⟨rfl, x_fi_u (x_fi_u (x_fi_u (x_fi_u x_fi_refl rfl) rfl) rfl) rfl, x_fi_refl, ?_⟩
    rw [htok, if_pos hc]
    show c_tok _ (x_u (x_u (x_u (x_u I1 1 4 sk) 1 6 (if I1 1 3 < I1 1 2 then 1 else 0)) 1 4 (if I1 1 3 < I1 1 2 then I1 1 3 else I1 1 2)) 1 5 (if I1 1 3 < I1 1 2 then I1 1 3 else I1 1 2)) _
    by_cases hg : I1 1 3 < I1 1 2
    · simp only [if_pos hg]
      exact ⟨rfl, fun h => absurd (show (2 : Int) ≤ 1 from h) (by decide), Or.inr (Or.inl ⟨rfl, rfl⟩)⟩
    · simp only [if_neg hg]
      exact ⟨rfl, fun h => absurd (show (2 : Int) ≤ 0 from h) (by decide), Or.inl ⟨rfl, rfl⟩⟩
  refine And.intro ?_ ?_
  · intro t1
    refine And.intro rfl ?_
    intro rv I' L' h
    have h9 := h.1
    subst h9
    exact hstop (Or.inl (by omega)) _ _ _ h
  · intro t1 p2 (hp2 : p2 = sk) _ m2 (hm2 : m2 = I1 1 3) _
    refine And.intro ?_ ?_
    · intro t2
      have hnot : ¬ (I1 1 2 ≤ sk ∨ I1 1 3 ≤ sk) := by omega
      refine And.intro ⟨rfl, show 0 ≤ sk by omega, show sk < I1 1 2 by omega, show I1 1 2 ≤ 940 by omega⟩ ?_
      rintro rv I2 L2 ⟨rfl, hfi, hfl, k, lt, d, he, hr, h5, h6⟩
      have e4 : I2 1 4 = sk := hfi 1 4 rfl
      have he : t_end (I1 2) (I1 1 2) sk = sk + k := he
      have h5 : I2 1 5 = sk + k := h5
      have hr : x_rn (I1 2) (I1 1 2) sk k lt d (I2 1 7) (L2 1 8) := hr
      have hkt : (t_end (I1 2) (I1 1 2) sk - sk).toNat = k := by rw [he]; omega
      have hfi1 : x_fi x_s4567 I1 I2 := x_fi_trans (x_fi_u x_fi_refl rfl) (x_fi_w hfi x_s567_w)
      intro b5 (hb5 : b5 = I2 1 5) _ p3 (hp3 : p3 = I2 1 4) (bp3 : 0 ≤ p3 ∧ p3 ≤ 940)
      refine And.intro ?_ ?_
      · intro t3
        have hk0 : k ≠ 0 := by omega
        have htk : t_tok (I1 2) (I1 1 2) (I1 1 3) (I1 1 5) = (if lt = k ∧ k ≤ 7 then (2, sk, sk + k, t_sp (I1 2) sk k) else if lt = 0 ∧ k ≤ 3 then (4, sk, sk + k, t_val (I1 2) sk k) else (1, sk, sk + k, 0)) := by
          rw [htok, if_neg hnot, if_neg (by omega), hkt, he, ← hr.2.1]
        intro k1 (hk1 : k1 = I2 1 6) _
        refine And.intro ?_ ?_
        · intro t4
          refine ⟨rfl, hfi1, hfl, ?_⟩
          rw [htk]
          have h62 : ¬ (lt = k ∧ k ≤ 7) := fun q => by
            rw [if_pos q] at h6
            omega
          rw [if_neg h62] at h6 ⊢
          by_cases h4 : lt = 0 ∧ k ≤ 3
          · rw [if_pos h4] at h6 ⊢
            exact ⟨e4, fun _ => h5, Or.inr (Or.inr (Or.inr (Or.inl ⟨rfl, h6, hr.2.2.2.2.1 h4.1 h4.2⟩)))⟩
          · rw [if_neg h4] at h6 ⊢
            exact ⟨e4, fun h => absurd (show (2 : Int) ≤ 1 from h) (by decide), Or.inr (Or.inl ⟨rfl, h6⟩)⟩
        · intro t4
          have h62 : lt = k ∧ k ≤ 7 := Classical.byContradiction (fun q => by
            rw [if_neg q] at h6
            split at h6 <;> omega)
          refine And.intro rfl ?_
          rintro rv I3 L3 ⟨rfl, rfl, hf3, hw⟩
          have hsp := hr.2.2.2.1 h62.1 h62.2
          refine ⟨rfl, x_fi_trans hfi1 (x_fi_w hf3 x_s67_w), hfl, ?_⟩
          rw [htk, if_pos h62]
          refine ⟨(hf3 1 4 rfl).trans e4, fun _ => (hf3 1 5 rfl).trans h5, Or.inr (Or.inr (Or.inl ⟨rfl, hsp, ?_⟩))⟩
          rw [← hsp]
          exact hw
      · intro t3
        have hk0 : k = 0 := by omega
        subst hk0
        intro p4 (hp4 : p4 = I2 1 4) _
        refine And.intro (show 0 ≤ p4 ∧ p4 < 940 by omega) ?_
        intro c (hc : c = I2 2 p4.toNat) hsg
        have bc : 0 ≤ c ∧ c ≤ 255 := hsg _ (x_seg1 (by omega))
        have hcc : c = I1 2 sk.toNat := by
          rw [hc, show p4 = sk by omega]
          exact hfi 2 _ rfl
        refine And.intro ⟨c, rfl, bc⟩ ?_
        rintro rv I3 L3 ⟨c', hc', rfl, rfl, rfl⟩
        cases hc'
        refine ⟨rfl, x_fi_u (x_fi_u (x_fi_u hfi1 rfl) rfl) rfl, hfl, ?_⟩
        rw [htok, if_neg hnot, if_pos (by omega), ← hcc]
        by_cases hsgn : t_sg c
        · rw [if_pos hsgn, if_pos hsgn]
          exact ⟨e4, fun _ => (show I2 1 4 + 1 = sk + 1 by omega), Or.inr (Or.inr (Or.inr (Or.inr ⟨rfl, rfl, rfl⟩)))⟩
        · rw [if_neg hsgn, if_neg hsgn]
          exact ⟨e4, fun h => absurd (show (2 : Int) ≤ 1 from h) (by decide), Or.inr (Or.inl ⟨rfl, rfl⟩)⟩
    · intro t2
      refine And.intro rfl ?_
      intro rv I' L' h
      have h9 := h.1
      subst h9
      exact hstop (Or.inr (by omega)) _ _ _ h
theorem cn_ts_ok (hE : z_EX EX) : x_ctok EX l zTB zNT kc D vwCl xb nTY ad yP0 (x_ctl ct_ts) := x_ctl_cons (xn_isSign hE) (x_ctl_cons (xn_ref hE) (x_ctl_cons (xn_adv hE) x_ctl_nil))
theorem xn_ts (hE : z_EX EX) : x_Ok EX l zTB zNT kc D vwCl xb nTY ad yP0 110 2 xr_ts xo_ts := by
  refine x_meth (M := ym_X10_takeSign) hE y_prog 30 rfl (by decide) (cn_ts_ok hE) (fun za I L ⟨x, h, _⟩ => by subst h; exact (by decide : 2 ≤ 2)) (fun za I L ⟨x, h, hb⟩ => ?_)
  subst h
  refine And.intro ⟨x, rfl⟩ ?_
  rintro rv I2 L2 ⟨g1, g2, x', hx', ⟨h1, h2, rfl⟩ | ⟨h1, rfl⟩⟩
  · subst g1
    subst g2
    cases hx'
    refine And.intro (fun _ => ?_) (fun q => absurd q (by decide))
    refine And.intro ⟨rfl, hb h1⟩ ?_
    intro rv I3 L3 h
    have h9 := h.1
    subst h9
    exact ⟨by decide, x, rfl, Or.inl ⟨h1, h2, rfl, h⟩⟩
  · subst g1
    subst g2
    cases hx'
    refine And.intro (fun q => absurd rfl q) (fun _ => ?_)
    refine And.intro ⟨1, rfl, by decide, by decide⟩ ?_
    rintro rv I3 L3 ⟨f, hf, rfl, rfl, rfl⟩
    cases hf
    exact ⟨by decide, x, rfl, Or.inr ⟨h1, rfl, rfl, rfl⟩⟩
theorem xn_tn (hE : z_EX EX) : x_Ok EX l zTB zNT kc D vwCl xb nTY ad yP0 111 2 xr_tn xo_tn := by
  refine x_loop (M := ym_X10_takeNumber) hE y_prog 40 rfl (by decide) (cn_ts_ok hE) (fun za I L ⟨lo, hi, h, _⟩ => by subst h; exact (by decide : 3 ≤ 4)) (x_cut1 32) (fun za I L n pc lv sv I' L' => I' = I ∧ L' = L ∧ sv = [] ∧ ∃ lo hi : Int, za = [xR 2, .inl lo, .inl hi] ∧ lv = [(0, xR 2)] ∧ I 1 6 = 4 ∧ (I 1 7 < lo ∨ hi < I 1 7)) (fun za I L ⟨lo, hi, h, hb⟩ => ?_) (fun za I L _ n pc lv sv I' L' hc hi => ?_)
  · subst h
    intro k (hk : k = I 1 6) _
    refine And.intro ?_ ?_
    · intro t1 v (hv : v = I 1 7) _
      refine And.intro ?_ ?_
      · intro t2
        exact ⟨0, [(0, xR 2)], ⟨rfl, trivial⟩, rfl, rfl, rfl, lo, hi, rfl, rfl, by omega, by omega⟩
      · intro t2 v2 (hv2 : v2 = I 1 7) _
        refine And.intro ?_ ?_
        · intro t3 v3 (hv3 : v3 = I 1 7) _
          refine And.intro ⟨rfl, hb (by omega)⟩ ?_
          intro rv I3 L3 h
          have h9 := h.1
          subst h9
          exact ⟨lo, hi, rfl, Or.inl ⟨by omega, by omega, by omega, by rw [hv3], h⟩⟩
        · intro t3
          exact ⟨0, [(0, xR 2)], ⟨rfl, trivial⟩, rfl, rfl, rfl, lo, hi, rfl, rfl, by omega, by omega⟩
    · intro t1
      refine And.intro ⟨1, rfl, by decide, by decide⟩ ?_
      rintro rv I3 L3 ⟨f, hf, rfl, rfl, rfl⟩
      cases hf
      exact ⟨lo, hi, rfl, Or.inr (Or.inl ⟨by omega, rfl, rfl, rfl⟩)⟩
  · obtain rfl := x_cut1_ok hc
    obtain ⟨rfl, rfl, rfl, lo, hi, rfl, rfl, h4, h7⟩ := hi
    refine And.intro ⟨2, rfl, by decide, by decide⟩ ?_
    rintro rv I3 L3 ⟨f, hf, rfl, rfl, rfl⟩
    cases hf
    exact ⟨lo, hi, rfl, Or.inr (Or.inr ⟨h4, h7, rfl, rfl, rfl⟩)⟩
theorem xn_no (hE : z_EX EX) : x_Ok EX l zTB zNT kc D vwCl xb nTY ad yP0 48 0 xr_nno xo_nno := by
  refine x_loop (M := ym_X5_numberOf) hE y_prog 50 rfl (by decide) xn_none_ok (fun za I L ⟨s, t, h⟩ => by subst h; exact (by decide : 4 ≤ 5)) (x_cut1 3) (fun za I L n pc lv sv I' L' => I' = I ∧ L' = L ∧ sv = [] ∧ ∃ (s t : Int) (i : Nat), za = [xR 13, .inr (.inl s), .inl t] ∧ lv = [(0, xR 13), (1, .inr (.inl s)), (3, .inl t), (4, .inl (i : Int))] ∧ i ≤ 22 ∧ n = 22 - i ∧ ∀ k : Nat, k < i → ¬ (L 13 k = s ∧ I 14 k = t)) (fun za I L ⟨s, t, h⟩ => ?_) (fun za I L _ n pc lv sv I' L' hc hi => ?_)
  · subst h
    exact ⟨22, [(0, xR 13), (1, .inr (.inl s)), (3, .inl t), (4, .inl ((0 : Nat) : Int))], ⟨rfl, rfl, rfl, rfl, trivial⟩, rfl, rfl, rfl, s, t, 0, rfl, rfl, by omega, rfl, fun k hk => absurd hk (Nat.not_lt_zero k)⟩
  · obtain rfl := x_cut1_ok hc
    obtain ⟨rfl, rfl, rfl, s, t, i, rfl, rfl, hi, rfl, hno⟩ := hi
    intro z (hz : z = I' 12 3) (bz : 0 ≤ z ∧ z ≤ 22)
    refine And.intro ?_ ?_
    · intro t1
      exact ⟨rfl, rfl, s, t, rfl, Or.inr ⟨fun k hk => hno k (by omega), rfl⟩⟩
    · intro t1
      have hin : 0 ≤ (i : Int) ∧ (i : Int) < 22 := by omega
      have hti : ((i : Int)).toNat = i := by omega
      have hgo : ¬ (L' 13 i = s ∧ I' 14 i = t) → ∀ k : Nat, k < i + 1 → ¬ (L' 13 k = s ∧ I' 14 k = t) := fun hq k hk => by
        rcases Nat.lt_or_ge k i with g | g
        · exact hno k g
        · obtain rfl : k = i := by omega
          exact hq
      refine And.intro hin ?_
      intro w (hw : w = L' 13 ((i : Int)).toNat) _ c (hc : c = 0 ↔ w = s)
      rw [hti] at hw
      refine And.intro ?_ ?_
      · intro t2
        refine Or.inl ⟨by omega, 22 - (i + 1), [(0, xR 13), (1, .inr (.inl s)), (3, .inl t), (4, .inl ((i + 1 : Nat) : Int))], by omega, ⟨rfl, rfl, rfl, rfl, trivial⟩, rfl, rfl, rfl, s, t, i + 1, rfl, rfl, by omega, rfl, hgo (fun q => t2 (hc.mpr (hw.trans q.1)))⟩
      · intro t2
        refine And.intro hin ?_
        intro so (hso : so = I' 14 ((i : Int)).toNat) _
        rw [hti] at hso
        refine And.intro ?_ ?_
        · intro t3
          refine Or.inl ⟨by omega, 22 - (i + 1), [(0, xR 13), (1, .inr (.inl s)), (3, .inl t), (4, .inl ((i + 1 : Nat) : Int))], by omega, ⟨rfl, rfl, rfl, rfl, trivial⟩, rfl, rfl, rfl, s, t, i + 1, rfl, rfl, by omega, rfl, hgo (fun q => t3 (hso.trans q.2))⟩
        · intro t3
          refine And.intro hin ?_
          intro nu (hnu : nu = I' 15 ((i : Int)).toNat) hsg
          have bnu : 0 ≤ nu ∧ nu ≤ 7 := hsg _ (x_seg1 (by omega))
          rw [hti] at hnu
          subst hnu
          exact ⟨rfl, rfl, s, t, rfl, Or.inl ⟨i, by omega, hw.symm.trans (hc.mp t2), hso.symm.trans t3, rfl, bnu⟩⟩
def xr_ntm : xPre := fun za I _ => ∃ t : Int, za = [xR 2, xR 13, .inl t] ∧ (I 1 6 = 3 → x_bh I)
def xo_ntm : xPost := fun za I L rv I' L' => ∃ t : Int, za = [xR 2, xR 13, .inl t] ∧ ((I 1 6 ≠ 3 ∧ rv = some (.inl (-1)) ∧ L' = L ∧ I' = x_bad I 1) ∨ (I 1 6 = 3 ∧ (∀ k : Nat, (k : Int) < I 12 3 → ¬ (L 13 k = L 1 8 ∧ I 14 k = t)) ∧ rv = some (.inl (-1)) ∧ L' = L ∧ I' = x_bad I 3) ∨ (I 1 6 = 3 ∧ ∃ k : Nat, (k : Int) < I 12 3 ∧ L 13 k = L 1 8 ∧ I 14 k = t ∧ rv = some (.inl (I 15 k)) ∧ (0 ≤ I 15 k ∧ I 15 k ≤ 7) ∧ xo_adv [xR 2] I L none I' L'))
def cn_tmL : List (Nat × Nat × xPre × xPost) := [(48, 0, xr_nno, xo_nno), (106, 0, xr_ref, xo_ref), (100, 1, xr_adv, xo_adv)]
theorem cn_tm_ok (hE : z_EX EX) : x_ctok EX l zTB zNT kc D vwCl xb nTY ad yP0 (x_ctl cn_tmL) := x_ctl_cons (xn_no hE) (x_ctl_cons (xn_ref hE) (x_ctl_cons (xn_adv hE) x_ctl_nil))
theorem xn_tm (hE : z_EX EX) : x_Ok EX l zTB zNT kc D vwCl xb nTY ad yP0 112 2 xr_ntm xo_ntm := by
  refine x_meth (M := ym_X10_takeName) hE y_prog 40 rfl (by decide) (cn_tm_ok hE) (fun za I L ⟨t, h, _⟩ => by subst h; exact (by decide : 3 ≤ 4)) (fun za I L ⟨t, h, hb⟩ => ?_)
  subst h
  intro k (hk : k = I 1 6) _
  refine And.intro ?_ ?_
  · intro t1 s (hs : s = L 1 8)
    subst hs
    refine And.intro ⟨_, t, rfl⟩ ?_
    rintro rv I2 L2 ⟨g1, g2, s', t', hst, ⟨k, k1, k2, k3, rfl, k4, k5⟩ | ⟨k1, rfl⟩⟩
    · subst g1
      subst g2
      cases hst
      refine And.intro (fun _ => ?_) (fun q => absurd q (by omega))
      refine And.intro ⟨rfl, hb (by omega)⟩ ?_
      intro rv I3 L3 h
      have h9 := h.1
      subst h9
      exact ⟨t, rfl, Or.inr (Or.inr ⟨by omega, k, k1, k2, k3, rfl, ⟨k4, k5⟩, h⟩)⟩
    · subst g1
      subst g2
      cases hst
      refine And.intro (fun q => absurd rfl q) (fun _ => ?_)
      refine And.intro ⟨3, rfl, by decide, by decide⟩ ?_
      rintro rv I3 L3 ⟨f, hf, rfl, rfl, rfl⟩
      cases hf
      exact ⟨t, rfl, Or.inr (Or.inl ⟨by omega, k1, rfl, rfl, rfl⟩)⟩
  · intro t1
    refine And.intro ⟨1, rfl, by decide, by decide⟩ ?_
    rintro rv I3 L3 ⟨f, hf, rfl, rfl, rfl⟩
    cases hf
    exact ⟨t, rfl, Or.inl ⟨by omega, rfl, rfl, rfl⟩⟩
theorem xn_op (hE : z_EX EX) : x_Ok EX l zTB zNT kc D vwCl xb nTY ad yP0 99 2 xr_op xo_op := by
  refine x_meth (ct := x_ctl [(100, 1, xr_adv, xo_adv)]) (M := ym_X10_open) hE y_prog 40 rfl (by decide) (x_ctl_cons (xn_adv hE) x_ctl_nil) (fun za I L ⟨m, h, _⟩ => by subst h; exact (by decide : 2 ≤ 2)) (fun za I L ⟨m, h, hm, h0, h1⟩ => ?_)
  subst h
  refine And.intro hm ?_
  refine And.intro (by decide) ?_
  refine And.intro (by decide) ?_
  refine And.intro (by decide) ?_
  refine And.intro ⟨rfl, show (0 : Int) ≤ 0 by decide, show (0 : Int) ≤ I 1 2 from h0, show I 1 2 ≤ 940 from h1⟩ ?_
  intro rv I1 L1 h
  have h9 := h.1
  subst h9
  exact ⟨m, rfl, rfl, h⟩
theorem xn_ov (hE : z_EX EX) : x_Ok EX l zTB zNT kc D vwCl xb nTY ad yP0 107 1 xr_t xo_ov := by
  refine x_meth (ct := x_ctl [(106, 0, xr_ref, xo_ref)]) (M := ym_X10_isOver) hE y_prog 30 rfl (by decide) (x_ctl_cons (xn_ref hE) x_ctl_nil) (fun za I L h => by subst h; exact (by decide : 1 ≤ 1)) (fun za I L h => ?_)
  subst h
  intro k (hk : k = I 1 6) _
  refine And.intro ?_ ?_
  · intro t1
    exact ⟨by decide, rfl, Or.inl ⟨by omega, rfl, rfl⟩⟩
  · intro t1
    refine And.intro ⟨1, rfl, by decide, by decide⟩ ?_
    rintro rv I3 L3 ⟨f, hf, rfl, rfl, rfl⟩
    cases hf
    refine And.intro (fun _ => ?_) (fun q => absurd rfl q)
    exact ⟨by decide, rfl, Or.inr ⟨by omega, rfl, rfl⟩⟩
end XNT
