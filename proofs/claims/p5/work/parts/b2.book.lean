/-! ===== book: the tape is empty behind it, where it reads at all ===== -/
def hu_hd (a : Nat × Nat × Nat) : yCut := if a.1 = 0 then (0, [(0, .inr (some 210)), (1, .inl (0, 1))], [], [], true) else hk_hd a
def hu_c0 : Bool := match hq_runV 261 hk_CT 8 8 400 (hk_E (0, 0, 0)) yRC [39] (0, [(0, .inr (some 210)), (1, .inl (0, 1))], [], [], true) with
  | some es => es.all (fun q => hk_hit q (1, 0, 0) && hq_in q (hq_k q 209 2) 0 0)
  | none => false
theorem hu_k0 : hu_c0 = true := by decide +kernel
def hu_o (lo hi : Int) : yCon := (261, [.inr (some 210), .inl (lo, hi)], [], [(some (.inl (-1000, -1000)), [], true)], [(209, 0, 0)], 8, true, [])
theorem hu_c1 : y_ckE yP0 yTYV zTF yRC yGR yCTabV (hu_o (-2147483648) (-1)) [] 100 = true := by decide +kernel
theorem hu_c2 : y_ckE yP0 yTYV zTF yRC yGR yCTabV (hu_o 2 2147483647) [] 100 = true := by decide +kernel
section HU
variable {EX : (Nat → Prop) → State → Heap → Prop} {l : Launch} {kc : Nat → ClassId} {D : va_G} {xb : Nat} {ad : Nat → Option Nat}
abbrev hu_F (w0 : va_W) (a : Nat × Nat × Nat) (ls : Array Slot) (ws : va_W) : Prop := hk_F w0 a ls ws ∧ (a.1 ≠ 0 → hs_cell ws 209 2 0)
abbrev hu_P (w0 : va_W) (rv : Option Value) (u : va_W) : Prop := hk_P w0 rv u ∧ hs_cell u 209 2 0
abbrev hu_go (kc : Nat → ClassId) (ad : Nat → Option Nat) (a : Nat × Nat × Nat) : Prop := y_go1 kc yP0 yTYV zTF yGR yRC w_R hk_CT ad ym_X12_book 400 8 8 hk_D hu_hd hk_E hk_r hk_eff hu_F hu_P a
theorem hu_hd_eq {a : Nat × Nat × Nat} (h : a.1 ≠ 0) : hu_hd a = hk_hd a := if_neg h
theorem hu_r {a b : Nat × Nat × Nat} (ha : a.1 ≠ 0) (h : hk_r b < hk_r a) : hu_hd b = hk_hd b := by
  refine hu_hd_eq (fun hb => ?_)
  obtain ⟨k, i, v⟩ := a
  obtain ⟨k', i', v'⟩ := b
  dsimp only at ha hb
  subst hb
  have h : 1000 < hk_r (k, i, v) := h
  match k, ha with
  | 0, ha => exact ha rfl
  | 1, _ => have h : 1000 < 600 + (41 - i) := h; omega
  | 2, _ => have h : 1000 < 300 + 2 * (41 - i) + 1 := h; omega
  | 3, _ => have h : 1000 < 299 := h; omega
  | 4, _ => have h : 1000 < 300 + 2 * (41 - i) := h; omega
  | 5, _ => have h : 1000 < 299 := h; omega
  | 6, _ => have h : 1000 < 200 := h; omega
  | 7, _ => have h : 1000 < 190 := h; omega
  | n + 8, _ => have h : 1000 < 100 - v := h; omega
theorem hu_go0 {v : Nat × Nat} : hu_go kc ad (0, v) := by
  have hck := hu_k0
  unfold hu_c0 hq_runV at hck
  rw [show yP0 261 = some ym_X12_book from rfl] at hck
  dsimp only at hck
  split at hck
  next es hes =>
    refine ⟨_, es, hes, (show y_sub (hk_E (0, 0, 0)) hk_eff = true by decide +kernel), fun q hq => ?_⟩
    have h9 := List.all_eq_true.mp hck q hq
    rw [Bool.and_eq_true] at h9
    obtain ⟨h9, h10⟩ := h9
    refine Or.inl ⟨(1, 0, 0), Or.inr (Or.inl ⟨rfl, (show 0 ≤ 40 by decide)⟩), (show 600 + (41 - 0) < 1000 by decide), h9, ?_⟩
    intro w0 ws ws' ls ls' e0 env _ _ _ _ _ _ _ hw' _ hB hl' hk
    obtain ⟨x5, w1, w2, w3⟩ := hq_in_cell h10 hk hB
    refine ⟨⟨?_, (show 0 ≤ 40 by decide), fun j hj => absurd hj (Nat.not_lt_zero _)⟩, fun _ => ⟨x5, w1, by omega⟩⟩
    unfold hk_hit y_hit y_cin at h9
    simp only [Bool.and_eq_true] at h9
    have h8 := List.all_eq_true.mp h9.2.2.2.1 ((209, 36), (0, 0), none) List.mem_cons_self
    rw [Bool.and_eq_true] at h8
    obtain ⟨x, x1, x2, x3, _⟩ := y_fm_ok hB hk hw' h8.1
    dsimp only at x1 x2 x3
    exact ⟨x, x1, (show x.toInt = 0 by omega)⟩
  next => cases hck
theorem hu_l1 {a : Nat × Nat × Nat} (ha : a.1 ≠ 0) (hf : hq_free (hk_E a) 209 2 2 = true) (h : hk_go kc ad a) : hu_go kc ad a := y_go1_lift (p := fun a : Nat × Nat × Nat => a.1 ≠ 0) (fun _ hb => hu_hd_eq hb) ha (fun _ hb => hu_r ha hb) hf h
theorem hu_l2 {a : Nat × Nat × Nat} (ha : a.1 ≠ 0) (h : y_goR2 kc yTYV w_R ad 5 hk_D hk_hd hk_r hk_F a) : y_goR2 kc yTYV w_R ad 5 hk_D hu_hd hk_r hu_F a := y_goR2_lift (p := fun a : Nat × Nat × Nat => a.1 ≠ 0) (fun _ hb => hu_hd_eq hb) ha (fun _ hb => hu_r ha hb) h
def hu_K : yCon := (261, [.inr (some 210), .inl (0, 1)], [], [(some (.inl (-2147483648, 2147483647)), [((209, 2), (0, 0), none)], true)], hk_eff, 8, true, [])
theorem hu_ok (hE : z_EX EX) : y_ConOk EX l zTB zNT kc D vwCl xb yTYV yGR w_R ad yP0 hu_K := by
  intro y cc maxL ret tab na sp hP d hd av ws sz env0 hav hpre hri hGo hwt had hnam
  have hP1 : yP0 261 = some (y, cc, maxL, ret, tab, na, sp) := hP
  have e : ym_X12_book = (y, cc, maxL, ret, tab, na, sp) := Option.some.inj ((show yP0 261 = some ym_X12_book from rfl).symm.trans hP1)
  have hmL : maxL = 5 := (congrArg (fun M : yM => M.2.2.1) e).symm
  have hstep : ∀ a, hk_D a → y_go1 kc yP0 yTYV zTF yGR yRC w_R hk_CT ad (y, cc, maxL, ret, tab, na, sp) 400 8 8 hk_D hu_hd hk_E hk_r hk_eff hu_F hu_P a ∨ y_goR2 kc yTYV w_R ad maxL hk_D hu_hd hk_r hu_F a := by
    rw [← e, hmL]
    rintro ⟨k, i, v⟩ ha
    rcases ha with h0 | ⟨h0, hc⟩ | ⟨h0, hc⟩ | h0 | ⟨h0, hc, hf⟩ | ⟨h0, hc⟩ | h0 | h0 | ⟨h0, hu, hi⟩
    · dsimp only at h0; subst h0; exact Or.inl hu_go0
    · dsimp only at h0 hc; subst h0; exact Or.inl (hu_l1 (show (1 : Nat) ≠ 0 by decide) rfl (hk_go1 hc))
    · dsimp only at h0 hc; subst h0; exact Or.inr (hu_l2 (show (2 : Nat) ≠ 0 by decide) (hk_go2 hc))
    · dsimp only at h0; subst h0; exact Or.inl (hu_l1 (show (3 : Nat) ≠ 0 by decide) rfl hk_go3)
    · dsimp only at h0 hc hf; subst h0; exact Or.inl (hu_l1 (show (4 : Nat) ≠ 0 by decide) rfl (hk_go4 hc hf))
    · dsimp only at h0 hc; subst h0; exact Or.inl (hu_l1 (show (5 : Nat) ≠ 0 by decide) rfl (hk_go5 hc))
    · dsimp only at h0; subst h0; exact Or.inl (hu_l1 (show (6 : Nat) ≠ 0 by decide) rfl hk_go6)
    · dsimp only at h0; subst h0; exact Or.inr (hu_l2 (show (7 : Nat) ≠ 0 by decide) hk_go7)
    · dsimp only at h0 hu hi
      subst h0
      refine Or.inl (hu_l1 (show (8 : Nat) ≠ 0 by decide) ?_ (hk_go8 hu hi))
      show hq_free (if v < 56 then [(216, 56 * (i - 1) + v, 56 * (i - 1) + v)] else []) 209 2 2 = true
      by_cases h : v < 56
      · rw [if_pos h]; rfl
      · rw [if_neg h]; rfl
  have hCT : ∀ (j : Nat) (K' : yCon), K' ∈ y_cget hk_CT j → K'.1 = j ∧ (K'.2.2.2.2.2.1 < 8 → y_ConOk EX l zTB zNT kc D vwCl xb yTYV yGR w_R ad yP0 K') := by
    intro j K' hK0
    rcases y_cputl_in (CT := y_cputl (y_cput yCTabV 175 hk_next) 259 ((List.range 41).map hk_lK)) (j := 260) (Ks := (List.range 5).map hk_dK) hK0 with ⟨hj, hK1⟩ | hK1
    · obtain ⟨f, hf, rfl⟩ := List.mem_map.mp hK1
      exact ⟨hj.symm, fun _ => hk_d_ok hE (List.mem_range.mp hf)⟩
    rcases y_cputl_in (CT := y_cput yCTabV 175 hk_next) (j := 259) (Ks := (List.range 41).map hk_lK) hK1 with ⟨hj, hK2⟩ | hK2
    · obtain ⟨n, hn, rfl⟩ := List.mem_map.mp hK2
      exact ⟨hj.symm, fun _ => hk_l_ok hE (by have := List.mem_range.mp hn; omega)⟩
    rcases y_cput_in hK2 with ⟨hj, rfl⟩ | hK3
    · exact ⟨hj.symm, fun _ => hk_next_ok hE⟩
    exact ⟨yCT_jV hK3, fun _ => y_consV hE hK3⟩
  have hW := y_walkR (l := l) (D := D) (xb := xb) (sz := sz) (d := d) (w0 := ws) (av := av) (TB := zTB) (NT := zNT) (cl := vwCl) (n := 8) (d0 := 8) (RC := yRC) (RI := w_R) hE w_R_RI y_prog hCT hP1 hstep (a0 := (0, 0, 0)) (Or.inl rfl) rfl rfl (fun _ => hri rfl) rfl (show 2 ≤ maxL by omega) hd hav (fun _ h => by cases h) (fun _ => ⟨trivial, fun h => absurd rfl h⟩) hGo hwt had
  refine y_Met_conv hW (fun rv u ⟨⟨⟨⟨x, hx1⟩, hx2⟩, hx3⟩, g1, g2, g3, g4⟩ => ⟨_, List.mem_cons_self, ?_, (fun f hf => by
    have := List.mem_singleton.mp hf
    subst this
    exact hs_fv hx3 (by decide) (by decide)), (fun _ => hx2), g1, g2, g3, g4⟩)
  rw [hx1]
  have := z_any x
  exact ⟨⟨x, rfl, by omega, by omega⟩, trivial⟩
end HU
