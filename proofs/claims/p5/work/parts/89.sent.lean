section HZ2
variable {EX : (Nat → Prop) → State → Heap → Prop} {l : Launch} {kc : Nat → ClassId} {D : va_G} {xb : Nat} {ad : Nat → Option Nat}
theorem hz_goa {O P : Nat} : y_goR2 kc yTYV hs_I ad 3 hz_D hz_hd hz_r hz_F (1, O, P) := by
  intro w0 ws ls vs hF hri hw hv hlv hfs
  obtain ⟨f1, f2, f3, f4⟩ := hF
  dsimp only at f3 f4
  obtain ⟨n, n1, n2⟩ := hs_nat (r := 209) (k := 44) hw (q := (0, 1)) (by decide +kernel) (by decide)
  obtain ⟨m, m1, m2⟩ := hs_nat (r := 209) (k := 11) hw (q := (0, 4)) (by decide +kernel) (by decide)
  obtain ⟨o, o1, o2⟩ := hs_nat (r := 209) (k := 41) hw (q := (0, 20)) (by decide +kernel) (by decide)
  obtain ⟨p, p1, p2⟩ := hs_nat (r := 209) (k := 4) hw (q := (0, 940)) (by decide +kernel) (by decide)
  dsimp only at n2 m2 o2 p2
  by_cases hn : n = 0
  · refine ⟨(2, O, 0), Or.inl (show 2 ≤ 9 by decide), (show 1000 + 4000 * O + 1 < 1000 + 4000 * O + 3 * P + 6 by omega), rfl, fun _ => f2, ⟨f1, f3⟩, ⟨vs, hv, hlv⟩, fun f hf => ?_⟩
    rcases List.mem_cons.mp hf with rfl | hf
    · exact hs_fv n1 (by omega) (by omega)
    · have := List.mem_singleton.mp hf
      subst this
      exact hs_fv o1 (by omega) (by omega)
  · by_cases hm : m = 4
    · refine ⟨(5, 0, 0), Or.inl (show 5 ≤ 9 by decide), (show 303 < 1000 + 4000 * O + 3 * P + 6 by omega), rfl, fun _ => f2, f1, ⟨vs, hv, hlv⟩, fun f hf => ?_⟩
      rcases List.mem_cons.mp hf with rfl | hf
      · exact hs_fv n1 (by omega) (by omega)
      · have := List.mem_singleton.mp hf
        subst this
        exact hs_fv m1 (by omega) (by omega)
    · refine ⟨(3, O, P), Or.inl (show 3 ≤ 9 by decide), (show 1000 + 4000 * O + 3 * P + 5 < 1000 + 4000 * O + 3 * P + 6 by omega), rfl, fun _ => f2, ⟨f1, f3, f4⟩, ⟨vs, hv, hlv⟩, fun f hf => ?_⟩
      rcases List.mem_cons.mp hf with rfl | hf
      · exact hs_fv n1 (by omega) (by omega)
      · rcases List.mem_cons.mp hf with rfl | hf
        · exact hs_fv m1 (by omega) (by omega)
        · have := List.mem_singleton.mp hf
          subst this
          exact hs_fv p1 (by omega) (by omega)
theorem hz_gob {i v : Nat} (hi : i ≤ 120) : y_goR2 kc yTYV hs_I ad 3 hz_D hz_hd hz_r hz_F (10, i, v) := by
  intro w0 ws ls vs hF hri hw hv hlv hfs
  have hF2 := hF
  obtain ⟨c, h1, h2, h3, h4, h5⟩ := hF
  dsimp only at h3 h5
  by_cases hc : i = 3 * c
  · refine ⟨(12, c, 0), Or.inr (Or.inr (Or.inr ⟨rfl, h4⟩)), (show 0 < 2 * (125 - i) + 1 by omega), rfl, hri, ⟨c, h1, h2, Nat.le_refl _, h4, fun j hj => h5 j (by dsimp only at hj; omega)⟩, ⟨vs, ?_, hlv⟩, fun f hf => ?_⟩
    · show z_L (y_pv ad) [.inr (some 210), .inl (0, 0), .inl (Int.ofNat (3 * c), Int.ofNat (3 * c))] vs
      rw [← hc]
      exact hv
    · have := List.mem_singleton.mp hf
      subst this
      exact hs_fv h1 (Int.le_refl _) (Int.le_refl _)
  · refine ⟨(11, i, 0), Or.inr (Or.inr (Or.inl ⟨rfl, (show i < 120 by omega)⟩)), (show 2 * (125 - i) < 2 * (125 - i) + 1 by omega), rfl, hri, ⟨hF2, fun c' hc' => (show i < 3 * c' by have := hs_one hc' h1; omega)⟩, ⟨vs, hv, hlv⟩, fun f hf => ?_⟩
    have := List.mem_singleton.mp hf
    subst this
    exact hs_fv h1 (show ((i / 3 + 1 : Nat) : Int) ≤ (c : Int) by omega) (by omega)
theorem hz_goc {v : Nat × Nat} : y_goR2 kc yTYV hs_I ad 3 hz_D hz_hd hz_r hz_F (9, v) := fun w0 ws ls vs hF => hF.elim
def hz_K : yCon := (269, [.inr (some 210)], [], [(some (.inl (-2147483648, 2147483647)), [], true)], hz_eff, 7, true, [])
theorem hz_ok (hE : z_EX EX) : y_ConOk EX l zTB zNT kc D vwCl xb yTYV yGR w_RI ad yP0 hz_K := by
  intro y cc maxL ret tab na sp hP d hd av ws sz env0 hav hpre hri hGo hwt had hnam
  have hP1 : yP0 269 = some (y, cc, maxL, ret, tab, na, sp) := hP
  have e : ym_X12_sentence = (y, cc, maxL, ret, tab, na, sp) := Option.some.inj ((show yP0 269 = some ym_X12_sentence from rfl).symm.trans hP1)
  have hmL : maxL = 3 := (congrArg (fun M : yM => M.2.2.1) e).symm
  have hstep : ∀ a, hz_D a → y_go1 kc yP0 yTYV zTF yGR hs_RC hs_I hz_CT ad (y, cc, maxL, ret, tab, na, sp) 400 7 7 hz_D hz_hd hz_E hz_r hz_eff hz_F hz_P a ∨ y_goR2 kc yTYV hs_I ad maxL hz_D hz_hd hz_r hz_F a := by
    rw [← e, hmL]
    rintro ⟨k, v⟩ ha
    rcases ha with h0 | ⟨h0, hc⟩ | ⟨h0, hc⟩ | ⟨h0, hc⟩
    · dsimp only at h0
      match k, h0 with
      | 0, _ => exact Or.inl hz_go0
      | 1, _ => exact Or.inr hz_goa
      | 2, _ => exact Or.inl hz_go2
      | 3, _ => exact Or.inl hz_go3
      | 4, _ => exact Or.inl hz_go4
      | 5, _ => exact Or.inl hz_go5
      | 6, _ => exact Or.inl hz_go6
      | 7, _ => exact Or.inl hz_go7
      | 8, _ => exact Or.inl hz_go8
      | 9, _ => exact Or.inr hz_goc
      | n + 10, h => omega
    · dsimp only at h0 hc; subst h0; exact Or.inr (hz_gob hc)
    · dsimp only at h0 hc; subst h0; exact Or.inl (hz_go11 hc)
    · dsimp only at h0 hc; subst h0; exact Or.inl (hz_go12 hc)
  have hCT : ∀ (j : Nat) (K' : yCon), K' ∈ y_cget hz_CT j → K'.1 = j ∧ (K'.2.2.2.2.2.1 < 7 → y_ConOk EX l zTB zNT kc D vwCl xb yTYV yGR hs_I ad yP0 K') := by
    intro j K' hK'
    rcases y_cput_in hK' with ⟨rfl, rfl⟩ | hK'
    · exact ⟨rfl, fun _ => ho_ok hE⟩
    rcases y_cput_in hK' with ⟨rfl, rfl⟩ | hK'
    · exact ⟨rfl, fun _ => hb_ok2 hE⟩
    rcases y_cput_in hK' with ⟨rfl, rfl⟩ | hK'
    · exact ⟨rfl, fun _ => hb_ok1 hE⟩
    rcases y_cput_in hK' with ⟨rfl, rfl⟩ | hK'
    · exact ⟨rfl, fun _ => hn_joins hE⟩
    rcases y_cput_in hK' with ⟨rfl, rfl⟩ | hK'
    · exact ⟨rfl, fun _ => hn_nots hE⟩
    exact ⟨yCT_jV hK', fun _ => y_consV hE hK'⟩
  obtain ⟨r1, r2, r3⟩ := hri rfl
  have hW := y_walkR (l := l) (D := D) (xb := xb) (sz := sz) (d := d) (w0 := ws) (av := av) (TB := zTB) (NT := zNT) (cl := vwCl) (n := 7) (d0 := 7) (RC := hs_RC) (RI := hs_I) hE hs_RI y_prog hCT hP1 hstep (a0 := (0, 0, 0)) (Or.inl (show 0 ≤ 9 by decide)) rfl rfl (fun h => by cases h) rfl (show 1 ≤ maxL by omega) hd hav (fun _ h => by cases h) (fun _ => r1) hGo hwt had
  refine y_Met_conv hW (fun rv u ⟨⟨⟨x, hx1⟩, hx2⟩, g1, g2, g3, g4⟩ => ⟨_, List.mem_cons_self, ?_, (fun _ h => by cases h), (fun _ => ?_), g1, g2, g3, g4⟩)
  · rw [hx1]
    have := z_any x
    exact ⟨⟨x, rfl, by omega, by omega⟩, trivial⟩
  · obtain ⟨c1, c2, c3⟩ := w_cntV hwt
    exact ⟨hx2, w_WF_same (fun k _ _ => hq_free_ok (E := hz_eff) (a := 0) (b := 597) (by decide) g3 (by omega) (by omega)) c2 r2, w_WF_same (fun k _ _ => hq_free_ok (E := hz_eff) (a := 0) (b := 597) (by decide) g3 (by omega) (by omega)) c3 r3⟩
end HZ2
