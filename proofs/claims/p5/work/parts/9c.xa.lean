/-! ===== the class's tape: a run, the next TOKEN ===== -/
/-- cells 5 to 7 of the tape -/
def x_s567 (r k : Nat) : Bool := Nat.beq r 1 && (Nat.beq k 5 || (Nat.beq k 6 || Nat.beq k 7))
def x_s8c (r k : Nat) : Bool := Nat.beq r 1 && Nat.beq k 8
def x_s4567 (r k : Nat) : Bool := Nat.beq r 1 && (Nat.ble 4 k && Nat.ble k 7)
section XT3
variable {EX : (Nat → Prop) → State → Heap → Prop} {l : Launch} {kc : Nat → ClassId} {D : va_G} {xb : Nat} {ad : Nat → Option Nat}
def xr_run : xPre := fun za I _ => za = [xR 2] ∧ 0 ≤ I 1 4 ∧ I 1 4 < I 1 2 ∧ I 1 2 ≤ 940
/-- behind k bytes of the run -/
def x_rn (b : Nat → Int) (n p : Int) (k : Nat) (l d v sp : Int) : Prop := p + k ≤ n ∧ l = t_nl b p k ∧ d = k - l ∧ (l = k → k ≤ 7 → sp = t_sp b p k) ∧ (l = 0 → k ≤ 3 → v = t_val b p k) ∧ (∀ j, j < k → t_al (b (p.toNat + j)) ∨ t_dg (b (p.toNat + j))) ∧ t_end b n p = t_end b n (p + k)
def xo_run : xPost := fun _ I L rv I' L' => rv = none ∧ x_fi x_s567 I I' ∧ x_fi x_s8c L L' ∧ ∃ (k : Nat) (l d : Int), t_end (I 2) (I 1 2) (I 1 4) = I 1 4 + k ∧ x_rn (I 2) (I 1 2) (I 1 4) k l d (I' 1 7) (L' 1 8) ∧ I' 1 5 = I 1 4 + k ∧ I' 1 6 = (if l = k ∧ k ≤ 7 then 2 else if l = 0 ∧ k ≤ 3 then 4 else 1)
abbrev x_cut2 (a b : Nat) : Nat → Bool := fun pc => Nat.beq pc a || Nat.beq pc b
theorem x_cut2_ok {a b pc : Nat} (e : x_cut2 a b pc = true) : pc = a ∨ pc = b := by
  unfold x_cut2 at e
  rw [Bool.or_eq_true] at e
  rcases e with e | e
  · exact Or.inl (Nat.eq_of_beq_eq_true e)
  · exact Or.inr (Nat.eq_of_beq_eq_true e)
theorem x_pow {k : Nat} (h : k ≤ 6) : (32 : Int) ^ k ≤ 1073741824 := by
  have : ∀ k : Fin 7, (32 : Int) ^ k.val ≤ 1073741824 := by decide
  exact this ⟨k, by omega⟩
theorem x_pow10 {k : Nat} (h : k ≤ 2) : (10 : Int) ^ k ≤ 100 := by
  have : ∀ k : Fin 3, (10 : Int) ^ k.val ≤ 100 := by decide
  exact this ⟨k, by omega⟩
abbrev x_cut3 (a b c : Nat) : Nat → Bool := fun pc => Nat.beq pc a || (Nat.beq pc b || Nat.beq pc c)
theorem x_cut3_ok {a b c pc : Nat} (e : x_cut3 a b c pc = true) : pc = a ∨ pc = b ∨ pc = c := by
  unfold x_cut3 at e
  simp only [Bool.or_eq_true] at e
  rcases e with e | e | e
  · exact Or.inl (Nat.eq_of_beq_eq_true e)
  · exact Or.inr (Or.inl (Nat.eq_of_beq_eq_true e))
  · exact Or.inr (Or.inr (Nat.eq_of_beq_eq_true e))
def x_runI (za : List xV) (I L : xF) (n pc : Nat) (lv : List (Nat × xV)) (sv : List xV) (I' L' : xF) : Prop :=
  sv = [] ∧ x_fi x_s567 I I' ∧ x_fi x_s8c L L' ∧ za = [xR 2] ∧ (0 ≤ I 1 4 ∧ I 1 4 < I 1 2 ∧ I 1 2 ≤ 940) ∧ ∃ (k : Nat) (l d : Int), x_rn (I 2) (I 1 2) (I 1 4) k l d (I' 1 7) (L' 1 8) ∧
    ((pc = 27 ∧ lv = [(0, xR 2), (1, .inl l), (2, .inl d), (3, .inl (I 1 4 + k))] ∧ I' 1 5 = I 1 2 ∧ (n : Int) = 2 * (I 1 2 - (I 1 4 + k)) + 1) ∨
     (pc = 82 ∧ lv = [(0, xR 2), (1, .inl l), (2, .inl d), (3, .inl (I 1 4 + k)), (4, .inl (I 2 ((I 1 4).toNat + k)))] ∧ I' 1 5 = I 1 2 ∧ (n : Int) = 2 * (I 1 2 - (I 1 4 + k)) ∧ I 1 4 + k < I 1 2 ∧ ¬ t_al (I 2 ((I 1 4).toNat + k))) ∨
     (pc = 133 ∧ lv = [(0, xR 2), (1, .inl l), (2, .inl d)] ∧ n = 0 ∧ I' 1 5 = I 1 4 + k ∧ t_end (I 2) (I 1 2) (I 1 4) = I 1 4 + k))
theorem x_rn_step {b : Nat → Int} {n p : Int} {k : Nat} {l d v sp : Int} (hp : 0 ≤ p) (h : x_rn b n p k l d v sp) (hn : p + k < n) {l' d' v' sp' : Int} (ha : (t_al (b (p.toNat + k)) ∧ l' = l + 1 ∧ d' = d ∧ v' = v ∧ (l = k → k ≤ 6 → sp' = sp * 32 + (b (p.toNat + k) - 96))) ∨ (¬ t_al (b (p.toNat + k)) ∧ t_dg (b (p.toNat + k)) ∧ l' = l ∧ d' = d + 1 ∧ sp' = sp ∧ (l = 0 → k ≤ 2 → v' = v * 10 + (b (p.toNat + k) - 48)))) : x_rn b n p (k + 1) l' d' v' sp' := by
  obtain ⟨r1, r2, r3, r4, r5, r6, r7⟩ := h
  have hb := t_nl_b (b := b) (x := p) k
  have hall : t_al (b (p.toNat + k)) ∨ t_dg (b (p.toNat + k)) := by
    rcases ha with ha | ha
    · exact Or.inl ha.1
    · exact Or.inr ha.2.1
  have hnl : t_nl b p (k + 1) = t_nl b p k + (if t_al (b (p.toNat + k)) then 1 else 0) := rfl
  have hsp : t_sp b p (k + 1) = t_sp b p k * 32 + (b (p.toNat + k) - 96) := rfl
  have hva : t_val b p (k + 1) = t_val b p k * 10 + (b (p.toNat + k) - 48) := rfl
  have hend : t_end b n p = t_end b n (p + ((k + 1 : Nat) : Int)) := by
    rw [r7, t_end_go hn (by rw [show (p + (k : Int)).toNat = p.toNat + k by omega]; exact hall), show p + (k : Int) + 1 = p + ((k + 1 : Nat) : Int) by omega]
  refine ⟨by omega, ?_, ?_, fun h1 h2 => ?_, fun h1 h2 => ?_, fun j hj => ?_, hend⟩
  · rcases ha with ⟨a1, a2, _⟩ | ⟨a1, _, a2, _⟩
    · rw [hnl, if_pos a1]; omega
    · rw [hnl, if_neg a1]; omega
  · rcases ha with ⟨a1, a2, a3, _⟩ | ⟨a1, _, a2, a3, _⟩ <;> omega
  · rcases ha with ⟨a1, a2, a3, a4, a5⟩ | ⟨a1, _, a2, _⟩
    · rw [a5 (by omega) (by omega), hsp, r4 (by omega) (by omega)]
    · omega
  · rcases ha with ⟨a1, a2, a3, a4, a5⟩ | ⟨a1, _, a2, a3, a4, a5⟩
    · omega
    · rw [a5 (by omega) (by omega), hva, r5 (by omega) (by omega)]
  · rcases Nat.lt_or_ge j k with g | g
    · exact r6 j g
    · obtain rfl : j = k := by omega
      exact hall
set_option maxHeartbeats 2000000 in
theorem xk_run (hE : z_EX EX) : x_Ok EX l zTB zNT kc D vwCl xb yTY ad yP0 103 0 xr_run xo_run := by
  refine x_loop (M := ym_X10_readRun) hE y_prog 80 rfl (by decide) x_none_ok (fun za I L ⟨h, _⟩ => by subst h; exact (by decide : 1 ≤ 5)) (x_cut3 27 82 133) x_runI (fun za I L ⟨h, hp⟩ => ?_) (fun za I L _ n pc lv sv I' L' hc hi => ?_)
  · subst h
    refine And.intro (by decide) ?_
    intro z (hz : z = I 1 2) (bz : 0 ≤ z ∧ z ≤ 940)
    refine And.intro (show 0 ≤ z ∧ z ≤ 941 by omega) ?_
    intro q (hq : q = I 1 4) _
    refine ⟨(2 * (I 1 2 - I 1 4) + 1).toNat, [(0, xR 2), (1, .inl 0), (2, .inl 0), (3, .inl (I 1 4 + (0 : Nat)))], ⟨rfl, rfl, rfl, ?_, trivial⟩, rfl, x_fi_u (x_fi_u x_fi_refl rfl) rfl, x_fi_u x_fi_refl rfl, rfl, hp, 0, 0, 0, ⟨by omega, rfl, rfl, fun _ _ => rfl, fun _ _ => rfl, fun j hj => absurd hj (Nat.not_lt_zero j), by rw [show I 1 4 + ((0 : Nat) : Int) = I 1 4 by omega]⟩, Or.inl ⟨rfl, rfl, hz, by omega⟩⟩
    show some (Sum.inl q) = some (Sum.inl (I 1 4 + ((0 : Nat) : Int)))
    rw [hq, show I 1 4 + ((0 : Nat) : Int) = I 1 4 by omega]
  · obtain ⟨rfl, hfi, hfl, rfl, hp, k, lt, d, hr, h27 | h82 | h133⟩ := hi
    · obtain ⟨rfl, rfl, h5, hn⟩ := h27
      have hr1 := hr.1
      have hb := t_nl_b (b := I 2) (x := I 1 4) k
      have hl2 : lt = t_nl (I 2) (I 1 4) k := hr.2.1
      have e12 : I' 1 2 = I 1 2 := hfi 1 2 rfl
      intro m (hm : m = I' 1 2) (bm : 0 ≤ m ∧ m ≤ 940)
      refine And.intro ?_ ?_
      · intro t1
        refine ⟨0, [(0, xR 2), (1, .inl lt), (2, .inl d)], by omega, ⟨rfl, rfl, rfl, trivial⟩, rfl, hfi, hfl, rfl, hp, k, lt, d, hr, Or.inr (Or.inr ⟨rfl, rfl, rfl, by omega, ?_⟩)⟩
        rw [hr.2.2.2.2.2.2, t_end_end (Or.inl (by omega))]
      · intro t1
        refine And.intro (show 0 ≤ I 1 4 + (k : Int) ∧ I 1 4 + (k : Int) < 940 by omega) ?_
        intro c (hc : c = I' 2 (I 1 4 + (k : Int)).toNat) _
        have hck : c = I 2 ((I 1 4).toNat + k) := by
          rw [hc, hfi 2 _ rfl, show (I 1 4 + (k : Int)).toNat = (I 1 4).toNat + k by omega]
        have h82 : ¬ t_al c → ∃ (j : Nat) (lv' : List (Nat × xV)), j < n ∧ x_subs lv' [(4, .inl c), (0, xR 2), (1, .inl lt), (2, .inl d), (3, .inl (I 1 4 + k))] ∧ x_runI [xR 2] I L j 82 lv' [] I' L' := fun hna => by
          refine ⟨(2 * (I 1 2 - (I 1 4 + k))).toNat, [(0, xR 2), (1, .inl lt), (2, .inl d), (3, .inl (I 1 4 + k)), (4, .inl (I 2 ((I 1 4).toNat + k)))], by omega, ⟨rfl, rfl, rfl, rfl, ?_, trivial⟩, rfl, hfi, hfl, rfl, hp, k, lt, d, hr, Or.inr (Or.inl ⟨rfl, rfl, h5, by omega, by omega, by rw [← hck]; exact hna⟩)⟩
          show some (Sum.inl c) = some (Sum.inl (I 2 ((I 1 4).toNat + k)))
          rw [hck]
        refine And.intro ?_ ?_
        · intro t2
          exact h82 (fun q => by omega)
        · intro t2
          refine And.intro ?_ ?_
          · intro t3
            exact h82 (fun q => by omega)
          · intro t3
            have hal : t_al (I 2 ((I 1 4).toNat + k)) := by rw [← hck]; exact ⟨t2, t3⟩
            refine Or.inl ⟨by omega, ?_⟩
            intro s (hs : s = L' 1 8)
            refine ⟨_, 32, zw_89, by decide +kernel, ?_⟩
            by_cases hg : lt = k ∧ k ≤ 6
            · have hsp := hr.2.2.2.1 hg.1 (by omega)
              have hsb := t_sp_b (b := I 2) (x := I 1 4) k (by omega)
              have hpw := x_pow hg.2
              refine Or.inl ⟨by omega, ?_⟩
              refine Or.inl ⟨by omega, ?_⟩
              refine Or.inl ⟨by omega, ?_⟩
              refine Or.inl ⟨by omega, ?_⟩
              refine ⟨(2 * (I 1 2 - (I 1 4 + ((k + 1 : Nat) : Int))) + 1).toNat, [(0, xR 2), (1, .inl (lt + 1)), (2, .inl d), (3, .inl (I 1 4 + ((k + 1 : Nat) : Int)))], by omega, ⟨rfl, rfl, rfl, ?_, trivial⟩, rfl, hfi, x_fi_u hfl rfl, rfl, hp, k + 1, lt + 1, d, x_rn_step hp.1 hr (by omega) (Or.inl ⟨hal, rfl, rfl, rfl, fun _ _ => ?_⟩), Or.inl ⟨rfl, rfl, h5, by omega⟩⟩
              · show some (Sum.inl (I 1 4 + (k : Int) + 1)) = some (Sum.inl (I 1 4 + ((k + 1 : Nat) : Int)))
                rw [show I 1 4 + (k : Int) + 1 = I 1 4 + ((k + 1 : Nat) : Int) by omega]
              · show s * 32 + (c - 96) = L' 1 8 * 32 + _
                rw [hs, hck]
            · refine Or.inr (fun w _ _ => ?_)
              refine Or.inl ⟨by omega, ?_⟩
              refine Or.inr (fun w2 _ _ => ?_)
              refine Or.inl ⟨by omega, ?_⟩
              refine ⟨(2 * (I 1 2 - (I 1 4 + ((k + 1 : Nat) : Int))) + 1).toNat, [(0, xR 2), (1, .inl (lt + 1)), (2, .inl d), (3, .inl (I 1 4 + ((k + 1 : Nat) : Int)))], by omega, ⟨rfl, rfl, rfl, ?_, trivial⟩, rfl, hfi, x_fi_u hfl rfl, rfl, hp, k + 1, lt + 1, d, x_rn_step hp.1 hr (by omega) (Or.inl ⟨hal, rfl, rfl, rfl, fun h1 h2 => absurd ⟨h1, h2⟩ hg⟩), Or.inl ⟨rfl, rfl, h5, by omega⟩⟩
              show some (Sum.inl (I 1 4 + (k : Int) + 1)) = some (Sum.inl (I 1 4 + ((k + 1 : Nat) : Int)))
              rw [show I 1 4 + (k : Int) + 1 = I 1 4 + ((k + 1 : Nat) : Int) by omega]
    · obtain ⟨rfl, rfl, h5, hn, hlt, hna⟩ := h82
      have hr1 := hr.1
      have hb := t_nl_b (b := I 2) (x := I 1 4) k
      have hl2 : lt = t_nl (I 2) (I 1 4) k := hr.2.1
      have hd2 : d = k - lt := hr.2.2.1
      have h133 : ¬ t_dg (I 2 ((I 1 4).toNat + k)) → ∃ (j : Nat) (lv' : List (Nat × xV)), j < n ∧ x_subs lv' [(0, xR 2), (1, .inl lt), (2, .inl d), (3, .inl (I 1 4 + k)), (4, .inl (I 2 ((I 1 4).toNat + k)))] ∧ x_runI [xR 2] I L j 133 lv' [] (x_u I' 1 5 (I 1 4 + k)) L' := fun hnd => by
        refine ⟨0, [(0, xR 2), (1, .inl lt), (2, .inl d)], by omega, ⟨rfl, rfl, rfl, trivial⟩, rfl, x_fi_u hfi rfl, hfl, rfl, hp, k, lt, d, hr, Or.inr (Or.inr ⟨rfl, rfl, rfl, rfl, ?_⟩)⟩
        rw [hr.2.2.2.2.2.2, t_end_end (Or.inr ?_)]
        rw [show (I 1 4 + (k : Int)).toNat = (I 1 4).toNat + k by omega]
        rintro (q | q)
        · exact hna q
        · exact hnd q
      refine And.intro ?_ ?_
      · intro t2
        refine And.intro (show 0 ≤ I 1 4 + (k : Int) ∧ I 1 4 + (k : Int) ≤ 941 by omega) ?_
        exact h133 (fun q => by omega)
      · intro t2
        refine And.intro ?_ ?_
        · intro t3
          refine And.intro (show 0 ≤ I 1 4 + (k : Int) ∧ I 1 4 + (k : Int) ≤ 941 by omega) ?_
          exact h133 (fun q => by omega)
        · intro t3
          have hdg : t_dg (I 2 ((I 1 4).toNat + k)) := ⟨t2, t3⟩
          refine Or.inl ⟨by omega, ?_⟩
          intro v (hv : v = I' 1 7) (bv : -2147483648 ≤ v ∧ v ≤ 2147483647)
          by_cases hg : lt = 0 ∧ k ≤ 2
          · have hva := hr.2.2.2.2.1 hg.1 (by omega)
            have hvb := t_val_b (b := I 2) (x := I 1 4) k (by omega) hr.2.2.2.2.2.1
            have hpw := x_pow10 hg.2
            refine Or.inl ⟨by omega, ?_⟩
            refine Or.inl ⟨by omega, ?_⟩
            refine Or.inl ⟨by omega, ?_⟩
            refine And.intro (show -2147483648 ≤ v * 10 + (I 2 ((I 1 4).toNat + k) - 48) ∧ v * 10 + (I 2 ((I 1 4).toNat + k) - 48) ≤ 2147483647 by omega) ?_
            refine Or.inl ⟨by omega, ?_⟩
            refine ⟨(2 * (I 1 2 - (I 1 4 + ((k + 1 : Nat) : Int))) + 1).toNat, [(0, xR 2), (1, .inl lt), (2, .inl (d + 1)), (3, .inl (I 1 4 + ((k + 1 : Nat) : Int)))], by omega, ⟨rfl, rfl, rfl, ?_, trivial⟩, rfl, x_fi_u hfi rfl, hfl, rfl, hp, k + 1, lt, d + 1, x_rn_step hp.1 hr (by omega) (Or.inr ⟨hna, hdg, rfl, rfl, rfl, fun _ _ => ?_⟩), Or.inl ⟨rfl, rfl, h5, by omega⟩⟩
            · show some (Sum.inl (I 1 4 + (k : Int) + 1)) = some (Sum.inl (I 1 4 + ((k + 1 : Nat) : Int)))
              rw [show I 1 4 + (k : Int) + 1 = I 1 4 + ((k + 1 : Nat) : Int) by omega]
            · show v * 10 + (_ - 48) = I' 1 7 * 10 + _
              rw [hv]
          · refine Or.inr (fun w _ _ => ?_)
            refine Or.inl ⟨by omega, ?_⟩
            refine Or.inr (fun w2 b1 b2 => ?_)
            refine And.intro ⟨b1, b2⟩ ?_
            refine Or.inl ⟨by omega, ?_⟩
            refine ⟨(2 * (I 1 2 - (I 1 4 + ((k + 1 : Nat) : Int))) + 1).toNat, [(0, xR 2), (1, .inl lt), (2, .inl (d + 1)), (3, .inl (I 1 4 + ((k + 1 : Nat) : Int)))], by omega, ⟨rfl, rfl, rfl, ?_, trivial⟩, rfl, x_fi_u hfi rfl, hfl, rfl, hp, k + 1, lt, d + 1, x_rn_step hp.1 hr (by omega) (Or.inr ⟨hna, hdg, rfl, rfl, rfl, fun h1 h2 => absurd ⟨h1, h2⟩ hg⟩), Or.inl ⟨rfl, rfl, h5, by omega⟩⟩
            show some (Sum.inl (I 1 4 + (k : Int) + 1)) = some (Sum.inl (I 1 4 + ((k + 1 : Nat) : Int)))
            rw [show I 1 4 + (k : Int) + 1 = I 1 4 + ((k + 1 : Nat) : Int) by omega]
    · obtain ⟨rfl, rfl, rfl, h5, he⟩ := h133
      have hb := t_nl_b (b := I 2) (x := I 1 4) k
      have hl2 : lt = t_nl (I 2) (I 1 4) k := hr.2.1
      have hd2 : d = k - lt := hr.2.2.1
      have hfin : ∀ (q : Int), (q = if lt = k ∧ k ≤ 7 then 2 else if lt = 0 ∧ k ≤ 3 then 4 else 1) → ∀ I'' : xF, (x_fi x_s567 I I'' ∧ I'' 1 7 = I' 1 7 ∧ I'' 1 5 = I' 1 5 ∧ I'' 1 6 = q) → xo_run [xR 2] I L none I'' L' := fun q hq I'' ⟨g1, g2, g3, g4⟩ => ⟨rfl, g1, hfl, k, lt, d, he, by rw [g2]; exact hr, by rw [g3]; exact h5, by rw [g4]; exact hq⟩
      refine And.intro (by decide) ?_
      refine And.intro ?_ ?_
      · intro t1
        refine And.intro ?_ ?_
        · intro t2
          exact hfin 1 (by rw [if_neg (by omega), if_neg (by omega)]) _ ⟨x_fi_u hfi rfl, rfl, rfl, rfl⟩
        · intro t2
          refine And.intro ?_ ?_
          · intro t3
            exact hfin 1 (by rw [if_neg (by omega), if_neg (by omega)]) _ ⟨x_fi_u hfi rfl, rfl, rfl, rfl⟩
          · intro t3
            refine And.intro (by decide) ?_
            exact hfin 4 (by rw [if_neg (by omega), if_pos (by omega)]) _ ⟨x_fi_u (x_fi_u hfi rfl) rfl, rfl, rfl, rfl⟩
      · intro t1
        refine And.intro ?_ ?_
        · intro t2
          refine And.intro ?_ ?_
          · intro t3
            exact hfin 1 (by rw [if_neg (by omega), if_neg (by omega)]) _ ⟨x_fi_u hfi rfl, rfl, rfl, rfl⟩
          · intro t3
            exact absurd t3 (by omega)
        · intro t2
          refine And.intro (by decide) ?_
          exact hfin 2 (by rw [if_pos (by omega)]) _ ⟨x_fi_u (x_fi_u hfi rfl) rfl, rfl, rfl, rfl⟩
end XT3
