/-! ===== a BOOK, as LINES over TOKENS ===== -/
def q_nx (b : Nat → Int) (n : Int) (T : pT) : pT := t_tok b n 400 T.2.2.1
abbrev q_w (T : pT) (s : Int) : Prop := T.1 = 2 ∧ T.2.2.2 = s
abbrev q_nm (T : pT) : Prop := T.1 = 2 ∧ T.2.2.2 ∉ x_W32
def q_name (b : Nat → Int) (n : Int) (N : List Int) (T : pT) : (Int × Int) ⊕ pT := if ¬ q_nm T then .inl (T.2.1, 1) else if T.2.2.2 ∉ N then .inl (T.2.1, 3) else .inr (q_nx b n T)
def q_num (b : Nat → Int) (n : Int) (T : pT) : (Int × Int) ⊕ pT := if T.1 ≠ 4 then .inl (T.2.1, 1) else if T.2.2.2 < 1 ∨ 60 < T.2.2.2 then .inl (T.2.1, 2) else .inr (q_nx b n T)
def q_wears (b : Nat → Int) (n : Int) (C : List Int) (T : pT) : (Int × Int) ⊕ pT := if q_w T 24282707 then q_name b n C (q_nx b n T) else .inl (T.2.1, 1)
def q_coat (b : Nat → Int) (n : Int) (S M : List Int) (T : pT) : (Int × Int) ⊕ pT := if q_w T 402611 then q_name b n S (q_nx b n T) else if q_w T 398804 then q_name b n M (q_nx b n T) else if q_w T 366100 then .inr (q_nx b n T) else .inl (T.2.1, 1)
/-- a LINE: its FAULT, or the TOKEN behind it; k LINES stand before it -/
def q_line (b : Nat → Int) (n : Int) (S M C : List Int) (k : Int) (T : pT) : (Int × Int) ⊕ pT :=
  if q_w T 4153 then (if 40 ≤ k then .inl (T.2.1, 4) else q_num b n (q_nx b n T))
  else if ¬ q_nm T then .inl (T.2.1, 1)
  else if T.2.2.2 ∉ C ∧ T.2.2.2 ∉ M then .inl (T.2.1, 3)
  else if 40 ≤ k then .inl (T.2.1, 4)
  else if T.2.2.2 ∉ C then q_wears b n C (q_nx b n T) else q_coat b n S M (q_nx b n T)
def q_bk (b : Nat → Int) (n : Int) (S M C : List Int) : Nat → pT → Option (Int × Int)
  | 0, _ => none
  | f + 1, T => if T.1 = 0 then none else match q_line b n S M C (40 - (f : Int)) T with
    | .inl e => some e
    | .inr T1 => if T1.1 = 5 ∧ T1.2.2.2 = 59 then q_bk b n S M C f (q_nx b n T1) else some (T1.2.1, 1)
def q_text (b : Nat → Int) (n : Int) (S M C : List Int) : Option (Int × Int) := q_bk b n S M C 41 (t_tok b n 400 0)
def q_fl (r : Option (Int × Int)) : Int := match r with
  | none => 0
  | some (_, f) => f
theorem q_bk_end {b : Nat → Int} {n : Int} {S M C : List Int} {f : Nat} {T : pT} (h : T.1 = 0) : q_bk b n S M C (f + 1) T = none := by
  show (if T.1 = 0 then none else _) = none
  rw [if_pos h]
theorem q_bk_bad {b : Nat → Int} {n : Int} {S M C : List Int} {f : Nat} {T : pT} {k : Int} {e : Int × Int} (h : T.1 ≠ 0) (hk : k = 40 - (f : Int)) (hl : q_line b n S M C k T = .inl e) : q_bk b n S M C (f + 1) T = some e := by
  subst hk
  show (if T.1 = 0 then none else match q_line b n S M C (40 - (f : Int)) T with
    | .inl e => some e
    | .inr T1 => if T1.1 = 5 ∧ T1.2.2.2 = 59 then q_bk b n S M C f (q_nx b n T1) else some (T1.2.1, 1)) = some e
  rw [if_neg h, hl]
theorem q_bk_go {b : Nat → Int} {n : Int} {S M C : List Int} {f : Nat} {T T1 : pT} {k : Int} (h : T.1 ≠ 0) (hk : k = 40 - (f : Int)) (hl : q_line b n S M C k T = .inr T1) : q_bk b n S M C (f + 1) T = if T1.1 = 5 ∧ T1.2.2.2 = 59 then q_bk b n S M C f (q_nx b n T1) else some (T1.2.1, 1) := by
  subst hk
  show (if T.1 = 0 then none else match q_line b n S M C (40 - (f : Int)) T with
    | .inl e => some e
    | .inr T1 => if T1.1 = 5 ∧ T1.2.2.2 = 59 then q_bk b n S M C f (q_nx b n T1) else some (T1.2.1, 1)) = _
  rw [if_neg h, hl]
theorem q_line_40 {b : Nat → Int} {n : Int} {S M C : List Int} {k : Int} {T T1 : pT} (hl : q_line b n S M C k T = .inr T1) : k < 40 := by
  unfold q_line at hl
  split at hl
  · split at hl
    · cases hl
    · omega
  · split at hl
    · cases hl
    · split at hl
      · cases hl
      · split at hl
        · cases hl
        · omega
/-! ===== the class's reader of a BOOK ===== -/
def sb_st (b : Nat → Int) (n : Int) (S M C : List Int) (T : pT) (I L : xF) : Prop :=
  (I 2 = b ∧ I 1 2 = n ∧ I 1 3 = 400 ∧ (0 ≤ n ∧ n ≤ 940) ∧ I 1 9 = 0) ∧ c_tok T I L ∧ (∃ p, 0 ≤ p ∧ p ≤ n ∧ T = t_tok b n 400 p) ∧ n3_c 12 S M C I L
theorem sb_pos {b : Nat → Int} {n : Int} {S M C : List Int} {T : pT} {I L : xF} (h : sb_st b n S M C T I L) (hk : 2 ≤ T.1) : 0 ≤ T.2.2.1 ∧ T.2.2.1 ≤ n := by
  obtain ⟨_, _, ⟨p, p0, p1, rfl⟩, _⟩ := h
  have := t_tok_pos (b := b) (most := 400) p0 p1 hk
  omega
theorem sb_bh {b : Nat → Int} {n : Int} {S M C : List Int} {T : pT} {I L : xF} (h : sb_st b n S M C T I L) (hk : 2 ≤ T.1) : x_bh I := by
  have hp := sb_pos h hk
  obtain ⟨⟨e1, e2, e3, e4, e5⟩, h2, _⟩ := h
  have h5 := h2.2.1 hk
  unfold x_bh
  omega
theorem sb_bh3 {b : Nat → Int} {n : Int} {S M C : List Int} {T : pT} {I L : xF} (h : sb_st b n S M C T I L) (hk : I 1 6 = 3) : x_bh I := sb_bh h (by
  have := ((c_tok_name h.2.1).1.mp hk).1
  omega)
theorem sb_bh4 {b : Nat → Int} {n : Int} {S M C : List Int} {T : pT} {I L : xF} (h : sb_st b n S M C T I L) (hk : I 1 6 = 4) : x_bh I := sb_bh h (by
  have := (c_tok_num h.2.1).1.mp hk
  omega)
theorem sb_bh5 {b : Nat → Int} {n : Int} {S M C : List Int} {T : pT} {I L : xF} (h : sb_st b n S M C T I L) (hk : I 1 6 = 5) : x_bh I := sb_bh h (by
  have := (c_tok_sign h.2.1).1.mp hk
  omega)
theorem sb_adv {b : Nat → Int} {n : Int} {S M C : List Int} {T : pT} {I L : xF} {I' L' : xF} (hk : 2 ≤ T.1) (h : sb_st b n S M C T I L) (ha : xo_adv [xR 2] I L none I' L') : sb_st b n S M C (q_nx b n T) I' L' ∧ I' 136 4 = I 136 4 := by
  have hp := sb_pos h hk
  obtain ⟨⟨e1, e2, e3, e4, e5⟩, h2, h3, h4⟩ := h
  obtain ⟨_, f1, f2, f3⟩ := ha
  have h5 := h2.2.1 hk
  rw [e1, e2, e3, h5] at f3
  refine ⟨⟨⟨?_, (f1 1 2 rfl).trans e2, (f1 1 3 rfl).trans e3, e4, (f1 1 9 rfl).trans e5⟩, f3, ⟨T.2.2.1, hp.1, hp.2, rfl⟩, n3_c_eq h4 (f1 12 3 rfl) (fun k _ => f2 13 k rfl) (fun k _ => f1 14 k rfl)⟩, f1 136 4 rfl⟩
  rw [← e1]
  exact funext (fun j => f1 2 j rfl)
theorem sb_fr {b : Nat → Int} {n : Int} {S M C : List Int} {T : pT} {I L : xF} {I' : xF} (h : sb_st b n S M C T I L) (e : ∀ r k, r < 136 → I' r k = I r k) : sb_st b n S M C T I' L := by
  obtain ⟨⟨e1, e2, e3, e4, e5⟩, h2, h3, h4⟩ := h
  refine ⟨⟨?_, (e 1 2 (by decide)).trans e2, (e 1 3 (by decide)).trans e3, e4, (e 1 9 (by decide)).trans e5⟩, c_tok_eq h2 (fun k => e 1 k (by decide)) rfl, h3, n3_c_eq h4 (e 12 3 (by decide)) (fun _ _ => rfl) (fun k _ => e 14 k (by decide))⟩
  rw [← e1]
  exact funext (fun j => e 2 j (by decide))
theorem sb_fr2 {b : Nat → Int} {n : Int} {S M C : List Int} {T : pT} {I L : xF} {I' : xF} (h : sb_st b n S M C T I L) (e : ∀ r k, r ≠ 136 → I' r k = I r k) : sb_st b n S M C T I' L := sb_fr h (fun r k hr => e r k (by omega))
def sb_lf (b : Nat → Int) (n : Int) (S M C : List Int) (r : (Int × Int) ⊕ pT) (I' L' : xF) (nu : Int) : Prop := match r with
  | .inl (at0, f) => nu = -1 ∧ I' 1 9 = f ∧ I' 1 10 = at0
  | .inr T' => nu ≠ -1 ∧ sb_st b n S M C T' I' L'
def sb_out (b : Nat → Int) (n : Int) (S M C : List Int) (r : (Int × Int) ⊕ pT) (rv : Option xV) (I' L' : xF) : Prop := match r with
  | .inl (at0, f) => rv = some (.inl 0) ∧ I' 1 9 = f ∧ I' 1 10 = at0
  | .inr T' => rv = some (.inl 1) ∧ sb_st b n S M C T' I' L'
theorem sb_out_rv {b : Nat → Int} {n : Int} {S M C : List Int} {r : (Int × Int) ⊕ pT} {rv : Option xV} {I L : xF} (h : sb_out b n S M C r rv I L) : rv = some (.inl 0) ∨ rv = some (.inl 1) := by
  rcases r with ⟨at0, f⟩ | T
  · exact Or.inl h.1
  · exact Or.inr h.1
theorem sb_out_0 {b : Nat → Int} {n : Int} {S M C : List Int} {r : (Int × Int) ⊕ pT} {I L : xF} (h : sb_out b n S M C r (some (.inl 0)) I L) : ∃ at0 f, r = .inl (at0, f) ∧ I 1 9 = f := by
  rcases r with ⟨at0, f⟩ | T
  · exact ⟨at0, f, rfl, h.2.1⟩
  · exact (rm_ne10 h.1.symm).elim
theorem sb_out_1 {b : Nat → Int} {n : Int} {S M C : List Int} {r : (Int × Int) ⊕ pT} {I L : xF} (h : sb_out b n S M C r (some (.inl 1)) I L) : ∃ T, r = .inr T ∧ sb_st b n S M C T I L := by
  rcases r with ⟨at0, f⟩ | T
  · exact (rm_ne10 h.1).elim
  · exact ⟨T, rfl, h.2⟩
/-- a NAME of a sort is taken -/
theorem sb_name {b : Nat → Int} {n : Int} {S M C N : List Int} {T : pT} {I L : xF} {I' L' : xF} {rv : Option xV} {u : Int} (hsu : ∀ x, n3_in 12 I L u x ↔ x ∈ N) (h : sb_st b n S M C T I L) (hp : xo_ntm [xR 2, xR 13, .inl u] I L rv I' L') : ∃ nu, rv = some (.inl nu) ∧ (-1 ≤ nu ∧ nu ≤ 7) ∧ sb_lf b n S M C (q_name b n N T) I' L' nu ∧ I' 136 4 = I 136 4 := by
  obtain ⟨u', hu, hp⟩ := hp
  have hu : u = u' := by
    simp only [List.cons.injEq, Sum.inl.injEq] at hu
    exact hu.2.2.1
  subst hu
  have hn := c_tok_name h.2.1
  rcases hp with ⟨k1, rfl, rfl, rfl⟩ | ⟨k1, k2, rfl, rfl, rfl⟩ | ⟨k1, k, k2, k3, k4, rfl, k5, k6⟩
  · refine ⟨-1, rfl, by decide, ?_, rfl⟩
    unfold q_name
    rw [if_pos (fun q => k1 (hn.1.mpr q))]
    exact ⟨rfl, rfl, h.2.1.1⟩
  · refine ⟨-1, rfl, by decide, ?_, rfl⟩
    have h9 := hn.1.mp k1
    unfold q_name
    rw [if_neg (fun q => q h9), if_pos (fun q => by
      obtain ⟨k, g1, g2, g3⟩ := (hsu _).mpr q
      exact k2 k g1 ⟨g2.trans (hn.2 k1).symm, g3⟩)]
    exact ⟨rfl, rfl, h.2.1.1⟩
  · have h9 := hn.1.mp k1
    have hA := sb_adv (by omega) h k6
    refine ⟨I 15 k, rfl, by omega, ?_, hA.2⟩
    unfold q_name
    rw [if_neg (fun q => q h9), if_neg (fun q => q ((hsu _).mp ⟨k, k2, k3.trans (hn.2 k1), k4⟩))]
    exact ⟨by omega, hA.1⟩
theorem sb_num {b : Nat → Int} {n : Int} {S M C : List Int} {T : pT} {I L : xF} {I' L' : xF} {rv : Option xV} (h : sb_st b n S M C T I L) (hp : xo_tn [xR 2, .inl 1, .inl 60] I L rv I' L') : ∃ nu, rv = some (.inl nu) ∧ (-1 ≤ nu ∧ nu ≤ 60) ∧ sb_lf b n S M C (q_num b n T) I' L' nu ∧ I' 136 4 = I 136 4 := by
  obtain ⟨lo, hi, hu, hp⟩ := hp
  cases hu
  have hn := c_tok_num h.2.1
  rcases hp with ⟨k1, k2, k3, rfl, k6⟩ | ⟨k1, rfl, rfl, rfl⟩ | ⟨k1, k2, rfl, rfl, rfl⟩
  · have h9 := hn.1.mp k1
    have h8 := hn.2 k1
    have hA := sb_adv (by omega) h k6
    refine ⟨I 1 7, rfl, by omega, ?_, hA.2⟩
    unfold q_num
    rw [if_neg (fun q => q h9), if_neg (by omega)]
    exact ⟨by omega, hA.1⟩
  · refine ⟨-1, rfl, by decide, ?_, rfl⟩
    unfold q_num
    rw [if_pos (fun q => k1 (hn.1.mpr q))]
    exact ⟨rfl, rfl, h.2.1.1⟩
  · have h9 := hn.1.mp k1
    have h8 := hn.2 k1
    refine ⟨-1, rfl, by decide, ?_, rfl⟩
    unfold q_num
    rw [if_neg (fun q => q h9), if_pos (by omega)]
    exact ⟨rfl, rfl, h.2.1.1⟩
/-- whether a NAME of a sort is known -/
theorem sb_no {I L I' L' : xF} {s t : Int} {rv : Option xV} (h : xo_nno [xR 13, .inr (.inl s), .inl t] I L rv I' L') : I' = I ∧ L' = L ∧ ∃ v, rv = some (.inl v) ∧ (-1 ≤ v ∧ v ≤ 7) ∧ (v ≠ -1 ↔ n3_in 12 I L t s) := by
  obtain ⟨e1, e2, s', t', hz, ⟨k, k1, k2, k3, k4, k5, k6⟩ | ⟨k1, k2⟩⟩ := h
  · cases hz
    exact ⟨e1, e2, I 15 k, k4, by omega, fun _ => ⟨k, k1, k2, k3⟩, fun _ => by omega⟩
  · cases hz
    exact ⟨e1, e2, -1, k2, by decide, fun q => absurd rfl q, fun ⟨k, g1, g2, g3⟩ => absurd ⟨g2, g3⟩ (k1 k g1)⟩
section XF1
variable {EX : (Nat → Prop) → State → Heap → Prop} {l : Launch} {kc : Nat → ClassId} {D : va_G} {xb : Nat} {ad : Nat → Option Nat}
theorem xf_no (hE : z_EX EX) : x_Ok EX l zTB zNT kc D vwCl xb yTY ad yP0 48 0 xr_nno xo_nno := by
  refine x_loop (M := ym_X5_numberOf) hE y_prog 50 rfl (by decide) x_none_ok (fun za I L ⟨s, t, h⟩ => by subst h; exact (by decide : 4 ≤ 5)) (x_cut1 3) (fun za I L n pc lv sv I' L' => I' = I ∧ L' = L ∧ sv = [] ∧ ∃ (s t : Int) (i : Nat), za = [xR 13, .inr (.inl s), .inl t] ∧ lv = [(0, xR 13), (1, .inr (.inl s)), (3, .inl t), (4, .inl (i : Int))] ∧ i ≤ 22 ∧ n = 22 - i ∧ ∀ k : Nat, k < i → ¬ (L 13 k = s ∧ I 14 k = t)) (fun za I L ⟨s, t, h⟩ => ?_) (fun za I L _ n pc lv sv I' L' hc hi => ?_)
  · subst h
    exact ⟨22, [(0, xR 13), (1, .inr (.inl s)), (3, .inl t), (4, .inl ((0 : Nat) : Int))], ⟨rfl, rfl, rfl, rfl, trivial⟩, rfl, rfl, rfl, s, t, 0, rfl, rfl, by omega, rfl, fun k hk => absurd hk (Nat.not_lt_zero k)⟩
  · obtain rfl := x_cut1_ok hc
    obtain ⟨rfl, rfl, rfl, s, t, i, rfl, rfl, hi, rfl, hno⟩ := hi
    intro z (hz : z = I' 12 3) (bz : 0 ≤ z ∧ z ≤ 22)
    refine And.intro ?_ ?_
    · intro t1
      exact ⟨rfl, rfl, s, t, rfl, Or.inr ⟨fun k hk => hno k (by omega), rfl⟩⟩
    · intro t1
      have hin : 0 ≤ (i : Int) ∧ (i : Int) < 22 := by omega
      have hti : ((i : Int)).toNat = i := by omega
      have hgo : ¬ (L' 13 i = s ∧ I' 14 i = t) → ∀ k : Nat, k < i + 1 → ¬ (L' 13 k = s ∧ I' 14 k = t) := fun hq k hk => by
        rcases Nat.lt_or_ge k i with g | g
        · exact hno k g
        · obtain rfl : k = i := by omega
          exact hq
      refine And.intro hin ?_
      intro w (hw : w = L' 13 ((i : Int)).toNat) _ c (hc : c = 0 ↔ w = s)
      rw [hti] at hw
      refine And.intro ?_ ?_
      · intro t2
        refine Or.inl ⟨by omega, 22 - (i + 1), [(0, xR 13), (1, .inr (.inl s)), (3, .inl t), (4, .inl ((i + 1 : Nat) : Int))], by omega, ⟨rfl, rfl, rfl, rfl, trivial⟩, rfl, rfl, rfl, s, t, i + 1, rfl, rfl, by omega, rfl, hgo (fun q => t2 (hc.mpr (hw.trans q.1)))⟩
      · intro t2
        refine And.intro hin ?_
        intro so (hso : so = I' 14 ((i : Int)).toNat) _
        rw [hti] at hso
        refine And.intro ?_ ?_
        · intro t3
          refine Or.inl ⟨by omega, 22 - (i + 1), [(0, xR 13), (1, .inr (.inl s)), (3, .inl t), (4, .inl ((i + 1 : Nat) : Int))], by omega, ⟨rfl, rfl, rfl, rfl, trivial⟩, rfl, rfl, rfl, s, t, i + 1, rfl, rfl, by omega, rfl, hgo (fun q => t3 (hso.trans q.2))⟩
        · intro t3
          refine And.intro hin ?_
          intro nu (hnu : nu = I' 15 ((i : Int)).toNat) hsg
          have bnu : 0 ≤ nu ∧ nu ≤ 7 := hsg _ (x_seg1 (by omega))
          rw [hti] at hnu
          subst hnu
          exact ⟨rfl, rfl, s, t, rfl, Or.inl ⟨i, by omega, hw.symm.trans (hc.mp t2), hso.symm.trans t3, rfl, bnu⟩⟩
theorem cf_tm_ok (hE : z_EX EX) : x_ctok EX l zTB zNT kc D vwCl xb yTY ad yP0 (x_ctl cn_tmL) := x_ctl_cons (xf_no hE) (x_ctl_cons (xk_ref hE) (x_ctl_cons (xk_adv hE) x_ctl_nil))
theorem xf_tm (hE : z_EX EX) : x_Ok EX l zTB zNT kc D vwCl xb yTY ad yP0 112 2 xr_ntm xo_ntm := by
  refine x_meth (M := ym_X10_takeName) hE y_prog 40 rfl (by decide) (cf_tm_ok hE) (fun za I L ⟨t, h, _⟩ => by subst h; exact (by decide : 3 ≤ 4)) (fun za I L ⟨t, h, hb⟩ => ?_)
  subst h
  intro k (hk : k = I 1 6) _
  refine And.intro ?_ ?_
  · intro t1 s (hs : s = L 1 8)
    subst hs
    refine And.intro ⟨_, t, rfl⟩ ?_
    rintro rv I2 L2 ⟨g1, g2, s', t', hst, ⟨k, k1, k2, k3, rfl, k4, k5⟩ | ⟨k1, rfl⟩⟩
    · subst g1
      subst g2
      cases hst
      refine And.intro (fun _ => ?_) (fun q => absurd q (by omega))
      refine And.intro ⟨rfl, hb (by omega)⟩ ?_
      intro rv I3 L3 h
      have h9 := h.1
      subst h9
      exact ⟨t, rfl, Or.inr (Or.inr ⟨by omega, k, k1, k2, k3, rfl, ⟨k4, k5⟩, h⟩)⟩
    · subst g1
      subst g2
      cases hst
      refine And.intro (fun q => absurd rfl q) (fun _ => ?_)
      refine And.intro ⟨3, rfl, by decide, by decide⟩ ?_
      rintro rv I3 L3 ⟨f, hf, rfl, rfl, rfl⟩
      cases hf
      exact ⟨t, rfl, Or.inr (Or.inl ⟨by omega, k1, rfl, rfl, rfl⟩)⟩
  · intro t1
    refine And.intro ⟨1, rfl, by decide, by decide⟩ ?_
    rintro rv I3 L3 ⟨f, hf, rfl, rfl, rfl⟩
    cases hf
    exact ⟨t, rfl, Or.inl ⟨by omega, rfl, rfl, rfl⟩⟩
theorem xf_isWord (hE : z_EX EX) : x_Ok EX l zTB zNT kc D vwCl xb yTY ad yP0 108 0 xr_sign xo_isWord := by
  refine x_meth (M := ym_X10_isWord) hE y_prog 40 rfl (by decide) x_none_ok (fun za I L ⟨x, h⟩ => by subst h; exact Nat.le_refl 2) (fun za I L ⟨x, h⟩ => ?_)
  subst h
  intro k hk _
  refine And.intro ?_ ?_
  · intro t1
    exact ⟨by decide, rfl, rfl, x, rfl, Or.inr ⟨fun q => t1 (hk.trans q.1), rfl⟩⟩
  · intro t1 v hv _
    refine And.intro ?_ ?_
    · intro t2
      exact ⟨by decide, rfl, rfl, x, rfl, Or.inr ⟨fun q => t2 (hv.trans q.2), rfl⟩⟩
    · intro t2
      exact ⟨by decide, rfl, rfl, x, rfl, Or.inl ⟨hk.symm.trans t1, hv.symm.trans t2, rfl⟩⟩
def xr_sl : xPre := fun za _ _ => ∃ w a c : Int, za = [xR 137, .inl w, .inl a, .inl c] ∧ (0 ≤ w ∧ w ≤ 15) ∧ (-1 ≤ a ∧ a ≤ 60) ∧ (-1 ≤ c ∧ c ≤ 7)
def xo_sl : xPost := fun za I L rv I' L' => L' = L ∧ (∀ r k, r < 137 → I' r k = I r k) ∧ ∃ w a c : Int, za = [xR 137, .inl w, .inl a, .inl c] ∧ ((a ≠ -1 ∧ c ≠ -1 ∧ I 136 4 < 40 ∧ rv = some (.inl 1)) ∨ ((a = -1 ∨ c = -1 ∨ 40 ≤ I 136 4) ∧ rv = some (.inl 0)))
theorem xf_sl (hE : z_EX EX) : x_Ok EX l zTB zNT kc D vwCl xb yTY ad yP0 4 0 xr_sl xo_sl := by
  refine x_meth (M := ym_X0_setLine) hE y_prog 60 rfl (by decide) x_none_ok (fun za I L ⟨w, a, c, h, _⟩ => by subst h; exact (by decide : 4 ≤ 4)) (fun za I L ⟨w, a, c, h, hw, ha, hc⟩ => ?_)
  subst h
  refine And.intro ?_ ?_
  · intro t1
    exact ⟨by decide, rfl, fun _ _ _ => rfl, w, a, c, rfl, Or.inr ⟨Or.inl t1, rfl⟩⟩
  · intro t1
    refine And.intro ?_ ?_
    · intro t2
      exact ⟨by decide, rfl, fun _ _ _ => rfl, w, a, c, rfl, Or.inr ⟨Or.inr (Or.inl t2), rfl⟩⟩
    · intro t2
      intro z (hz : z = I 136 4) (bz : 0 ≤ z ∧ z ≤ 40)
      refine And.intro ?_ ?_
      · intro t3
        intro z1 (hz1 : z1 = I 136 4) (bz1 : 0 ≤ z1 ∧ z1 ≤ 40)
        refine And.intro (show 0 ≤ z1 ∧ z1 < 40 by omega) ?_
        refine And.intro (fun q hq => ?_) ?_
        · rw [x_seg1 (by omega)] at hq
          cases hq
          exact hw
        intro z2 (hz2 : z2 = I 136 4) (bz2 : 0 ≤ z2 ∧ z2 ≤ 40)
        refine And.intro (show 0 ≤ z2 ∧ z2 < 40 by omega) ?_
        refine And.intro (fun q hq => ?_) ?_
        · rw [x_seg1 (by omega)] at hq
          cases hq
          exact (show 0 ≤ a ∧ a ≤ 60 by omega)
        intro z3 (hz3 : z3 = I 136 4) (bz3 : 0 ≤ z3 ∧ z3 ≤ 40)
        refine And.intro (show 0 ≤ z3 ∧ z3 < 40 by omega) ?_
        refine And.intro (fun q hq => ?_) ?_
        · rw [x_seg1 (by omega)] at hq
          cases hq
          exact (show 0 ≤ c ∧ c ≤ 7 by omega)
        exact ⟨by decide, rfl, fun r k hr => (x_u_r (show r ≠ 139 by omega)).trans ((x_u_r (show r ≠ 138 by omega)).trans (x_u_r (show r ≠ 137 by omega))), w, a, c, rfl, Or.inl ⟨t1, t2, by omega, rfl⟩⟩
      · intro t3
        exact ⟨by decide, rfl, fun _ _ _ => rfl, w, a, c, rfl, Or.inr ⟨Or.inr (Or.inr (by omega)), rfl⟩⟩
theorem sb_sl {za : List xV} {I L I' L' : xF} {rv : Option xV} (h : xo_sl za I L rv I' L') : rv = some (.inl 0) ∨ rv = some (.inl 1) := by
  obtain ⟨_, _, w, a, c, _, ⟨_, _, _, h⟩ | ⟨_, h⟩⟩ := h
  · exact Or.inr h
  · exact Or.inl h
theorem sb_fin {b : Nat → Int} {n : Int} {S M C : List Int} {r : (Int × Int) ⊕ pT} {I L I' L' : xF} {rv : Option xV} {w a c nu : Int} (h : sb_lf b n S M C r I L nu) (hk : I 136 4 < 40) (hnu : (a = -1 ∨ c = -1) ↔ nu = -1) (hs : xo_sl [xR 137, .inl w, .inl a, .inl c] I L rv I' L') : sb_out b n S M C r rv I' L' ∧ I' 136 4 = I 136 4 := by
  obtain ⟨e1, hf, w', a', c', hz, hs⟩ := hs
  subst e1
  cases hz
  refine ⟨?_, hf 136 4 (by decide)⟩
  rcases r with ⟨at0, f⟩ | T
  · obtain ⟨h1, h2, h3⟩ := h
    rcases hs with ⟨k1, k2, _, _⟩ | ⟨_, k⟩
    · exact absurd (hnu.mpr h1) (by omega)
    · exact ⟨k, (hf 1 9 (by decide)).trans h2, (hf 1 10 (by decide)).trans h3⟩
  · obtain ⟨h1, h2⟩ := h
    rcases hs with ⟨_, _, _, k⟩ | ⟨k1, _⟩
    · exact ⟨k, sb_fr h2 (fun r k hr => hf r k (by omega))⟩
    · exact absurd (hnu.mp (by omega)) h1
/-! MAN wears COAT -/
def xr_rw : xPre := fun za I L => ∃ m : Int, za = [xR 137, .inl m, xR 2, xR 13] ∧ (0 ≤ m ∧ m ≤ 7) ∧ I 136 4 < 40 ∧ ∃ b n S M C T, sb_st b n S M C T I L
def xo_rw : xPost := fun _ I L rv I' L' => ∀ b n S M C T, sb_st b n S M C T I L → sb_out b n S M C (q_wears b n C T) rv I' L' ∧ I' 136 4 = I 136 4
def cf_rw : List (Nat × Nat × xPre × xPost) := [(108, 0, xr_sign, xo_isWord), (106, 0, xr_ref, xo_ref), (100, 1, xr_adv, xo_adv), (112, 2, xr_ntm, xo_ntm), (4, 0, xr_sl, xo_sl)]
theorem cf_rw_ok (hE : z_EX EX) : x_ctok EX l zTB zNT kc D vwCl xb yTY ad yP0 (x_ctl cf_rw) := x_ctl_cons (xf_isWord hE) (x_ctl_cons (xk_ref hE) (x_ctl_cons (xk_adv hE) (x_ctl_cons (xf_tm hE) (x_ctl_cons (xf_sl hE) x_ctl_nil))))
set_option maxHeartbeats 4000000 in
theorem xf_rw (hE : z_EX EX) : x_Ok EX l zTB zNT kc D vwCl xb yTY ad yP0 2 3 xr_rw xo_rw := by
  refine x_meth (M := ym_X0_readWears) hE y_prog 60 rfl (by decide) (cf_rw_ok hE) (fun za I L ⟨m, h, _⟩ => by subst h; exact (by decide : 4 ≤ 4)) (fun za I L ⟨m, h, hm, hk, b0, n0, S0, M0, C0, T0, hst0⟩ => ?_)
  subst h
  refine And.intro ⟨11, rfl⟩ ?_
  rintro rv I1 L1 ⟨e1, e2, x, hx, ⟨g1, g2, rfl⟩ | ⟨g1, rfl⟩⟩
  · cases hx
    subst e1
    subst e2
    refine And.intro (fun _ => ?_) (fun q => absurd q (by decide))
    have hw : ∀ {b n S M C T}, sb_st b n S M C T I1 L1 → q_w T 24282707 := fun h => (c_tok_word h.2.1 (w := 11) rfl).mp ⟨g1, g2⟩
    have hw0 := hw hst0
    refine And.intro ⟨rfl, sb_bh hst0 (by omega)⟩ ?_
    intro rv I2 L2 hadv
    have h9 := hadv.1
    subst h9
    have hA : ∀ {b n S M C T}, sb_st b n S M C T I1 L1 → sb_st b n S M C (q_nx b n T) I2 L2 ∧ I2 136 4 = I1 136 4 := fun h => sb_adv (by have := hw h; omega) h hadv
    refine And.intro ⟨2, rfl, fun k3 => sb_bh3 (hA hst0).1 k3⟩ ?_
    intro rv I3 L3 hp
    have hN : ∀ {b n S M C T}, sb_st b n S M C T I1 L1 → ∃ nu, rv = some (.inl nu) ∧ (-1 ≤ nu ∧ nu ≤ 7) ∧ sb_lf b n S M C (q_name b n C (q_nx b n T)) I3 L3 nu ∧ I3 136 4 = I2 136 4 := fun h => sb_name (hA h).1.2.2.2.2.2 (hA h).1 hp
    obtain ⟨nu, rfl, bnu, _, q4⟩ := hN hst0
    have q5 := (hA hst0).2
    refine And.intro ⟨11, m, nu, rfl, by decide, by omega, bnu⟩ ?_
    intro rv I4 L4 hs
    have hfin : xo_rw [xR 137, .inl m, xR 2, xR 13] I1 L1 rv I4 L4 := fun b n S M C T h => by
      obtain ⟨nu', e', _, hlf, _⟩ := hN h
      cases e'
      have hF := sb_fin hlf (by omega) (by omega) hs
      unfold q_wears
      rw [if_pos (hw h)]
      exact ⟨hF.1, by omega⟩
    rcases sb_sl hs with rfl | rfl
    · exact ⟨by decide, hfin⟩
    · exact ⟨by decide, hfin⟩
  · cases hx
    subst e1
    subst e2
    refine And.intro (fun q => absurd rfl q) (fun _ => ?_)
    refine And.intro ⟨1, rfl, by decide, by decide⟩ ?_
    rintro rv I2 L2 ⟨f, hf, rfl, rfl, rfl⟩
    cases hf
    refine ⟨by decide, fun b n S M C T h => ⟨?_, rfl⟩⟩
    unfold q_wears
    rw [if_neg (fun q => g1 ((c_tok_word h.2.1 (w := 11) rfl).mpr q))]
    exact ⟨rfl, rfl, h.2.1.1⟩
/-! what a COAT does -/
def xr_rc : xPre := fun za I L => ∃ m : Int, za = [xR 137, .inl m, xR 2, xR 13] ∧ (0 ≤ m ∧ m ≤ 7) ∧ I 136 4 < 40 ∧ ∃ b n S M C T, sb_st b n S M C T I L
def xo_rc : xPost := fun _ I L rv I' L' => ∀ b n S M C T, sb_st b n S M C T I L → sb_out b n S M C (q_coat b n S M T) rv I' L' ∧ I' 136 4 = I 136 4
set_option maxHeartbeats 4000000 in
theorem xf_rc (hE : z_EX EX) : x_Ok EX l zTB zNT kc D vwCl xb yTY ad yP0 3 3 xr_rc xo_rc := by
  refine x_meth (M := ym_X0_readOfCoat) hE y_prog 100 rfl (by decide) (cf_rw_ok hE) (fun za I L ⟨m, h, _⟩ => by subst h; exact (by decide : 4 ≤ 5)) (fun za I L ⟨m, h, hm, hk, b0, n0, S0, M0, C0, T0, hst0⟩ => ?_)
  subst h
  intro v (hv : v = I 1 7) _
  refine And.intro ⟨8, rfl⟩ ?_
  rintro rv I1 L1 ⟨e1, e2, x, hx, ⟨g1, g2, rfl⟩ | ⟨g1, rfl⟩⟩
  · cases hx
    subst e1
    subst e2
    refine And.intro (fun _ => ?_) (fun q => absurd q (by decide))
    have hw : ∀ {b n S M C T}, sb_st b n S M C T I1 L1 → q_w T 402611 := fun h => (c_tok_word h.2.1 (w := 8) rfl).mp ⟨g1, g2⟩
    have hw0 := hw hst0
    have hv9 : v = 8 := by omega
    subst hv9
    refine And.intro ⟨rfl, sb_bh hst0 (by omega)⟩ ?_
    intro rv J2 K2 hadv
    have h9 := hadv.1
    subst h9
    have hA : ∀ {b n S M C T}, sb_st b n S M C T I1 L1 → sb_st b n S M C (q_nx b n T) J2 K2 ∧ J2 136 4 = I1 136 4 := fun h => sb_adv (by have := hw h; omega) h hadv
    have q5 := (hA hst0).2
    refine And.intro (fun _ => ?_) (fun q => absurd q (by decide))
    refine And.intro (fun q => absurd rfl q) (fun _ => ?_)
    refine And.intro ⟨0, rfl, fun k3 => sb_bh3 (hA hst0).1 k3⟩ ?_
    intro rv J3 K3 hp
    have hN : ∀ {b n S M C T}, sb_st b n S M C T I1 L1 → ∃ nu, rv = some (.inl nu) ∧ (-1 ≤ nu ∧ nu ≤ 7) ∧ sb_lf b n S M C (q_name b n S (q_nx b n T)) J3 K3 nu ∧ J3 136 4 = J2 136 4 := fun h => sb_name (hA h).1.2.2.2.1 (hA h).1 hp
    obtain ⟨nu, rfl, bnu, _, q4⟩ := hN hst0
    refine And.intro ⟨8, m, nu, rfl, by decide, by omega, bnu⟩ ?_
    intro rv J4 K4 hs
    have hfin : xo_rc [xR 137, .inl m, xR 2, xR 13] I1 L1 rv J4 K4 := fun b n S M C T h => by
      obtain ⟨nu', e', _, hlf, _⟩ := hN h
      cases e'
      have hF := sb_fin hlf (by omega) (by omega) hs
      unfold q_coat
      rw [if_pos (hw h)]
      exact ⟨hF.1, by omega⟩
    rcases sb_sl hs with rfl | rfl
    · exact ⟨by decide, hfin⟩
    · exact ⟨by decide, hfin⟩
  · cases hx
    subst e1
    subst e2
    refine And.intro (fun q => absurd rfl q) (fun _ => ?_)
    have f8 := g1
    clear g1
    refine And.intro ⟨9, rfl⟩ ?_
    rintro rv I2 L2 ⟨e1, e2, x, hx, ⟨g1, g2, rfl⟩ | ⟨g1, rfl⟩⟩
    · cases hx
      subst e1
      subst e2
      refine And.intro (fun _ => ?_) (fun q => absurd q (by decide))
      have hw : ∀ {b n S M C T}, sb_st b n S M C T I2 L2 → q_w T 398804 := fun h => (c_tok_word h.2.1 (w := 9) rfl).mp ⟨g1, g2⟩
      have hw0 := hw hst0
      have hv9 : v = 9 := by omega
      subst hv9
      refine And.intro ⟨rfl, sb_bh hst0 (by omega)⟩ ?_
      intro rv J2 K2 hadv
      have h9 := hadv.1
      subst h9
      have hA : ∀ {b n S M C T}, sb_st b n S M C T I2 L2 → sb_st b n S M C (q_nx b n T) J2 K2 ∧ J2 136 4 = I2 136 4 := fun h => sb_adv (by have := hw h; omega) h hadv
      have q5 := (hA hst0).2
      refine And.intro (fun _ => ?_) (fun q => absurd q (by decide))
      refine And.intro (fun _ => ?_) (fun q => absurd q (by decide))
      refine And.intro ⟨1, rfl, fun k3 => sb_bh3 (hA hst0).1 k3⟩ ?_
      intro rv J3 K3 hp
      have hN : ∀ {b n S M C T}, sb_st b n S M C T I2 L2 → ∃ nu, rv = some (.inl nu) ∧ (-1 ≤ nu ∧ nu ≤ 7) ∧ sb_lf b n S M C (q_name b n M (q_nx b n T)) J3 K3 nu ∧ J3 136 4 = J2 136 4 := fun h => sb_name (hA h).1.2.2.2.2.1 (hA h).1 hp
      obtain ⟨nu, rfl, bnu, _, q4⟩ := hN hst0
      refine And.intro ⟨9, m, nu, rfl, by decide, by omega, bnu⟩ ?_
      intro rv J4 K4 hs
      have hfin : xo_rc [xR 137, .inl m, xR 2, xR 13] I2 L2 rv J4 K4 := fun b n S M C T h => by
        obtain ⟨nu', e', _, hlf, _⟩ := hN h
        cases e'
        have hF := sb_fin hlf (by omega) (by omega) hs
        unfold q_coat
        rw [if_neg (fun q : q_w T 402611 => absurd (q.2.symm.trans (hw h).2) (by decide))]
        rw [if_pos (hw h)]
        exact ⟨hF.1, by omega⟩
      rcases sb_sl hs with rfl | rfl
      · exact ⟨by decide, hfin⟩
      · exact ⟨by decide, hfin⟩
    · cases hx
      subst e1
      subst e2
      refine And.intro (fun q => absurd rfl q) (fun _ => ?_)
      have f9 := g1
      clear g1
      refine And.intro ⟨10, rfl⟩ ?_
      rintro rv I3 L3 ⟨e1, e2, x, hx, ⟨g1, g2, rfl⟩ | ⟨g1, rfl⟩⟩
      · cases hx
        subst e1
        subst e2
        refine And.intro (fun _ => ?_) (fun q => absurd q (by decide))
        have hw : ∀ {b n S M C T}, sb_st b n S M C T I3 L3 → q_w T 366100 := fun h => (c_tok_word h.2.1 (w := 10) rfl).mp ⟨g1, g2⟩
        have hw0 := hw hst0
        have hv9 : v = 10 := by omega
        subst hv9
        refine And.intro ⟨rfl, sb_bh hst0 (by omega)⟩ ?_
        intro rv J2 K2 hadv
        have h9 := hadv.1
        subst h9
        have hA : ∀ {b n S M C T}, sb_st b n S M C T I3 L3 → sb_st b n S M C (q_nx b n T) J2 K2 ∧ J2 136 4 = I3 136 4 := fun h => sb_adv (by have := hw h; omega) h hadv
        have q5 := (hA hst0).2
        refine And.intro (fun q => absurd rfl q) (fun _ => ?_)
        refine And.intro ⟨10, m, 0, rfl, by decide, by omega, by decide⟩ ?_
        intro rv J4 K4 hs
        have hfin : xo_rc [xR 137, .inl m, xR 2, xR 13] I3 L3 rv J4 K4 := fun b n S M C T h => by
          have hF := sb_fin (nu := 0) (r := .inr (q_nx b n T)) ⟨by decide, (hA h).1⟩ (by omega) (by omega) hs
          unfold q_coat
          rw [if_neg (fun q : q_w T 402611 => absurd (q.2.symm.trans (hw h).2) (by decide))]
          rw [if_neg (fun q : q_w T 398804 => absurd (q.2.symm.trans (hw h).2) (by decide))]
          rw [if_pos (hw h)]
          exact ⟨hF.1, by omega⟩
        rcases sb_sl hs with rfl | rfl
        · exact ⟨by decide, hfin⟩
        · exact ⟨by decide, hfin⟩
      · cases hx
        subst e1
        subst e2
        refine And.intro (fun q => absurd rfl q) (fun _ => ?_)
        have f10 := g1
        clear g1
        refine And.intro ⟨1, rfl, by decide, by decide⟩ ?_
        rintro rv J2 K2 ⟨f, hf, rfl, rfl, rfl⟩
        cases hf
        refine ⟨by decide, fun b n S M C T h => ⟨?_, rfl⟩⟩
        unfold q_coat
        rw [if_neg (fun q => f8 ((c_tok_word h.2.1 (w := 8) rfl).mpr q)), if_neg (fun q => f9 ((c_tok_word h.2.1 (w := 9) rfl).mpr q)), if_neg (fun q => f10 ((c_tok_word h.2.1 (w := 10) rfl).mpr q))]
        exact ⟨rfl, rfl, h.2.1.1⟩
/-! a LINE -/
def xr_rl : xPre := fun za I L => za = [xR 137, xR 2, xR 13] ∧ ∃ b n S M C T, sb_st b n S M C T I L
def xo_rl : xPost := fun _ I L rv I' L' => ∀ b n S M C T, sb_st b n S M C T I L → sb_out b n S M C (q_line b n S M C (I 136 4) T) rv I' L' ∧ I' 136 4 = I 136 4
def cf_rl : List (Nat × Nat × xPre × xPost) := [(108, 0, xr_sign, xo_isWord), (106, 0, xr_ref, xo_ref), (48, 0, xr_nno, xo_nno), (100, 1, xr_adv, xo_adv), (111, 2, xr_tn, xo_tn), (4, 0, xr_sl, xo_sl), (2, 3, xr_rw, xo_rw), (3, 3, xr_rc, xo_rc)]
theorem cf_rl_ok (hE : z_EX EX) : x_ctok EX l zTB zNT kc D vwCl xb yTY ad yP0 (x_ctl cf_rl) := x_ctl_cons (xf_isWord hE) (x_ctl_cons (xk_ref hE) (x_ctl_cons (xf_no hE) (x_ctl_cons (xk_adv hE) (x_ctl_cons (xk_tn hE) (x_ctl_cons (xf_sl hE) (x_ctl_cons (xf_rw hE) (x_ctl_cons (xf_rc hE) x_ctl_nil)))))))
set_option maxHeartbeats 4000000 in
theorem xf_rl (hE : z_EX EX) : x_Ok EX l zTB zNT kc D vwCl xb yTY ad yP0 1 4 xr_rl xo_rl := by
  refine x_meth (M := ym_X0_readLine) hE y_prog 120 rfl (by decide) (cf_rl_ok hE) (fun za I L ⟨h, _⟩ => by subst h; exact (by decide : 3 ≤ 6)) (fun za I L ⟨h, b0, n0, S0, M0, C0, T0, hst0⟩ => ?_)
  subst h
  refine And.intro ⟨12, rfl⟩ ?_
  rintro rv I1 L1 ⟨e1, e2, x, hx, ⟨g1, g2, rfl⟩ | ⟨g1, rfl⟩⟩
  · cases hx
    subst e1
    subst e2
    have hw : ∀ {b n S M C T}, sb_st b n S M C T I1 L1 → q_w T 4153 := fun h => (c_tok_word h.2.1 (w := 12) rfl).mp ⟨g1, g2⟩
    have hw0 := hw hst0
    refine And.intro (fun _ => ?_) (fun q => absurd q (by decide))
    refine And.intro (fun q => absurd q (by decide)) (fun _ => ?_)
    refine And.intro (fun q => absurd q (by decide)) (fun _ => ?_)
    refine And.intro (fun _ => ?_) (fun q => absurd q (by decide))
    intro z (hz : z = I1 136 4) (bz : 0 ≤ z ∧ z ≤ 40)
    refine And.intro ?_ ?_
    · intro t1
      refine And.intro ⟨rfl, sb_bh hst0 (by omega)⟩ ?_
      intro rv J2 K2 hadv
      have h9 := hadv.1
      subst h9
      have hA : ∀ {b n S M C T}, sb_st b n S M C T I1 L1 → sb_st b n S M C (q_nx b n T) J2 K2 ∧ J2 136 4 = I1 136 4 := fun h => sb_adv (by have := hw h; omega) h hadv
      have q5 := (hA hst0).2
      refine And.intro (fun q => absurd q (by decide)) (fun _ => ?_)
      refine And.intro ⟨1, 60, rfl, fun k3 => sb_bh4 (hA hst0).1 k3⟩ ?_
      intro rv J3 K3 hp
      have hN : ∀ {b n S M C T}, sb_st b n S M C T I1 L1 → ∃ nu, rv = some (.inl nu) ∧ (-1 ≤ nu ∧ nu ≤ 60) ∧ sb_lf b n S M C (q_num b n (q_nx b n T)) J3 K3 nu ∧ J3 136 4 = J2 136 4 := fun h => sb_num (hA h).1 hp
      obtain ⟨nu, rfl, bnu, _, q4⟩ := hN hst0
      refine And.intro ⟨12, nu, 0, rfl, by decide, bnu, by decide⟩ ?_
      intro rv J4 K4 hs
      have hfin : xo_rl [xR 137, xR 2, xR 13] I1 L1 rv J4 K4 := fun b n S M C T h => by
        obtain ⟨nu', e', _, hlf, _⟩ := hN h
        cases e'
        have hF := sb_fin hlf (by omega) (by omega) hs
        unfold q_line
        rw [if_pos (hw h), if_neg (by omega)]
        exact ⟨hF.1, by omega⟩
      rcases sb_sl hs with rfl | rfl
      · exact ⟨by decide, hfin⟩
      · exact ⟨by decide, hfin⟩
    · intro t1
      refine And.intro ⟨4, rfl, by decide, by decide⟩ ?_
      rintro rv J2 K2 ⟨f, hf, rfl, rfl, rfl⟩
      cases hf
      refine ⟨by decide, fun b n S M C T h => ⟨?_, rfl⟩⟩
      unfold q_line
      rw [if_pos (hw h), if_pos (by omega)]
      exact ⟨rfl, rfl, h.2.1.1⟩
  · cases hx
    subst e1
    subst e2
    have hnw : ∀ {b n S M C T}, sb_st b n S M C T I1 L1 → ¬ q_w T 4153 := fun h q => g1 ((c_tok_word h.2.1 (w := 12) rfl).mpr q)
    refine And.intro (fun q => absurd rfl q) (fun _ => ?_)
    intro kd (hkd : kd = I1 1 6) _
    refine And.intro ?_ ?_
    · intro t1
      have hnm : ∀ {b n S M C T}, sb_st b n S M C T I1 L1 → q_nm T := fun h => (c_tok_name h.2.1).1.mp (by omega)
      have hsp : ∀ {b n S M C T}, sb_st b n S M C T I1 L1 → L1 1 8 = T.2.2.2 := fun h => (c_tok_name h.2.1).2 (by omega)
      have hn0 := hnm hst0
      refine And.intro (fun _ => ?_) (fun q => absurd rfl q)
      intro sp (hsp1 : sp = L1 1 8)
      refine And.intro ⟨_, 2, rfl⟩ ?_
      intro rv J1 K1 hno
      obtain ⟨e1, e2, c, rfl, bc, hc⟩ := sb_no hno
      subst e1
      subst e2
      refine And.intro (fun _ => ?_) (fun q => absurd rfl q)
      intro sp2 (hsp2 : sp2 = K1 1 8)
      refine And.intro ⟨_, 1, rfl⟩ ?_
      intro rv J2 K2 hno2
      obtain ⟨e1, e2, m, rfl, bm, hm⟩ := sb_no hno2
      subst e1
      subst e2
      refine And.intro (fun q => absurd rfl q) (fun _ => ?_)
      have hmC : ∀ {b n S M C T}, sb_st b n S M C T J2 K2 → (c ≠ -1 ↔ T.2.2.2 ∈ C) := fun h => by
        have h9 := h.2.2.2.2.2 sp
        rw [hsp1, hsp h] at h9
        rw [hsp1, hsp h] at hc
        exact hc.trans h9
      have hmM : ∀ {b n S M C T}, sb_st b n S M C T J2 K2 → (m ≠ -1 ↔ T.2.2.2 ∈ M) := fun h => by
        have h9 := h.2.2.2.2.1 sp2
        rw [hsp2, hsp h] at h9
        rw [hsp2, hsp h] at hm
        exact hm.trans h9
      refine And.intro ?_ ?_
      · intro hcc
        have hinC : ∀ {b n S M C T}, sb_st b n S M C T J2 K2 → T.2.2.2 ∈ C := fun h => (hmC h).mp hcc
        intro z (hz : z = J2 136 4) (bz : 0 ≤ z ∧ z ≤ 40)
        refine And.intro ?_ ?_
        · intro t2
          refine And.intro ⟨rfl, sb_bh hst0 (by omega)⟩ ?_
          intro rv J3 K3 hadv
          have h9 := hadv.1
          subst h9
          have hA : ∀ {b n S M C T}, sb_st b n S M C T J2 K2 → sb_st b n S M C (q_nx b n T) J3 K3 ∧ J3 136 4 = J2 136 4 := fun h => sb_adv (by have := hnm h; omega) h hadv
          have q5 := (hA hst0).2
          refine And.intro (fun _ => ?_) (fun q => absurd rfl q)
          refine And.intro (fun _ => ?_) (fun q => absurd q hcc)
          refine And.intro ⟨c, rfl, by omega, by omega, _, _, _, _, _, _, (hA hst0).1⟩ ?_
          intro rv J4 K4 hs
          have hfin : xo_rl [xR 137, xR 2, xR 13] J2 K2 rv J4 K4 := fun b n S M C T h => by
            have hF := hs _ _ _ _ _ _ (hA h).1
            unfold q_line
            rw [if_neg (hnw h), if_neg (fun q => q (hnm h))]
            rw [if_neg (fun q => q.1 (hinC h))]
            rw [if_neg (by omega)]
            rw [if_neg (fun q => q (hinC h))]
            exact ⟨hF.1, by omega⟩
          rcases sb_out_rv (hs _ _ _ _ _ _ (hA hst0).1).1 with rfl | rfl
          · exact ⟨by decide, hfin⟩
          · exact ⟨by decide, hfin⟩
        · intro t2
          refine And.intro ⟨4, rfl, by decide, by decide⟩ ?_
          rintro rv J3 K3 ⟨f, hf, rfl, rfl, rfl⟩
          cases hf
          refine ⟨by decide, fun b n S M C T h => ⟨?_, rfl⟩⟩
          unfold q_line
          rw [if_neg (hnw h), if_neg (fun q => q (hnm h))]
          rw [if_neg (fun q => q.1 (hinC h))]
          rw [if_pos (by omega)]
          exact ⟨rfl, rfl, h.2.1.1⟩
      · intro hcc
        have hinC : ∀ {b n S M C T}, sb_st b n S M C T J2 K2 → T.2.2.2 ∉ C := fun h q => (hmC h).mpr q hcc
        refine And.intro ?_ ?_
        · intro hmm
          have hinM : ∀ {b n S M C T}, sb_st b n S M C T J2 K2 → T.2.2.2 ∈ M := fun h => (hmM h).mp hmm
          intro z (hz : z = J2 136 4) (bz : 0 ≤ z ∧ z ≤ 40)
          refine And.intro ?_ ?_
          · intro t2
            refine And.intro ⟨rfl, sb_bh hst0 (by omega)⟩ ?_
            intro rv J3 K3 hadv
            have h9 := hadv.1
            subst h9
            have hA : ∀ {b n S M C T}, sb_st b n S M C T J2 K2 → sb_st b n S M C (q_nx b n T) J3 K3 ∧ J3 136 4 = J2 136 4 := fun h => sb_adv (by have := hnm h; omega) h hadv
            have q5 := (hA hst0).2
            refine And.intro (fun _ => ?_) (fun q => absurd rfl q)
            refine And.intro (fun q => absurd hcc q) (fun _ => ?_)
            refine And.intro ⟨m, rfl, by omega, by omega, _, _, _, _, _, _, (hA hst0).1⟩ ?_
            intro rv J4 K4 hs
            have hfin : xo_rl [xR 137, xR 2, xR 13] J2 K2 rv J4 K4 := fun b n S M C T h => by
              have hF := hs _ _ _ _ _ _ (hA h).1
              unfold q_line
              rw [if_neg (hnw h), if_neg (fun q => q (hnm h))]
              rw [if_neg (fun q => q.2 (hinM h))]
              rw [if_neg (by omega)]
              rw [if_pos (hinC h)]
              exact ⟨hF.1, by omega⟩
            rcases sb_out_rv (hs _ _ _ _ _ _ (hA hst0).1).1 with rfl | rfl
            · exact ⟨by decide, hfin⟩
            · exact ⟨by decide, hfin⟩
          · intro t2
            refine And.intro ⟨4, rfl, by decide, by decide⟩ ?_
            rintro rv J3 K3 ⟨f, hf, rfl, rfl, rfl⟩
            cases hf
            refine ⟨by decide, fun b n S M C T h => ⟨?_, rfl⟩⟩
            unfold q_line
            rw [if_neg (hnw h), if_neg (fun q => q (hnm h))]
            rw [if_neg (fun q => q.2 (hinM h))]
            rw [if_pos (by omega)]
            exact ⟨rfl, rfl, h.2.1.1⟩
        · intro hmm
          refine And.intro ⟨3, rfl, by decide, by decide⟩ ?_
          rintro rv J3 K3 ⟨f, hf, rfl, rfl, rfl⟩
          cases hf
          refine ⟨by decide, fun b n S M C T h => ⟨?_, rfl⟩⟩
          unfold q_line
          rw [if_neg (hnw h), if_neg (fun q => q (hnm h)), if_pos ⟨hinC h, fun q => (hmM h).mpr q hmm⟩]
          exact ⟨rfl, rfl, h.2.1.1⟩
    · intro t1
      refine And.intro ⟨1, rfl, by decide, by decide⟩ ?_
      rintro rv J2 K2 ⟨f, hf, rfl, rfl, rfl⟩
      cases hf
      refine ⟨by decide, fun b n S M C T h => ⟨?_, rfl⟩⟩
      unfold q_line
      rw [if_neg (hnw h), if_pos (fun q => t1 (by have := (c_tok_name h.2.1).1.mpr q; omega))]
      exact ⟨rfl, rfl, h.2.1.1⟩
/-! the text -/
def xr_bt : xPre := fun za I L => za = [xR 137, xR 2, xR 13] ∧ (0 ≤ I 1 2 ∧ I 1 2 ≤ 940) ∧ ∃ S M C, n3_c 12 S M C I L
def xo_bt : xPost := fun _ I L rv I' _ => (rv = some (.inl 0) ∨ rv = some (.inl 1)) ∧ ∀ S M C, n3_c 12 S M C I L → I' 1 9 = q_fl (q_text (I 2) (I 1 2) S M C)
def cf_bt : List (Nat × Nat × xPre × xPost) := [(99, 2, xr_op, xo_op), (1, 4, xr_rl, xo_rl), (110, 2, xr_ts, xo_ts), (107, 1, xr_t, xo_ov)]
theorem cf_bt_ok (hE : z_EX EX) : x_ctok EX l zTB zNT kc D vwCl xb yTY ad yP0 (x_ctl cf_bt) := x_ctl_cons (xk_op hE) (x_ctl_cons (xf_rl hE) (x_ctl_cons (xk_ts hE) (x_ctl_cons (xk_ov hE) x_ctl_nil)))
set_option maxHeartbeats 4000000 in
theorem xf_bt (hE : z_EX EX) : x_Ok EX l zTB zNT kc D vwCl xb yTY ad yP0 0 5 xr_bt xo_bt := by
  refine x_loop (M := ym_X0_readText) hE y_prog 60 rfl (by decide) (cf_bt_ok hE) (fun za I L ⟨h, _⟩ => by subst h; exact (by decide : 3 ≤ 4)) (x_cut1 14) (fun za I L m pc lv sv I' L' => sv = [] ∧ ∃ (k : Int) (f : Nat), lv = [(0, xR 137), (1, xR 2), (2, xR 13), (3, .inl k)] ∧ I' 136 4 = k ∧ (0 ≤ k ∧ k + f = 40) ∧ m = f + 1 ∧ ∀ S M C, n3_c 12 S M C I L → ∃ T, sb_st (I 2) (I 1 2) S M C T I' L' ∧ q_text (I 2) (I 1 2) S M C = q_bk (I 2) (I 1 2) S M C (f + 1) T) (fun za I L ⟨h, ⟨h0, h1⟩, _⟩ => ?_) (fun za I L ⟨_, _, S0, M0, C0, hN0⟩ m pc lv sv I' L' hc hi => ?_)
  · subst h
    refine And.intro (by decide) ?_
    refine And.intro ⟨400, rfl, by decide, show 0 ≤ I 1 2 from h0, show I 1 2 ≤ 940 from h1⟩ ?_
    rintro rv I2 L2 ⟨m, hm, rfl, _, f1, f2, f3⟩
    cases hm
    have f3 : c_tok (t_tok (I 2) (I 1 2) 400 0) I2 L2 := f3
    refine ⟨41, [(0, xR 137), (1, xR 2), (2, xR 13), (3, .inl 0)], ⟨rfl, rfl, rfl, rfl, trivial⟩, rfl, 0, 40, rfl, f1 136 4 rfl, by decide, rfl, fun S M C hN => ⟨_, ⟨⟨funext (fun j => f1 2 j rfl), f1 1 2 rfl, f1 1 3 rfl, ⟨h0, h1⟩, f1 1 9 rfl⟩, f3, ⟨0, Int.le_refl _, h0, rfl⟩, n3_c_eq hN (f1 12 3 rfl) (fun k _ => f2 13 k rfl) (fun k _ => f1 14 k rfl)⟩, rfl⟩⟩
  · obtain rfl := x_cut1_ok hc
    obtain ⟨rfl, k, f, rfl, hk, hkf, hm, hq⟩ := hi
    obtain ⟨T0, hst0, _⟩ := hq _ _ _ hN0
    refine And.intro ?_ ?_
    · intro t1
      exact absurd t1 (by omega)
    · intro t1 kd (hkd : kd = I' 1 6) _
      refine And.intro ?_ ?_
      · intro t2
        refine And.intro rfl ?_
        rintro rv I1 L1 ⟨e2, ⟨g1, rfl, e1⟩ | ⟨g1, rfl, e1⟩⟩
        · subst e1
          subst e2
          refine ⟨by decide, Or.inr rfl, fun S M C hN => ?_⟩
          obtain ⟨T, hst, hqt⟩ := hq _ _ _ hN
          rw [hqt, q_bk_end ((c_tok_end hst.2.1).mp g1)]
          exact hst.1.2.2.2.2
        · exact absurd (hkd.symm.trans t2) g1
      · intro t2
        have hT : ∀ {b n S M C T}, sb_st b n S M C T I' L' → T.1 ≠ 0 := fun h q => t2 (hkd.trans ((c_tok_end h.2.1).mpr q))
        refine And.intro ⟨rfl, _, _, _, _, _, _, hst0⟩ ?_
        intro rv I1 L1 hp
        rcases sb_out_rv (hp _ _ _ _ _ _ hst0).1 with rfl | rfl
        · refine And.intro (fun _ => ?_) (fun q => absurd rfl q)
          refine ⟨by decide, Or.inl rfl, fun S M C hN => ?_⟩
          obtain ⟨T, hst, hqt⟩ := hq _ _ _ hN
          obtain ⟨at0, f0, hr, hf0⟩ := sb_out_0 (hp _ _ _ _ _ _ hst).1
          rw [hqt, q_bk_bad (hT hst) (by omega) hr]
          exact hf0
        · refine And.intro (fun q => absurd q (by decide)) (fun _ => ?_)
          obtain ⟨T1, hr1, hst1⟩ := sb_out_1 (hp _ _ _ _ _ _ hst0).1
          have hk1 := (hp _ _ _ _ _ _ hst0).2
          have hlt := q_line_40 hr1
          have hl : ∀ S M C, n3_c 12 S M C I L → ∃ T1, sb_st (I 2) (I 1 2) S M C T1 I1 L1 ∧ q_text (I 2) (I 1 2) S M C = if T1.1 = 5 ∧ T1.2.2.2 = 59 then q_bk (I 2) (I 1 2) S M C f (q_nx (I 2) (I 1 2) T1) else some (T1.2.1, 1) := fun S M C hN => by
            obtain ⟨T, hst, hqt⟩ := hq _ _ _ hN
            obtain ⟨T1, hr, hst1⟩ := sb_out_1 (hp _ _ _ _ _ _ hst).1
            exact ⟨T1, hst1, hqt.trans (q_bk_go (hT hst) (by omega) hr)⟩
          refine And.intro ⟨59, rfl, fun hk5 => sb_bh5 hst1 hk5⟩ ?_
          rintro rv I2 L2 ⟨x, hx, ⟨g1, g2, rfl, hadv⟩ | ⟨g1, rfl, g3, g4⟩⟩
          · cases hx
            refine And.intro (fun _ => ?_) (fun q => absurd q (by decide))
            have hk2 := (sb_adv (by have := (c_tok_sign hst1.2.1).1.mp g1; omega) hst1 hadv).2
            intro z2 (hz2 : z2 = I2 136 4) (bz2 : 0 ≤ z2 ∧ z2 ≤ 40)
            refine Or.inl ⟨by omega, ?_⟩
            refine And.intro (show 0 ≤ z2 + 1 ∧ z2 + 1 ≤ 40 by omega) ?_
            refine Or.inl ⟨by omega, ?_⟩
            refine ⟨f, [(0, xR 137), (1, xR 2), (2, xR 13), (3, .inl (k + 1))], by omega, ⟨rfl, rfl, rfl, rfl, trivial⟩, rfl, k + 1, f - 1, rfl, (show z2 + 1 = k + 1 by omega), by omega, by omega, fun S M C hN => ?_⟩
            obtain ⟨T1, hs1, hqt⟩ := hl _ _ _ hN
            have h5 := (c_tok_sign hs1.2.1).1.mp g1
            have h59 := (c_tok_sign hs1.2.1).2 g1
            rw [if_pos ⟨h5, by omega⟩] at hqt
            refine ⟨_, sb_fr2 (sb_adv (by omega) hs1 hadv).1 (fun r k hr => x_u_r hr), ?_⟩
            rw [show f - 1 + 1 = f by omega]
            exact hqt
          · cases hx
            subst g3
            subst g4
            refine And.intro (fun q => absurd rfl q) (fun _ => ?_)
            refine ⟨by decide, Or.inl rfl, fun S M C hN => ?_⟩
            obtain ⟨T1, hs1, hqt⟩ := hl _ _ _ hN
            have hsg := c_tok_sign hs1.2.1
            rw [hqt, if_neg (fun q => g1 ⟨hsg.1.mpr q.1, by rw [hsg.2 (hsg.1.mpr q.1)]; exact q.2⟩)]
            rfl
end XF1
