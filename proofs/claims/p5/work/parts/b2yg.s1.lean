/-! ===== the class reads a SENTENCE ===== -/
theorem x_W32_inj : ∀ i j : Fin 24, x_W32[i.val]? = x_W32[j.val]? → i = j := by decide +kernel
/-- a word that is told, as the tape tells it -/
theorem c_tok_word {T : pT} {I L : xF} (h : c_tok T I L) {w : Nat} {s : Int} (hs : x_W32[w]? = some s) : (I 1 6 = 2 ∧ I 1 7 = w) ↔ (T.1 = 2 ∧ T.2.2.2 = s) := by
  obtain ⟨_, _, h⟩ := h
  have hw24 : ∀ {v : Nat} {x : Int}, x_W32[v]? = some x → v < 24 := fun hv => (List.getElem?_eq_some_iff.mp hv).1
  rcases h with ⟨h1, h2⟩ | ⟨h1, h2⟩ | ⟨h1, h2, h3⟩ | ⟨h1, h2, h3⟩ | ⟨h1, h2, h3⟩
  · exact ⟨fun q => by omega, fun q => by omega⟩
  · exact ⟨fun q => by omega, fun q => by omega⟩
  · rcases h3 with ⟨v, h4, h5, h6⟩ | ⟨h4, h5⟩
    · constructor
      · intro q
        have hvw : v = w := by omega
        subst hvw
        rw [h4] at hs
        exact ⟨h1, Option.some.inj hs⟩
      · intro q
        have h7 := x_W32_inj ⟨v, hw24 h4⟩ ⟨w, hw24 hs⟩ (by rw [h4, hs, q.2])
        have hvw : v = w := congrArg Fin.val h7
        subst hvw
        exact ⟨h5, h6⟩
    · exact ⟨fun q => by omega, fun q => absurd hs (by rw [← q.2]; exact h4 w)⟩
  · exact ⟨fun q => by omega, fun q => by omega⟩
  · exact ⟨fun q => by omega, fun q => by omega⟩
def sc_in (I L : xF) (u x : Int) : Prop := ∃ k : Nat, (k : Int) < I 12 3 ∧ L 13 k = x ∧ I 14 k = u
def sc_nm (M C : List Int) (I L : xF) : Prop := (∀ x, sc_in I L 1 x ↔ x ∈ M) ∧ ∀ x, sc_in I L 2 x ↔ x ∈ C
theorem sc_nm_eq {M C : List Int} {I L I' L' : xF} (h : sc_nm M C I L) (e1 : I' 12 3 = I 12 3) (e2 : ∀ k, I' 14 k = I 14 k) (e3 : ∀ k, L' 13 k = L 13 k) : sc_nm M C I' L' := by
  have key : ∀ u x, sc_in I' L' u x ↔ sc_in I L u x := fun u x => by
    unfold sc_in
    constructor
    · rintro ⟨k, k1, k2, k3⟩
      exact ⟨k, by rw [← e1]; exact k1, by rw [← e3]; exact k2, by rw [← e2]; exact k3⟩
    · rintro ⟨k, k1, k2, k3⟩
      exact ⟨k, by rw [e1]; exact k1, by rw [e3]; exact k2, by rw [e2]; exact k3⟩
  exact ⟨fun x => (key 1 x).trans (h.1 x), fun x => (key 2 x).trans (h.2 x)⟩
def sc_st (b : Nat → Int) (n : Int) (M C : List Int) (T : pT) (o : Int) (I L : xF) : Prop :=
  (I 2 = b ∧ I 1 2 = n ∧ I 1 3 = 200 ∧ (0 ≤ n ∧ n ≤ 940) ∧ I 1 9 = 0) ∧ c_tok T I L ∧ (∃ p, 0 ≤ p ∧ p ≤ n ∧ T = t_tok b n 200 p) ∧ sc_nm M C I L ∧ (I 127 5 = o ∧ 0 ≤ o ∧ o ≤ 20)
theorem sc_pos {b : Nat → Int} {n : Int} {M C : List Int} {T : pT} {o : Int} {I L : xF} (h : sc_st b n M C T o I L) (hk : 2 ≤ T.1) : 0 ≤ T.2.2.1 ∧ T.2.2.1 ≤ n := by
  obtain ⟨_, _, ⟨p, p0, p1, rfl⟩, _⟩ := h
  have := t_tok_pos (b := b) (most := 200) p0 p1 hk
  omega
theorem sc_num {b : Nat → Int} {n : Int} {M C : List Int} {T : pT} {o : Int} {I L : xF} (h : sc_st b n M C T o I L) (hk : T.1 = 4) : 0 ≤ T.2.2.2 ∧ T.2.2.2 ≤ 999 := by
  obtain ⟨_, _, ⟨p, p0, p1, rfl⟩, _⟩ := h
  exact t_tok_n9 p0 p1 hk
theorem sc_bh {b : Nat → Int} {n : Int} {M C : List Int} {T : pT} {o : Int} {I L : xF} (h : sc_st b n M C T o I L) (hk : 2 ≤ T.1) : x_bh I := by
  have hp := sc_pos h hk
  obtain ⟨⟨e1, e2, e3, e4, e5⟩, h2, _⟩ := h
  have h5 := h2.2.1 hk
  unfold x_bh
  omega
theorem sc_adv {b : Nat → Int} {n : Int} {M C : List Int} {T : pT} {o : Int} {I L : xF} {I' L' : xF} (hk : 2 ≤ T.1) (h : sc_st b n M C T o I L) (ha : xo_adv [xR 2] I L none I' L') : sc_st b n M C (m_nx b n T) o I' L' := by
  have hp := sc_pos h hk
  obtain ⟨⟨e1, e2, e3, e4, e5⟩, h2, h3, h4, h6⟩ := h
  obtain ⟨_, f1, f2, f3⟩ := ha
  have h5 := h2.2.1 hk
  rw [e1, e2, e3, h5] at f3
  refine ⟨⟨?_, (f1 1 2 rfl).trans e2, (f1 1 3 rfl).trans e3, e4, (f1 1 9 rfl).trans e5⟩, f3, ⟨T.2.2.1, hp.1, hp.2, rfl⟩, sc_nm_eq h4 (f1 12 3 rfl) (fun k => f1 14 k rfl) (fun k => f2 13 k rfl), (f1 127 5 rfl).trans h6.1, h6.2⟩
  rw [← e1]
  exact funext (fun j => f1 2 j rfl)
/-- what addStep() leaves -/
def sc_fr (I I' : xF) : Prop := ∀ r c, ¬ (r = 127 ∧ c = 4) → r ≠ 128 → r ≠ 129 → r ≠ 130 → I' r c = I r c
theorem c_tok_eq {T : pT} {I L I' L' : xF} (h : c_tok T I L) (e : ∀ k, I' 1 k = I 1 k) (e2 : L' 1 8 = L 1 8) : c_tok T I' L' := by
  unfold c_tok at h ⊢
  rw [e, e, e, e, e2]
  exact h
theorem sc_step {b : Nat → Int} {n : Int} {M C : List Int} {T : pT} {o : Int} {I L : xF} {I' : xF} (h : sc_st b n M C T o I L) (hf : sc_fr I I') : sc_st b n M C T o I' L := by
  obtain ⟨⟨e1, e2, e3, e4, e5⟩, h2, h3, h4, h6⟩ := h
  have e : ∀ r c, r < 127 → I' r c = I r c := fun r c hr => hf r c (fun q => by omega) (by omega) (by omega) (by omega)
  refine ⟨⟨?_, (e 1 2 (by decide)).trans e2, (e 1 3 (by decide)).trans e3, e4, (e 1 9 (by decide)).trans e5⟩, c_tok_eq h2 (fun k => e 1 k (by decide)) rfl, h3, sc_nm_eq h4 (e 12 3 (by decide)) (fun k => e 14 k (by decide)) (fun _ => rfl), (hf 127 5 (by decide) (by decide) (by decide) (by decide)).trans h6.1, h6.2⟩
  rw [← e1]
  exact funext (fun j => e 2 j (by decide))
section XSC
variable {EX : (Nat → Prop) → State → Heap → Prop} {l : Launch} {kc : Nat → ClassId} {D : va_G} {xb : Nat} {ad : Nat → Option Nat}
def xo_isWord : xPost := fun za I L rv I' L' => I' = I ∧ L' = L ∧ ∃ x : Int, za = [xR 2, .inl x] ∧ ((I 1 6 = 2 ∧ I 1 7 = x ∧ rv = some (.inl 1)) ∨ (¬ (I 1 6 = 2 ∧ I 1 7 = x) ∧ rv = some (.inl 0)))
theorem xn_isWord (hE : z_EX EX) : x_Ok EX l zTB zNT kc D vwCl xb nTY ad yP0 108 0 xr_sign xo_isWord := by
  refine x_meth (M := ym_X10_isWord) hE y_prog 40 rfl (by decide) xn_none_ok (fun za I L ⟨x, h⟩ => by subst h; exact Nat.le_refl 2) (fun za I L ⟨x, h⟩ => ?_)
  subst h
  intro k hk _
  refine And.intro ?_ ?_
  · intro t1
    exact ⟨by decide, rfl, rfl, x, rfl, Or.inr ⟨fun q => t1 (hk.trans q.1), rfl⟩⟩
  · intro t1 v hv _
    refine And.intro ?_ ?_
    · intro t2
      exact ⟨by decide, rfl, rfl, x, rfl, Or.inr ⟨fun q => t2 (hv.trans q.2), rfl⟩⟩
    · intro t2
      exact ⟨by decide, rfl, rfl, x, rfl, Or.inl ⟨hk.symm.trans t1, hv.symm.trans t2, rfl⟩⟩
def xr_as : xPre := fun za _ _ => ∃ w s k : Int, za = [xR 128, .inl w, .inl s, .inl k] ∧ (0 ≤ w ∧ w ≤ 2147483647) ∧ (0 ≤ s ∧ s ≤ 62) ∧ (-1 ≤ k ∧ k ≤ 999)
def xo_as : xPost := fun _ I L rv I' L' => rv = none ∧ L' = L ∧ sc_fr I I'
theorem xn_as (hE : z_EX EX) : x_Ok EX l zTB zNT kc D vwCl xb nTY ad yP0 56 0 xr_as xo_as := by
  refine x_meth (M := ym_X7_addStep) hE y_prog 60 rfl (by decide) xn_none_ok (fun za I L ⟨w, s, k, h, _⟩ => by subst h; exact (by decide : 4 ≤ 4)) (fun za I L ⟨w, s, k, h, hw, hs, hk⟩ => ?_)
  subst h
  intro z (hz : z = I 127 4) (bz : 0 ≤ z ∧ z ≤ 40)
  refine And.intro ?_ ?_
  · intro t1
    exact ⟨rfl, rfl, fun _ _ _ _ _ _ => rfl⟩
  · intro t1
    intro z2 (hz2 : z2 = I 127 4) (bz2 : 0 ≤ z2 ∧ z2 ≤ 40)
    refine And.intro (show 0 ≤ z2 ∧ z2 < 40 by omega) ?_
    refine And.intro (fun q hq => ?_) ?_
    · rw [x_seg1 (by omega)] at hq
      cases hq
      exact hw
    intro z3 (hz3 : z3 = I 127 4) (bz3 : 0 ≤ z3 ∧ z3 ≤ 40)
    refine And.intro (show 0 ≤ z3 ∧ z3 < 40 by omega) ?_
    refine And.intro (fun q hq => ?_) ?_
    · rw [x_seg1 (by omega)] at hq
      cases hq
      exact hs
    intro z4 (hz4 : z4 = I 127 4) (bz4 : 0 ≤ z4 ∧ z4 ≤ 40)
    refine And.intro (show 0 ≤ z4 ∧ z4 < 40 by omega) ?_
    refine And.intro (fun q hq => ?_) ?_
    · rw [x_seg1 (by omega)] at hq
      cases hq
      exact hk
    intro z5 (hz5 : z5 = I 127 4) (bz5 : 0 ≤ z5 ∧ z5 ≤ 40)
    refine Or.inl ⟨by omega, ?_⟩
    refine And.intro (show 0 ≤ z5 + 1 ∧ z5 + 1 ≤ 40 by omega) ?_
    exact ⟨rfl, rfl, fun r c h1 h2 h3 h4 => (x_u_if _ _ _ _ _ _).trans ((if_neg h1).trans ((x_u_r h4).trans ((x_u_r h3).trans (x_u_r h2))))⟩
def xr_cl7 : xPre := fun za _ _ => za = [xR 128]
def xo_cl7 : xPost := fun _ I L rv I' L' => rv = none ∧ L' = L ∧ I' = x_u (x_u I 127 4 0) 127 5 0
theorem xn_cl7 (hE : z_EX EX) : x_Ok EX l zTB zNT kc D vwCl xb nTY ad yP0 54 0 xr_cl7 xo_cl7 := by
  refine x_meth (M := ym_X7_clear) hE y_prog 30 rfl (by decide) xn_none_ok (fun za I L h => by subst h; exact (by decide : 1 ≤ 1)) (fun za I L h => ?_)
  subst h
  refine And.intro (by decide) ?_
  refine And.intro (by decide) ?_
  exact ⟨rfl, rfl, rfl⟩
/-! what a word of a ONE says further -/
def sc_lf (b : Nat → Int) (n : Int) (M C : List Int) (o : Int) (r : (Int × Int) ⊕ pT) (I' L' : xF) (nu : Int) : Prop := match r with
  | .inl (at0, f) => nu = -1 ∧ I' 1 9 = f ∧ I' 1 10 = at0
  | .inr T' => 0 ≤ nu ∧ nu ≤ 999 ∧ sc_st b n M C T' o I' L'
theorem sc_lf_fr {b : Nat → Int} {n : Int} {M C : List Int} {o : Int} {r : (Int × Int) ⊕ pT} {I L I' : xF} {nu : Int} (h : sc_lf b n M C o r I L nu) (hf : sc_fr I I') : sc_lf b n M C o r I' L nu := by
  match r, h with
  | .inl (at0, f), ⟨h1, h2, h3⟩ => exact ⟨h1, (hf 1 9 (by decide) (by decide) (by decide) (by decide)).trans h2, (hf 1 10 (by decide) (by decide) (by decide) (by decide)).trans h3⟩
  | .inr T', ⟨h1, h2, h3⟩ => exact ⟨h1, h2, sc_step h3 hf⟩
def xr_say : xPre := fun za I L => ∃ w : Nat, za = [xR 127, .inl (w : Int)] ∧ (16 ≤ w ∧ w ≤ 23) ∧ ∃ b n M C T o, sc_st b n M C T o I L
def xo_say : xPost := fun za I L rv I' L' => ∀ w : Nat, za = [xR 127, .inl (w : Int)] → ∀ s, x_W32[w]? = some s → ∀ b n M C T o, sc_st b n M C T o I L → ∃ nu, sc_lf b n M C o (m_leaf b n M C s T) I' L' nu ∧ rv = some (.inl (if nu = -1 then 0 else 1))
/-- at 142: the number is there, or a FAULT is told -/
def sc_sayI (za : List xV) (I L : xF) (m pc : Nat) (lv : List (Nat × xV)) (sv : List xV) (I' L' : xF) : Prop := sv = [] ∧ ∃ (w : Nat) (sg : Int), za = [xR 127, .inl (w : Int)] ∧ (18 ≤ w ∧ w ≤ 23) ∧ (0 ≤ sg ∧ sg ≤ 62) ∧
  ((pc = 142 ∧ m = 0 ∧ ∃ nu : Int, lv = [(0, xR 127), (1, .inl (w : Int)), (2, .inl sg), (3, .inl nu)] ∧ (-1 ≤ nu ∧ nu ≤ 999) ∧ ∀ s, x_W32[w]? = some s → ∀ b n M C T o, sc_st b n M C T o I L → sc_lf b n M C o (m_leaf b n M C s T) I' L' nu) ∨
   (pc = 123 ∧ m = 1 ∧ lv = [(0, xR 127), (1, .inl (w : Int)), (2, .inl sg)] ∧ 20 ≤ w ∧ I' = I ∧ L' = L ∧ I 1 6 = 5 ∧ (60 ≤ I 1 7 ∧ I 1 7 ≤ 62)))
def cn_say : List (Nat × Nat × xPre × xPost) := [(56, 0, xr_as, xo_as), (112, 2, xr_ntm, xo_ntm), (109, 0, xr_sign, xo_isSign), (106, 0, xr_ref, xo_ref), (100, 1, xr_adv, xo_adv), (111, 2, xr_tn, xo_tn)]
theorem cn_say_ok (hE : z_EX EX) : x_ctok EX l zTB zNT kc D vwCl xb nTY ad yP0 (x_ctl cn_say) := x_ctl_cons (xn_as hE) (x_ctl_cons (xn_tm hE) (x_ctl_cons (xn_isSign hE) (x_ctl_cons (xn_ref hE) (x_ctl_cons (xn_adv hE) (x_ctl_cons (xn_tn hE) x_ctl_nil)))))
theorem sc_of {M C : List Int} (h : 18 ≤ 19) {w : Nat} {s : Int} (hs : x_W32[w]? = some s) : (w = 16 → s = 67141) ∧ (w = 17 → s = 267652) ∧ (w = 18 → s = 486) ∧ (w = 19 → s = 22483122) ∧ (20 ≤ w → w ≤ 23 → s ≠ 67141 ∧ s ≠ 267652 ∧ s ≠ 486 ∧ s ≠ 22483122) := by
  refine ⟨fun q => ?_, fun q => ?_, fun q => ?_, fun q => ?_, fun q q2 => ?_⟩
  · subst q; exact (Option.some.inj hs).symm
  · subst q; exact (Option.some.inj hs).symm
  · subst q; exact (Option.some.inj hs).symm
  · subst q; exact (Option.some.inj hs).symm
  · have : w = 20 ∨ w = 21 ∨ w = 22 ∨ w = 23 := by omega
    rcases this with rfl | rfl | rfl | rfl <;> (have h9 := Option.some.inj hs; subst h9; decide)
/-- a NAME of a sort behind 'of', 'under' -/
theorem sc_name {b : Nat → Int} {n : Int} {M C : List Int} {T : pT} {o : Int} {I L : xF} {I' L' : xF} {rv : Option xV} {s u : Int} (hsu : (s = 486 ∧ u = 1) ∨ (s = 22483122 ∧ u = 2)) (h : sc_st b n M C T o I L) (hp : xo_ntm [xR 2, xR 13, .inl u] I L rv I' L') : ∃ nu, rv = some (.inl nu) ∧ (-1 ≤ nu ∧ nu ≤ 7) ∧ sc_lf b n M C o (m_leaf b n M C s T) I' L' nu := by
  have hs0 : ¬ (s = 67141 ∨ s = 267652) := by omega
  have hs1 : s = 486 ∨ s = 22483122 := by omega
  obtain ⟨u', hu, hp⟩ := hp
  have hu : u = u' := by
    simp only [List.cons.injEq, Sum.inl.injEq] at hu
    exact hu.2.2.1
  subst hu
  have hmem : ∀ x, sc_in I L u x ↔ x ∈ (if s = 486 then M else C) := fun x => by
    rcases hsu with ⟨rfl, rfl⟩ | ⟨rfl, rfl⟩
    · rw [if_pos rfl]
      exact h.2.2.2.1.1 x
    · rw [if_neg (by decide)]
      exact h.2.2.2.1.2 x
  have hn := c_tok_name h.2.1
  rcases hp with ⟨k1, rfl, rfl, rfl⟩ | ⟨k1, k2, rfl, rfl, rfl⟩ | ⟨k1, k, k2, k3, k4, rfl, k5, k6⟩
  · refine ⟨-1, rfl, by decide, ?_⟩
    unfold m_leaf
    rw [if_neg hs0, if_pos hs1, if_pos (fun q => k1 (hn.1.mpr q))]
    exact ⟨rfl, rfl, h.2.1.1⟩
  · refine ⟨-1, rfl, by decide, ?_⟩
    have h9 := hn.1.mp k1
    unfold m_leaf
    rw [if_neg hs0, if_pos hs1, if_neg (fun q => q h9), if_pos (fun q => by
      obtain ⟨k, g1, g2, g3⟩ := (hmem _).mpr q
      exact k2 k g1 ⟨g2.trans (hn.2 k1).symm, g3⟩)]
    exact ⟨rfl, rfl, h.2.1.1⟩
  · refine ⟨I 15 k, rfl, by omega, ?_⟩
    have h9 := hn.1.mp k1
    unfold m_leaf
    rw [if_neg hs0, if_pos hs1, if_neg (fun q => q h9), if_neg (fun q => q ((hmem _).mp ⟨k, k2, k3.trans (hn.2 k1), k4⟩))]
    exact ⟨by omega, by omega, sc_adv (by omega) h k6⟩
set_option maxHeartbeats 4000000 in
theorem xn_say (hE : z_EX EX) : x_Ok EX l zTB zNT kc D vwCl xb nTY ad yP0 66 3 xr_say xo_say := by
  refine x_loop (M := ym_X8_readSaying) hE y_prog 80 rfl (by decide) (cn_say_ok hE) (fun za I L ⟨w, h, _⟩ => by subst h; exact (by decide : 2 ≤ 4)) (x_cut2 123 142) sc_sayI (fun za I L ⟨w, h, hw, b, n, M, C, T, o, hst⟩ => ?_) (fun za I L ⟨_, _, _, b, n, M, C, T, o, hst⟩ m pc lv sv I' L' hc hi => ?_)
  · subst h
    have hfin : ∀ (I1 : xF), sc_fr I I1 → (w = 16 ∨ w = 17) → xo_say [xR 127, .inl (w : Int)] I L (some (.inl 1)) I1 L := fun I1 hf hw2 w' hw' s hs b n M C T o hst => by
      simp only [List.cons.injEq, Sum.inl.injEq] at hw'
      obtain rfl : w = w' := by omega
      have h9 := sc_of (M := M) (C := C) (by decide) hs
      have hs0 : s = 67141 ∨ s = 267652 := by
        rcases hw2 with q | q
        · exact Or.inl (h9.1 q)
        · exact Or.inr (h9.2.1 q)
      refine ⟨0, ?_, rfl⟩
      unfold m_leaf
      rw [if_pos hs0]
      exact ⟨by decide, by decide, sc_step hst hf⟩
    have hname : ∀ (u : Int) (rv : Option xV) (I1 L1 : xF), ((w = 18 ∧ u = 1) ∨ (w = 19 ∧ u = 2)) → xo_ntm [xR 2, xR 13, .inl u] I L rv I1 L1 → ∃ nu, rv = some (.inl nu) ∧ (-1 ≤ nu ∧ nu ≤ 999) ∧ ∀ s, x_W32[w]? = some s → ∀ b n M C T o, sc_st b n M C T o I L → sc_lf b n M C o (m_leaf b n M C s T) I1 L1 nu := fun u rv I1 L1 hwu hp => by
      have hsu : ∀ s, x_W32[w]? = some s → (s = 486 ∧ u = 1) ∨ (s = 22483122 ∧ u = 2) := fun s hs => by
        have h9 := sc_of (M := M) (C := C) (by decide) hs
        rcases hwu with ⟨q, q2⟩ | ⟨q, q2⟩
        · exact Or.inl ⟨h9.2.2.1 q, q2⟩
        · exact Or.inr ⟨h9.2.2.2.1 q, q2⟩
      obtain ⟨s0, hs0⟩ : ∃ s, x_W32[w]? = some s := ⟨_, List.getElem?_eq_getElem (show w < x_W32.length by
        have : x_W32.length = 24 := rfl
        omega)⟩
      obtain ⟨nu, e1, e2, _⟩ := sc_name (hsu _ hs0) hst hp
      refine ⟨nu, e1, by omega, fun s hs b n M C T o hst => ?_⟩
      obtain ⟨nu', e1', _, e3'⟩ := sc_name (hsu _ hs) hst hp
      rw [e1] at e1'
      cases e1'
      exact e3'
    refine And.intro ?_ ?_
    · intro t1
      refine And.intro ⟨_, 0, 0, rfl, by omega, by decide, by decide⟩ ?_
      rintro rv I1 L1 ⟨rfl, rfl, hf⟩
      exact ⟨by decide, hfin I1 hf (Or.inl (by omega))⟩
    · intro t1
      refine And.intro ?_ ?_
      · intro t2
        refine And.intro ?_ ?_
        · intro t3
          refine And.intro ?_ ?_
          · intro t4
            intro z (hz : z = I 1 7) _
            refine And.intro ⟨60, rfl⟩ ?_
            rintro rv I1 L1 ⟨rfl, rfl, x, hx, ⟨g1, g2, rfl⟩ | ⟨g1, rfl⟩⟩
            · cases hx
              refine And.intro (fun _ => ?_) (fun q => absurd q (by decide))
              exact ⟨1, [(0, xR 127), (1, .inl (w : Int)), (2, .inl z)], ⟨rfl, rfl, rfl, trivial⟩, rfl, w, z, rfl, by omega, by omega, Or.inr ⟨rfl, rfl, rfl, by omega, rfl, rfl, g1, by omega⟩⟩
            · cases hx
              refine And.intro (fun q => absurd rfl q) (fun _ => ?_)
              refine And.intro ⟨61, rfl⟩ ?_
              rintro rv I1 L1 ⟨rfl, rfl, x, hx, ⟨g3, g4, rfl⟩ | ⟨g3, rfl⟩⟩
              · cases hx
                refine And.intro (fun _ => ?_) (fun q => absurd q (by decide))
                exact ⟨1, [(0, xR 127), (1, .inl (w : Int)), (2, .inl z)], ⟨rfl, rfl, rfl, trivial⟩, rfl, w, z, rfl, by omega, by omega, Or.inr ⟨rfl, rfl, rfl, by omega, rfl, rfl, g3, by omega⟩⟩
              · cases hx
                refine And.intro (fun q => absurd rfl q) (fun _ => ?_)
                refine And.intro ⟨62, rfl⟩ ?_
                rintro rv I1 L1 ⟨rfl, rfl, x, hx, ⟨g5, g6, rfl⟩ | ⟨g5, rfl⟩⟩
                · cases hx
                  refine And.intro (fun _ => ?_) (fun q => absurd q (by decide))
                  exact ⟨1, [(0, xR 127), (1, .inl (w : Int)), (2, .inl z)], ⟨rfl, rfl, rfl, trivial⟩, rfl, w, z, rfl, by omega, by omega, Or.inr ⟨rfl, rfl, rfl, by omega, rfl, rfl, g5, by omega⟩⟩
                · cases hx
                  refine And.intro (fun q => absurd rfl q) (fun _ => ?_)
                  refine And.intro ⟨1, rfl, by decide, by decide⟩ ?_
                  rintro rv I2 L2 ⟨f, hf, rfl, rfl, rfl⟩
                  cases hf
                  refine ⟨by decide, fun w' hw' s hs b n M C T o hst => ⟨-1, ?_, rfl⟩⟩
                  simp only [List.cons.injEq, Sum.inl.injEq] at hw'
                  obtain rfl : w = w' := by omega
                  have h9 := (sc_of (M := M) (C := C) (by decide) hs).2.2.2.2 (by omega) (by omega)
                  have hsg := c_tok_sign hst.2.1
                  unfold m_leaf
                  rw [if_neg (by omega), if_neg (by omega), if_pos (fun q => by
                    have h8 := hsg.1.mpr q.1
                    have h7 := hsg.2 h8
                    omega)]
                  exact ⟨rfl, rfl, hst.2.1.1⟩
          · intro t4
            refine And.intro ⟨2, rfl, fun q => sc_bh hst (by have := (c_tok_name hst.2.1).1.mp q; omega)⟩ ?_
            intro rv I1 L1 hp
            obtain ⟨nu, rfl, hnu, hlf⟩ := hname 2 rv I1 L1 (Or.inr ⟨by omega, rfl⟩) hp
            exact ⟨0, [(0, xR 127), (1, .inl (w : Int)), (2, .inl 0), (3, .inl nu)], ⟨rfl, rfl, rfl, rfl, trivial⟩, rfl, w, 0, rfl, by omega, by decide, Or.inl ⟨rfl, rfl, nu, rfl, hnu, hlf⟩⟩
        · intro t3
          refine And.intro ⟨1, rfl, fun q => sc_bh hst (by have := (c_tok_name hst.2.1).1.mp q; omega)⟩ ?_
          intro rv I1 L1 hp
          obtain ⟨nu, rfl, hnu, hlf⟩ := hname 1 rv I1 L1 (Or.inl ⟨by omega, rfl⟩) hp
          exact ⟨0, [(0, xR 127), (1, .inl (w : Int)), (2, .inl 0), (3, .inl nu)], ⟨rfl, rfl, rfl, rfl, trivial⟩, rfl, w, 0, rfl, by omega, by decide, Or.inl ⟨rfl, rfl, nu, rfl, hnu, hlf⟩⟩
      · intro t2
        refine And.intro ⟨_, 0, 0, rfl, by omega, by decide, by decide⟩ ?_
        rintro rv I1 L1 ⟨rfl, rfl, hf⟩
        exact ⟨by decide, hfin I1 hf (Or.inr (by omega))⟩
  · obtain ⟨rfl, w, sg, rfl, hw, hsg, ⟨rfl, rfl, nu, rfl, hnu, hlf⟩ | ⟨rfl, rfl, rfl, hw2, rfl, rfl, h5, h7⟩⟩ := hi
    · refine And.intro ⟨_, sg, nu, rfl, by omega, hsg, hnu⟩ ?_
      rintro rv I1 L1 ⟨rfl, rfl, hf⟩
      have hans : ∀ z : Int, z = (if nu = -1 then 0 else 1) → xo_say [xR 127, .inl (w : Int)] I L (some (.inl z)) I1 L1 := fun z hz w' hw' s hs b n M C T o hst => by
        simp only [List.cons.injEq, Sum.inl.injEq] at hw'
        obtain rfl : w = w' := by omega
        exact ⟨nu, sc_lf_fr (hlf s hs b n M C T o hst) hf, by rw [hz]⟩
      refine And.intro ?_ ?_
      · intro t1
        exact ⟨by decide, hans 0 (by rw [if_pos t1])⟩
      · intro t1
        exact ⟨by decide, hans 1 (by rw [if_neg t1])⟩
    · refine And.intro ⟨rfl, sc_bh hst (by have := (c_tok_sign hst.2.1).1.mp h5; omega)⟩ ?_
      intro rv I1 L1 hadv
      have h9 := hadv.1
      subst h9
      have hst1 : ∀ b n M C T o, sc_st b n M C T o I' L' → sc_st b n M C (m_nx b n T) o I1 L1 := fun b n M C T o hst => sc_adv (by have := (c_tok_sign hst.2.1).1.mp h5; omega) hst hadv
      have hleaf : ∀ s, x_W32[w]? = some s → ∀ b n M C T o, sc_st b n M C T o I' L' → m_leaf b n M C s T = if (m_nx b n T).1 ≠ 4 then .inl ((m_nx b n T).2.1, 1) else .inr (m_nx b n (m_nx b n T)) := fun s hs b n M C T o hst => by
        have h9 := (sc_of (M := M) (C := C) (by decide) hs).2.2.2.2 (by omega) (by omega)
        have hsg := c_tok_sign hst.2.1
        unfold m_leaf
        rw [if_neg (by omega), if_neg (by omega), if_neg (fun q => q ⟨hsg.1.mp h5, by rw [← hsg.2 h5]; exact h7⟩)]
      refine And.intro ⟨0, 999, rfl, fun q => sc_bh (hst1 _ _ _ _ _ _ hst) (by have := (c_tok_num (hst1 _ _ _ _ _ _ hst).2.1).1.mp q; omega)⟩ ?_
      rintro rv I2 L2 ⟨lo, hi, hlh, hp⟩
      cases hlh
      have key : ∃ nu, rv = some (.inl nu) ∧ (-1 ≤ nu ∧ nu ≤ 999) ∧ ∀ s, x_W32[w]? = some s → ∀ b n M C T o, sc_st b n M C T o I' L' → sc_lf b n M C o (m_leaf b n M C s T) I2 L2 nu := by
        rcases hp with ⟨k1, k2, k3, rfl, k4⟩ | ⟨k1, rfl, rfl, rfl⟩ | ⟨k1, k2, rfl, rfl, rfl⟩
        · refine ⟨I1 1 7, rfl, by omega, fun s hs b n M C T o hst => ?_⟩
          have h8 := hst1 _ _ _ _ _ _ hst
          have h4 := (c_tok_num h8.2.1).1.mp k1
          rw [hleaf s hs b n M C T o hst, if_neg (fun q => q h4)]
          exact ⟨k2, k3, sc_adv (by omega) h8 k4⟩
        · refine ⟨-1, rfl, by decide, fun s hs b n M C T o hst => ?_⟩
          have h8 := hst1 _ _ _ _ _ _ hst
          rw [hleaf s hs b n M C T o hst, if_pos (fun q => k1 ((c_tok_num h8.2.1).1.mpr q))]
          exact ⟨rfl, rfl, h8.2.1.1⟩
        · exfalso
          have h8 := hst1 _ _ _ _ _ _ hst
          have h9 := sc_num h8 ((c_tok_num h8.2.1).1.mp k1)
          have h10 := (c_tok_num h8.2.1).2 k1
          omega
      obtain ⟨nu, rfl, hnu, hlf⟩ := key
      exact ⟨0, [(0, xR 127), (1, .inl (w : Int)), (2, .inl sg), (3, .inl nu)], by omega, ⟨rfl, rfl, rfl, rfl, trivial⟩, rfl, w, sg, rfl, hw, hsg, Or.inl ⟨rfl, rfl, nu, rfl, hnu, hlf⟩⟩
end XSC
