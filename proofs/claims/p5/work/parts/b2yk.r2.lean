/-! ===== the reference reads a SENTENCE: a step of the machine ===== -/
def m_cnt : List Nat → Int
  | [] => 0
  | x :: r => (if x = 20 ∨ x = 23 then 1 else 0) + m_cnt r
theorem m_cnt_b : ∀ S : List Nat, 0 ≤ m_cnt S ∧ m_cnt S ≤ S.length
  | [] => ⟨Int.le_refl _, Int.le_refl _⟩
  | x :: r => by
    have h := m_cnt_b r
    show 0 ≤ (if x = 20 ∨ x = 23 then 1 else 0) + m_cnt r ∧ (if x = 20 ∨ x = 23 then 1 else 0) + m_cnt r ≤ ((x :: r).length : Int)
    rw [List.length_cons]
    split <;> omega
theorem m_cnt_nots : ∀ (S : List Nat) (d : Int), d = 1 + m_cnt S → (m_nots d S).1 = 1 + m_cnt (m_nots d S).2
  | [], _, h => h
  | x :: r, d, h => by
    show (if x = 20 then m_nots (d - 1) r else (d, x :: r)).1 = 1 + m_cnt (if x = 20 then m_nots (d - 1) r else (d, x :: r)).2
    have h9 : d = 1 + ((if x = 20 ∨ x = 23 then 1 else 0) + m_cnt r) := h
    by_cases hx : x = 20
    · rw [if_pos hx]
      rw [if_pos (Or.inl hx)] at h9
      exact m_cnt_nots r (d - 1) (by omega)
    · rw [if_neg hx]
      exact h
theorem m_cnt_joins (t : Nat) : ∀ S : List Nat, m_cnt (m_joins t S) = m_cnt S
  | [] => rfl
  | x :: r => by
    show m_cnt (if x = 21 ∨ (x = 22 ∧ t = 22) then m_joins t r else x :: r) = _
    by_cases hx : x = 21 ∨ (x = 22 ∧ t = 22)
    · rw [if_pos hx, m_cnt_joins t r]
      show m_cnt r = (if x = 20 ∨ x = 23 then 1 else 0) + m_cnt r
      rw [if_neg (by omega)]
      omega
    · rw [if_neg hx]
theorem m_joins_top : ∀ (S : List Nat) (x : Nat) (r : List Nat), m_joins 22 S = x :: r → x ≠ 21 ∧ x ≠ 22
  | [], x, r, h => by cases h
  | y :: S, x, r, h => by
    have h : (if y = 21 ∨ (y = 22 ∧ (22 : Nat) = 22) then m_joins 22 S else y :: S) = x :: r := h
    by_cases hy : y = 21 ∨ (y = 22 ∧ (22 : Nat) = 22)
    · rw [if_pos hy] at h
      exact m_joins_top S x r h
    · rw [if_neg hy] at h
      have hxy : y = x := (List.cons.inj h).1
      subst hxy
      constructor
      · intro q
        exact hy (Or.inl q)
      · intro q
        exact hy (Or.inr ⟨q, rfl⟩)
def rm_nm (M C : List Int) (I L : xF) : Prop := (∀ x, x_gw x → ((∃ k : Nat, (k : Int) < I 211 1 ∧ L 214 (8 + k) = t_cv x) ↔ x ∈ M)) ∧ ∀ x, x_gw x → ((∃ k : Nat, (k : Int) < I 211 2 ∧ L 214 (14 + k) = t_cv x) ↔ x ∈ C)
theorem rm_nm_eq {M C : List Int} {I L I' L' : xF} (h : rm_nm M C I L) (e1 : ∀ k, I' 211 k = I 211 k) (e2 : ∀ k, L' 214 k = L 214 k) : rm_nm M C I' L' := by
  constructor
  · intro x hx
    refine Iff.trans ⟨fun ⟨k, a, c⟩ => ⟨k, by rw [← e1]; exact a, by rw [← e2]; exact c⟩, fun ⟨k, a, c⟩ => ⟨k, by rw [e1]; exact a, by rw [e2]; exact c⟩⟩ (h.1 x hx)
  · intro x hx
    refine Iff.trans ⟨fun ⟨k, a, c⟩ => ⟨k, by rw [← e1]; exact a, by rw [← e2]; exact c⟩, fun ⟨k, a, c⟩ => ⟨k, by rw [e1]; exact a, by rw [e2]; exact c⟩⟩ (h.2 x hx)
def m_wi (w : Bool) : Int := if w = true then 1 else 0
def rm_st (b : Nat → Int) (n : Int) (M C : List Int) (w : Bool) (T : pT) (o d : Int) (S : List Nat) (I L : xF) : Prop :=
  (r_b I = b ∧ I 209 3 = n ∧ I 209 5 = 200 ∧ (0 ≤ n ∧ n ≤ 940) ∧ I 209 15 = 0) ∧ r_tok T I L ∧ (∃ p, 0 ≤ p ∧ p ≤ n ∧ T = t_tok b n 200 p) ∧ rm_nm M C I L ∧ (I 209 41 = o ∧ I 209 43 = d ∧ I 209 44 = m_wi w) ∧ rm_pr S I ∧ (0 ≤ o ∧ o ≤ 20 ∧ I 209 40 + S.length + m_wi w ≤ 2 * o) ∧ d = 1 + m_cnt S
theorem rm_pos {b : Nat → Int} {n : Int} {M C : List Int} {T : pT} {o d : Int} {S : List Nat} {I L : xF} {w : Bool} (h : rm_st b n M C w T o d S I L) (hk : 2 ≤ T.1) : 0 ≤ T.2.2.1 ∧ T.2.2.1 ≤ n := by
  obtain ⟨_, _, ⟨p, p0, p1, rfl⟩, _⟩ := h
  have := t_tok_pos (b := b) (most := 200) p0 p1 hk
  omega
theorem rm_bh {b : Nat → Int} {n : Int} {M C : List Int} {T : pT} {o d : Int} {S : List Nat} {I L : xF} {w : Bool} (h : rm_st b n M C w T o d S I L) (hk : 2 ≤ T.1) : r_bh I := by
  have hp := rm_pos h hk
  obtain ⟨⟨e1, e2, e3, e4, e5⟩, h2, _⟩ := h
  have h5 := h2.2.1 hk
  unfold r_bh
  omega
theorem rm_next {b : Nat → Int} {n : Int} {M C : List Int} {T : pT} {o d : Int} {S : List Nat} {I L : xF} {w : Bool} {I' L' : xF} (hk : 2 ≤ T.1) (h : rm_st b n M C w T o d S I L) (ha : xo_next [xR 210] I L none I' L') : rm_st b n M C w (m_nx b n T) o d S I' L' := by
  have hp := rm_pos h hk
  obtain ⟨⟨e1, e2, e3, e4, e5⟩, h2, h3, h4, ⟨h5, h6, h7⟩, ⟨h8, h9, h10, h11⟩, h12, h13⟩ := h
  obtain ⟨_, f1, f2, f3⟩ := ha
  have hb := h2.2.1 hk
  rw [e1, e2, e3, hb] at f3
  have e40 : I' 209 40 = I 209 40 := f1 209 40 rfl
  exact ⟨⟨(r_b_fi f1).trans e1, (f1 209 3 rfl).trans e2, (f1 209 5 rfl).trans e3, e4, (f1 209 15 rfl).trans e5⟩, f3, ⟨T.2.2.1, hp.1, hp.2, rfl⟩, rm_nm_eq h4 (fun k => f1 211 k rfl) (fun k => f2 214 k rfl), ⟨(f1 209 41 rfl).trans h5, (f1 209 43 rfl).trans h6, (f1 209 44 rfl).trans h7⟩, ⟨rm_sk_eq h8 (f1 209 42 rfl) (fun k => f1 220 k rfl), h9, by rw [e40]; exact h10, by rw [e40]; exact h11⟩, by rw [e40]; exact h12, h13⟩
theorem r_tok_eq {T : pT} {I L I' L' : xF} (h : r_tok T I L) (e : ∀ k, k ≤ 14 → I' 209 k = I 209 k) (e2 : L' 209 17 = L 209 17) : r_tok T I' L' := by
  unfold r_tok at h ⊢
  rw [e 12 (by decide), e 4 (by decide), e 11 (by decide), e 14 (by decide), e2]
  exact h
/-- cells of its own alone change: the stack, what is counted, whole -/
theorem rm_mv {b : Nat → Int} {n : Int} {M C : List Int} {T : pT} {o d : Int} {S : List Nat} {I L : xF} {w w' : Bool} {I' : xF} {o' d' : Int} {S' : List Nat} (h : rm_st b n M C w T o d S I L) (hf : ∀ r c, ¬ (r = 209 ∧ 40 ≤ c ∧ c ≤ 44) → r ≠ 213 → r ≠ 220 → I' r c = I r c) (h1 : I' 209 41 = o' ∧ I' 209 43 = d' ∧ I' 209 44 = m_wi w') (h2 : rm_pr S' I') (h3 : 0 ≤ o' ∧ o' ≤ 20 ∧ I' 209 40 + S'.length + m_wi w' ≤ 2 * o') (h4 : d' = 1 + m_cnt S') : rm_st b n M C w' T o' d' S' I' L := by
  obtain ⟨⟨e1, e2, e3, e4, e5⟩, g2, g3, g4, _⟩ := h
  have e : ∀ c, c < 40 → I' 209 c = I 209 c := fun c hc => hf 209 c (fun q => by omega) (by decide) (by decide)
  have er : ∀ r c, r ≠ 209 → r ≠ 213 → r ≠ 220 → I' r c = I r c := fun r c hr => hf r c (fun q => hr q.1)
  refine ⟨⟨?_, (e 3 (by decide)).trans e2, (e 5 (by decide)).trans e3, e4, (e 15 (by decide)).trans e5⟩, r_tok_eq g2 (fun k hk => e k (by omega)) rfl, g3, rm_nm_eq g4 (fun k => er 211 k (by decide) (by decide) (by decide)) (fun _ => rfl), h1, h2, h3, h4⟩
  rw [← e1]
  exact funext (fun j => by
    unfold r_b
    rw [er 210 j (by decide) (by decide) (by decide)])
theorem rm_nots {b : Nat → Int} {n : Int} {M C : List Int} {T : pT} {o d : Int} {S : List Nat} {I L : xF} {I' L' : xF} {rv : Option xV} (h : rm_st b n M C true T o d S I L) (hp : xo_nt [xR 210] I L rv I' L') : rm_st b n M C true T o (m_nots d S).1 (m_nots d S).2 I' L := by
  obtain ⟨_, _, hf, ha⟩ := hp
  have hd : I 209 43 = d := h.2.2.2.2.1.2.1
  obtain ⟨a1, a2, a3⟩ := ha S h.2.2.2.2.2.1
  rw [hd] at a1 a2 a3
  have h9 := h.2.2.2.2.2.2.1
  exact rm_mv h (fun r c h1 h2 _ => hf r c (fun q => h1 ⟨q.1, by omega, by omega⟩) h2) ⟨(hf 209 41 (by decide) (by decide)).trans h.2.2.2.2.1.1, a2, (hf 209 44 (by decide) (by decide)).trans h.2.2.2.2.1.2.2⟩ a1 ⟨h9.1, h9.2.1, by rw [a3]; exact h9.2.2⟩ (m_cnt_nots S d h.2.2.2.2.2.2.2)
theorem rm_joins {b : Nat → Int} {n : Int} {M C : List Int} {T : pT} {o d : Int} {S : List Nat} {I L : xF} {t : Nat} {I' L' : xF} {rv : Option xV} (h : rm_st b n M C true T o d S I L) (hp : xo_jn [xR 210, .inl (t : Int)] I L rv I' L') : rm_st b n M C true T o d (m_joins t S) I' L := by
  obtain ⟨_, _, hf, ha⟩ := hp
  obtain ⟨a1, a3⟩ := ha t rfl S h.2.2.2.2.2.1
  have h9 := h.2.2.2.2.2.2.1
  exact rm_mv h (fun r c h1 h2 _ => hf r c (fun q => h1 ⟨q.1, by omega, by omega⟩) h2) ⟨(hf 209 41 (by decide) (by decide)).trans h.2.2.2.2.1.1, (hf 209 43 (by decide) (by decide)).trans h.2.2.2.2.1.2.1, (hf 209 44 (by decide) (by decide)).trans h.2.2.2.2.1.2.2⟩ a1 ⟨h9.1, h9.2.1, by rw [a3]; exact h9.2.2⟩ (by rw [m_cnt_joins]; exact h.2.2.2.2.2.2.2)
/-- and, or are put on the stack -/
theorem rm_push {b : Nat → Int} {n : Int} {M C : List Int} {T : pT} {o d : Int} {S : List Nat} {I L : xF} {x : Nat} {z z2 : Int} (hx : x = 21 ∨ x = 22) (h : rm_st b n M C true T o d S I L) (hz : z = I 209 42) (hz2 : z2 = I 209 42) : rm_st b n M C false T o d (x :: S) (x_u (x_u (x_u I 220 z.toNat (x : Int)) 209 42 (z2 + 1)) 209 44 0) L := by
  have h5 := h.2.2.2.2.1
  obtain ⟨h8, h9, h10, h11⟩ := h.2.2.2.2.2.1
  have h12 := h.2.2.2.2.2.2.1
  have h13 := h.2.2.2.2.2.2.2
  have hl := h8.1
  have hw : m_wi true = 1 := rfl
  have hw0 : m_wi false = 0 := rfl
  have e40 : x_u (x_u (x_u I 220 z.toNat (x : Int)) 209 42 (z2 + 1)) 209 44 0 209 40 = I 209 40 := rfl
  have htn : z.toNat = S.length := by omega
  refine rm_mv h (fun r c h1 h2 h3 => ?_) ⟨h5.1, h5.2.1, rfl⟩ ⟨rm_sk_push h8 (show z2 + 1 = I 209 42 + 1 by omega) ?_ (fun k hk => ?_), fun y hy => ?_, by rw [e40]; exact h10, by rw [e40, List.length_cons]; omega⟩ ⟨h12.1, h12.2.1, by rw [e40, List.length_cons, hw0]; omega⟩ ?_
  · exact (x_u_if _ _ _ _ _ _).trans ((if_neg (fun q => h1 ⟨q.1, by omega, by omega⟩)).trans ((x_u_if _ _ _ _ _ _).trans ((if_neg (fun q => h1 ⟨q.1, by omega, by omega⟩)).trans (x_u_r h3))))
  · show x_u I 220 z.toNat (x : Int) 220 S.length = _
    rw [htn, x_u_s]
  · show x_u I 220 z.toNat (x : Int) 220 k = _
    rw [x_u_k (by omega)]
  · rcases List.mem_cons.mp hy with rfl | hy
    · omega
    · exact h9 y hy
  · show d = 1 + ((if x = 20 ∨ x = 23 then 1 else 0) + m_cnt S)
    rw [if_neg (by omega)]
    omega
def rm_out (b : Nat → Int) (n : Int) (M C : List Int) (r : mR ⊕ mS) (rv : Option xV) (I' L' : xF) : Prop := match r with
  | .inl (.inl (at0, f)) => rv = some (.inl 0) ∧ I' 209 15 = f ∧ I' 209 16 = at0
  | .inl (.inr _) => False
  | .inr (w, T', o', d', S') => rv = some (.inl 1) ∧ rm_st b n M C w T' o' d' S' I' L'
section XR2
variable {EX : (Nat → Prop) → State → Heap → Prop} {l : Launch} {kc : Nat → ClassId} {D : va_G} {xb : Nat} {ad : Nat → Option Nat}
def xr_bhd : xPre := fun za I L => za = [xR 210] ∧ I 209 11 ≠ 0 ∧ ∃ b n M C T o d S, rm_st b n M C true T o d S I L
def xo_bhd : xPost := fun _ I L rv I' L' => ∀ b n M C T o d S, rm_st b n M C true T o d S I L → rm_out b n M C (m_bh b n T o d S) rv I' L'
def ct_bhd : List (Nat × Nat × xPre × xPost) := [(265, 1, xr_nt, xo_nt), (177, 0, xr_mw, xo_mw), (264, 1, xr_jn, xo_jn), (178, 0, xr_ms, xo_ms), (176, 0, xr_bad, xo_bad), (175, 1, xr_next, xo_next)]
theorem ct_bhd_ok (hE : z_EX EX) : x_ctok EX l zTB zNT kc D vwCl xb yTY ad yP0 (x_ctl ct_bhd) := x_ctl_cons (xk_nt hE) (x_ctl_cons (xk_mw hE) (x_ctl_cons (xk_jn hE) (x_ctl_cons (xk_ms hE) (x_ctl_cons (xk_bad hE) (x_ctl_cons (xk_next hE) x_ctl_nil)))))
set_option maxHeartbeats 4000000 in
theorem xk_bhd (hE : z_EX EX) : x_Ok EX l zTB zNT kc D vwCl xb yTY ad yP0 268 2 xr_bhd xo_bhd := by
  refine x_meth (M := ym_X12_behind) hE y_prog 100 rfl (by decide) (ct_bhd_ok hE) (fun za I L ⟨h, _⟩ => by subst h; exact (by decide : 1 ≤ 1)) (fun za I L ⟨h, h11, b, n, M, C, T, o, d, S, hst0⟩ => ?_)
  subst h
  have hcb := m_cnt_b S
  have hd0 := hst0.2.2.2.2.1.2.1
  have hcd := hst0.2.2.2.2.2.2.2
  have hpr0 := hst0.2.2.2.2.2.1
  have hl0 := hpr0.2.2
  refine And.intro ⟨rfl, by omega, S, hpr0⟩ ?_
  intro rv I1 L1 hp1
  have hn : ∀ {b : Nat → Int} {n : Int} {M C : List Int} {T : pT} {o d : Int} {S : List Nat}, rm_st b n M C true T o d S I L → rm_st b n M C true T o (m_nots d S).1 (m_nots d S).2 I1 L := fun h => rm_nots h hp1
  obtain ⟨rfl, e2, hf1, _⟩ := hp1
  subst e2
  have hst1 := hn hst0
  have h11 : I1 209 11 ≠ 0 := fun q => h11 ((hf1 209 11 (by decide) (by decide)).symm.trans q)
  refine ⟨_, 6385252, zw_1381, by decide +kernel, ?_⟩
  refine And.intro ⟨_, rfl⟩ ?_
  rintro rv J1 K1 ⟨e1, e2, w1, hx, ⟨a1, b1, rfl⟩ | ⟨n1, rfl⟩⟩
  · subst e1
    subst e2
    cases hx
    refine And.intro (fun _ => ?_) (fun q => absurd q (by decide))
    refine ⟨_, 6385252, zw_1381, by decide +kernel, ?_⟩
    refine And.intro ⟨_, rfl⟩ ?_
    rintro rv J2 K2 ⟨e1, e2, w2, hx, ⟨a2, b2, rfl⟩ | ⟨n2, rfl⟩⟩
    · subst e1
      subst e2
      cases hx
      have hword : ∀ {b : Nat → Int} {n : Int} {M C : List Int} {T : pT} {o d : Int} {S : List Nat}, rm_st b n M C true T o d S J2 K2 → m_and T := fun h => (r_tok_word h.2.1 (w := 14) (by decide)).mp ⟨a2, b2⟩
      have hk2 : ∀ {b : Nat → Int} {n : Int} {M C : List Int} {T : pT} {o d : Int} {S : List Nat}, rm_st b n M C true T o d S J2 K2 → 2 ≤ T.1 := fun h => by have := (hword h).1; omega
      have aw := a2
      have bw := b2
      refine And.intro (fun q => absurd q (by decide)) (fun _ => ?_)
      refine And.intro ⟨21, rfl, Or.inl rfl, _, hst1.2.2.2.2.2.1⟩ ?_
      intro rv I2 L2 hp2
      have hj : ∀ {b : Nat → Int} {n : Int} {M C : List Int} {T : pT} {o d : Int} {S : List Nat}, rm_st b n M C true T o d S J2 K2 → rm_st b n M C true T o d (m_joins 21 S) I2 K2 := fun h => rm_joins (t := 21) h hp2
      obtain ⟨rfl, e2, hf2, _⟩ := hp2
      subst e2
      have hst2 := hj hst1
      intro z (hz : z = I2 209 42) (bz : 0 ≤ z ∧ z ≤ 44)
      have hisand : I2 209 11 = 1 ∧ L2 209 17 = 6385252 := ⟨(hf2 209 11 (by decide) (by decide)).trans aw, bw⟩
      refine ⟨_, 6385252, zw_1381, by decide +kernel, ?_⟩
      refine And.intro ⟨_, rfl⟩ ?_
      rintro rv J8 K8 ⟨e1, e2, w8, hx, ⟨a8, b8, rfl⟩ | ⟨n8, rfl⟩⟩
      · subst e1
        subst e2
        cases hx
        refine And.intro (fun q => absurd q (by decide)) (fun _ => ?_)
        refine And.intro (show 0 ≤ z ∧ z < 45 by omega) ?_
        refine And.intro (fun q hq => ?_) ?_
        · rw [x_seg1 (by omega)] at hq
          cases hq
          exact ⟨by decide, by decide⟩
        intro z2 (hz2 : z2 = J8 209 42) (bz2 : 0 ≤ z2 ∧ z2 ≤ 44)
        have hle := hst2.2.2.2.2.2.2.1
        have hsk := hst2.2.2.2.2.2.1.1.1
        have h40 := hst2.2.2.2.2.2.1.2.2.1
        have hwi : m_wi true = 1 := rfl
        refine Or.inl ⟨by omega, ?_⟩
        refine And.intro (show 0 ≤ z2 + 1 ∧ z2 + 1 ≤ 44 by omega) ?_
        refine And.intro (by decide) ?_
        have hpu : ∀ {b : Nat → Int} {n : Int} {M C : List Int} {T : pT} {o d : Int} {S : List Nat}, rm_st b n M C true T o d S J8 K8 → rm_st b n M C false T o d (21 :: S) (x_u (x_u (x_u J8 220 z.toNat 21) 209 42 (z2 + 1)) 209 44 0) K8 := fun h => rm_push (x := 21) (z := z) (z2 := z2) (Or.inl rfl) h hz hz2
        refine And.intro ⟨rfl, rm_bh (hpu hst2) (hk2 hst1)⟩ ?_
        intro rv I3 L3 hadv
        have h9 := hadv.1
        subst h9
        refine ⟨by decide, fun b n M C T o d S hst => ?_⟩
        have hs := rm_next (hk2 (hn hst)) (hpu (hj (hn hst))) hadv
        unfold m_bh
        rw [if_pos (hword (hn hst))]
        exact ⟨rfl, hs⟩
      · subst e1
        subst e2
        cases hx
        exact absurd hisand n8
    · subst e1
      subst e2
      cases hx
      exact absurd ⟨a1, b1⟩ n2
  · subst e1
    subst e2
    cases hx
    refine And.intro (fun q => absurd rfl q) (fun _ => ?_)
    refine ⟨_, 28530, zw_1380, by decide +kernel, ?_⟩
    refine And.intro ⟨_, rfl⟩ ?_
    rintro rv J2 K2 ⟨e1, e2, w2, hx, ⟨a2, b2, rfl⟩ | ⟨n2, rfl⟩⟩
    · subst e1
      subst e2
      cases hx
      refine And.intro (fun q => absurd q (by decide)) (fun _ => ?_)
      refine ⟨_, 6385252, zw_1381, by decide +kernel, ?_⟩
      refine And.intro ⟨_, rfl⟩ ?_
      rintro rv J3 K3 ⟨e1, e2, w3, hx, ⟨a3, b3, rfl⟩ | ⟨n3, rfl⟩⟩
      · subst e1
        subst e2
        cases hx
        exact absurd ⟨a3, b3⟩ n1
      · subst e1
        subst e2
        cases hx
        have a2' := a2
        have hword : ∀ {b : Nat → Int} {n : Int} {M C : List Int} {T : pT} {o d : Int} {S : List Nat}, rm_st b n M C true T o d S J3 K3 → m_or T := fun h => (r_tok_word h.2.1 (w := 13) (by decide)).mp ⟨a2, b2⟩
        have hk2 : ∀ {b : Nat → Int} {n : Int} {M C : List Int} {T : pT} {o d : Int} {S : List Nat}, rm_st b n M C true T o d S J3 K3 → 2 ≤ T.1 := fun h => by have := (hword h).1; omega
        have hnoand : ∀ {b : Nat → Int} {n : Int} {M C : List Int} {T : pT} {o d : Int} {S : List Nat}, rm_st b n M C true T o d S J3 K3 → ¬ m_and T := fun h q => n3 ((r_tok_word h.2.1 (w := 14) (by decide)).mpr q)
        have nw := n3
        refine And.intro (fun _ => ?_) (fun q => absurd rfl q)
        refine And.intro ⟨22, rfl, Or.inr rfl, _, hst1.2.2.2.2.2.1⟩ ?_
        intro rv I2 L2 hp2
        have hj : ∀ {b : Nat → Int} {n : Int} {M C : List Int} {T : pT} {o d : Int} {S : List Nat}, rm_st b n M C true T o d S J3 K3 → rm_st b n M C true T o d (m_joins 22 S) I2 K3 := fun h => rm_joins (t := 22) h hp2
        obtain ⟨rfl, e2, hf2, _⟩ := hp2
        subst e2
        have hst2 := hj hst1
        intro z (hz : z = I2 209 42) (bz : 0 ≤ z ∧ z ≤ 44)
        have hnotand : ¬ (I2 209 11 = 1 ∧ L2 209 17 = 6385252) := fun q => nw ⟨(hf2 209 11 (by decide) (by decide)).symm.trans q.1, q.2⟩
        refine ⟨_, 6385252, zw_1381, by decide +kernel, ?_⟩
        refine And.intro ⟨_, rfl⟩ ?_
        rintro rv J8 K8 ⟨e1, e2, w8, hx, ⟨a8, b8, rfl⟩ | ⟨n8, rfl⟩⟩
        · subst e1
          subst e2
          cases hx
          exact absurd ⟨a8, b8⟩ hnotand
        · subst e1
          subst e2
          cases hx
          refine And.intro (fun _ => ?_) (fun q => absurd rfl q)
          refine And.intro (show 0 ≤ z ∧ z < 45 by omega) ?_
          refine And.intro (fun q hq => ?_) ?_
          · rw [x_seg1 (by omega)] at hq
            cases hq
            exact ⟨by decide, by decide⟩
          intro z2 (hz2 : z2 = J8 209 42) (bz2 : 0 ≤ z2 ∧ z2 ≤ 44)
          have hle := hst2.2.2.2.2.2.2.1
          have hsk := hst2.2.2.2.2.2.1.1.1
          have h40 := hst2.2.2.2.2.2.1.2.2.1
          have hwi : m_wi true = 1 := rfl
          refine Or.inl ⟨by omega, ?_⟩
          refine And.intro (show 0 ≤ z2 + 1 ∧ z2 + 1 ≤ 44 by omega) ?_
          refine And.intro (by decide) ?_
          have hpu : ∀ {b : Nat → Int} {n : Int} {M C : List Int} {T : pT} {o d : Int} {S : List Nat}, rm_st b n M C true T o d S J8 K8 → rm_st b n M C false T o d (22 :: S) (x_u (x_u (x_u J8 220 z.toNat 22) 209 42 (z2 + 1)) 209 44 0) K8 := fun h => rm_push (x := 22) (z := z) (z2 := z2) (Or.inr rfl) h hz hz2
          refine And.intro ⟨rfl, rm_bh (hpu hst2) (hk2 hst1)⟩ ?_
          intro rv I3 L3 hadv
          have h9 := hadv.1
          subst h9
          refine ⟨by decide, fun b n M C T o d S hst => ?_⟩
          have hs := rm_next (hk2 (hn hst)) (hpu (hj (hn hst))) hadv
          unfold m_bh
          rw [if_neg (hnoand (hn hst)), if_pos (hword (hn hst))]
          exact ⟨rfl, hs⟩
    · subst e1
      subst e2
      cases hx
      have hnoand : ∀ {b : Nat → Int} {n : Int} {M C : List Int} {T : pT} {o d : Int} {S : List Nat}, rm_st b n M C true T o d S J2 K2 → ¬ m_and T := fun h q => n1 ((r_tok_word h.2.1 (w := 14) (by decide)).mpr q)
      have hnoor : ∀ {b : Nat → Int} {n : Int} {M C : List Int} {T : pT} {o d : Int} {S : List Nat}, rm_st b n M C true T o d S J2 K2 → ¬ m_or T := fun h q => n2 ((r_tok_word h.2.1 (w := 13) (by decide)).mpr q)
      refine And.intro (fun _ => ?_) (fun q => absurd rfl q)
      refine And.intro ⟨22, rfl, Or.inr rfl, _, hst1.2.2.2.2.2.1⟩ ?_
      intro rv I2 L2 hp2
      have hj : ∀ {b : Nat → Int} {n : Int} {M C : List Int} {T : pT} {o d : Int} {S : List Nat}, rm_st b n M C true T o d S J2 K2 → rm_st b n M C true T o d (m_joins 22 S) I2 K2 := fun h => rm_joins (t := 22) h hp2
      obtain ⟨rfl, e2, hf2, _⟩ := hp2
      subst e2
      have hst2 := hj hst1
      have h0 : ∀ {b : Nat → Int} {n : Int} {M C : List Int} {T : pT} {o d : Int} {S : List Nat}, rm_st b n M C true T o d S J2 L2 → T.1 ≠ 0 := fun h q => h11 ((r_tok_end h.2.1).mpr q)
      have hbad : ∀ (hq : ∀ {b : Nat → Int} {n : Int} {M C : List Int} {T : pT} {o d : Int} {S : List Nat}, rm_st b n M C true T o d S I2 L2 → S = [] ∨ ¬ (T.1 = 5 ∧ T.2.2.2 = 41)), xo_bhd [xR 210] I L2 (some (.inl 0)) (r_bad I2 1) L2 := fun hq b n M C T o d S hst => by
        have h2 := hj (hn hst)
        have hpl : I2 209 12 = T.2.1 := h2.2.1.1
        unfold m_bh
        rw [if_neg (hnoand (hn hst)), if_neg (hnoor (hn hst))]
        have hq := hq h2
        revert hq
        cases m_joins 22 (m_nots d S).2 with
        | nil =>
          intro _
          dsimp only
          rw [if_neg (h0 (hn hst))]
          exact ⟨rfl, rfl, hpl⟩
        | cons x r =>
          intro hq
          dsimp only
          rw [if_neg (fun q => by
            rcases hq with hq | hq
            · cases hq
            · exact hq q)]
          exact ⟨rfl, rfl, hpl⟩
      refine And.intro ⟨41, rfl⟩ ?_
      rintro rv J4 K4 ⟨e1, e2, w4, hx, ⟨a4, b4, rfl⟩ | ⟨n4, rfl⟩⟩
      · subst e1
        subst e2
        cases hx
        refine And.intro (fun q => absurd q (by decide)) (fun _ => ?_)
        intro z (hz : z = J4 209 42) (bz : 0 ≤ z ∧ z ≤ 44)
        have hsg : ∀ {b : Nat → Int} {n : Int} {M C : List Int} {T : pT} {o d : Int} {S : List Nat}, rm_st b n M C true T o d S J4 K4 → T.1 = 5 ∧ T.2.2.2 = 41 := fun h => ⟨(r_tok_sign h.2.1).1.mp a4, ((r_tok_sign h.2.1).2 a4).symm.trans b4⟩
        refine And.intro ?_ ?_
        · intro t1
          intro z2 (hz2 : z2 = J4 209 42) (bz2 : 0 ≤ z2 ∧ z2 ≤ 44)
          refine Or.inl ⟨by omega, ?_⟩
          refine And.intro (show 0 ≤ z2 - 1 ∧ z2 - 1 ≤ 44 by omega) ?_
          intro d2 (hd2 : d2 = J4 209 43) _
          have hcb2 := m_cnt_b (m_joins 22 (m_nots d S).2)
          have hd3 := hst2.2.2.2.2.1.2.1
          have hcd3 := hst2.2.2.2.2.2.2.2
          have hl3 := hst2.2.2.2.2.2.1.2.2
          refine Or.inl ⟨by omega, ?_⟩
          refine And.intro (show -2147483648 ≤ d2 - 1 ∧ d2 - 1 ≤ 2147483647 by omega) ?_
          have hpop : ∀ {b : Nat → Int} {n : Int} {M C : List Int} {T : pT} {o d : Int} {S : List Nat} {x : Nat}, rm_st b n M C true T o d (x :: S) J4 K4 → (x = 20 ∨ x = 23) → rm_st b n M C true T o (d - 1) S (x_u (x_u J4 209 42 (z2 - 1)) 209 43 (d2 - 1)) K4 := fun {b n M C T o d S x} h hx => by
            have h5 := h.2.2.2.2.1
            obtain ⟨g8, g9, g10, g11⟩ := h.2.2.2.2.2.1
            have g12 := h.2.2.2.2.2.2.1
            have g13 : d = 1 + ((if x = 20 ∨ x = 23 then 1 else 0) + m_cnt S) := h.2.2.2.2.2.2.2
            rw [if_pos hx] at g13
            rw [List.length_cons] at g11 g12
            refine rm_mv h (fun r c h1 h2 h3 => (x_u_if _ _ _ _ _ _).trans ((if_neg (fun q => h1 ⟨q.1, by omega, by omega⟩)).trans ((x_u_if _ _ _ _ _ _).trans (if_neg (fun q => h1 ⟨q.1, by omega, by omega⟩))))) ⟨h5.1, show d2 - 1 = d - 1 by omega, h5.2.2⟩ ⟨rm_sk_pop g8 (show z2 - 1 = J4 209 42 - 1 by omega) (fun _ => rfl), rm_ok_t g9, g10, show J4 209 40 + (S.length : Int) ≤ 44 by omega⟩ ⟨g12.1, g12.2.1, show J4 209 40 + (S.length : Int) + m_wi true ≤ 2 * o by omega⟩ (by omega)
          have hk5 : T.1 = 5 := (hsg hst2).1
          have hk6 : 2 ≤ T.1 := by omega
          refine And.intro ⟨rfl, (show r_bh J4 from rm_bh hst2 hk6)⟩ ?_
          intro rv I3 L3 hadv
          have h9 := hadv.1
          subst h9
          refine ⟨by decide, fun b n M C T o d S hst => ?_⟩
          have h2 := hj (hn hst)
          have hs5 := hsg h2
          have hlen := h2.2.2.2.2.2.1.1.1
          have hqq := m_joins_top (m_nots d S).2
          have hok2 := h2.2.2.2.2.2.1.2.1
          unfold m_bh
          rw [if_neg (hnoand (hn hst)), if_neg (hnoor (hn hst))]
          revert h2 hlen hqq hok2
          cases m_joins 22 (m_nots d S).2 with
          | nil =>
            intro h2 hlen hqq hok2
            rw [List.length_nil] at hlen
            exact absurd (hz.trans hlen) t1
          | cons x r =>
            intro h2 hlen hqq hok2
            dsimp only
            rw [if_pos hs5]
            have hx23 : x = 20 ∨ x = 23 := by
              have h8 := hok2 x List.mem_cons_self
              have h7 := hqq x r rfl
              omega
            exact ⟨rfl, rm_next (by omega) (hpop h2 hx23) hadv⟩
        · intro t1
          refine And.intro ⟨1, rfl, by decide, by decide⟩ ?_
          rintro rv I3 L3 ⟨f, hf, rfl, rfl, rfl⟩
          cases hf
          exact ⟨by decide, hbad (fun h => Or.inl (List.eq_nil_of_length_eq_zero (by have := h.2.2.2.2.2.1.1.1; omega)))⟩
      · subst e1
        subst e2
        cases hx
        refine And.intro (fun _ => ?_) (fun q => absurd rfl q)
        refine And.intro ⟨1, rfl, by decide, by decide⟩ ?_
        rintro rv I3 L3 ⟨f, hf, rfl, rfl, rfl⟩
        cases hf
        exact ⟨by decide, hbad (fun h => Or.inr (fun q => n4 ⟨(r_tok_sign h.2.1).1.mpr q.1, ((r_tok_sign h.2.1).2 ((r_tok_sign h.2.1).1.mpr q.1)).trans q.2⟩))⟩
end XR2
