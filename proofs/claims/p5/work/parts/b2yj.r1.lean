/-! ===== the reference's stack of a SENTENCE ===== -/
def x_sgR : List (Nat × Int × Int) := [(1, 0, 22), (1, 0, 62), (1, -2147483648, 2147483647), (1, 0, 22), (1, 0, 62), (1, -2147483648, 2147483647), (1, 0, 22), (1, 0, 62), (1, -2147483648, 2147483647), (1, 0, 22), (1, 0, 62), (1, -2147483648, 2147483647), (1, 0, 22), (1, 0, 62), (1, -2147483648, 2147483647), (1, 0, 22), (1, 0, 62), (1, -2147483648, 2147483647), (1, 0, 22), (1, 0, 62), (1, -2147483648, 2147483647), (1, 0, 22), (1, 0, 62), (1, -2147483648, 2147483647), (1, 0, 22), (1, 0, 62), (1, -2147483648, 2147483647), (1, 0, 22), (1, 0, 62), (1, -2147483648, 2147483647), (1, 0, 22), (1, 0, 62), (1, -2147483648, 2147483647), (1, 0, 22), (1, 0, 62), (1, -2147483648, 2147483647), (1, 0, 22), (1, 0, 62), (1, -2147483648, 2147483647), (1, 0, 22), (1, 0, 62), (1, -2147483648, 2147483647), (1, 0, 22), (1, 0, 62), (1, -2147483648, 2147483647), (1, 0, 22), (1, 0, 62), (1, -2147483648, 2147483647), (1, 0, 22), (1, 0, 62), (1, -2147483648, 2147483647), (1, 0, 22), (1, 0, 62), (1, -2147483648, 2147483647), (1, 0, 22), (1, 0, 62), (1, -2147483648, 2147483647), (1, 0, 22), (1, 0, 62), (1, -2147483648, 2147483647), (1, 0, 22), (1, 0, 62), (1, -2147483648, 2147483647), (1, 0, 22), (1, 0, 62), (1, -2147483648, 2147483647), (1, 0, 22), (1, 0, 62), (1, -2147483648, 2147483647), (1, 0, 22), (1, 0, 62), (1, -2147483648, 2147483647), (1, 0, 22), (1, 0, 62), (1, -2147483648, 2147483647), (1, 0, 22), (1, 0, 62), (1, -2147483648, 2147483647), (1, 0, 22), (1, 0, 62), (1, -2147483648, 2147483647), (1, 0, 22), (1, 0, 62), (1, -2147483648, 2147483647), (1, 0, 22), (1, 0, 62), (1, -2147483648, 2147483647), (1, 0, 22), (1, 0, 62), (1, -2147483648, 2147483647), (1, 0, 22), (1, 0, 62), (1, -2147483648, 2147483647), (1, 0, 22), (1, 0, 62), (1, -2147483648, 2147483647), (1, 0, 22), (1, 0, 62), (1, -2147483648, 2147483647), (1, 0, 22), (1, 0, 62), (1, -2147483648, 2147483647), (1, 0, 22), (1, 0, 62), (1, -2147483648, 2147483647), (1, 0, 22), (1, 0, 62), (1, -2147483648, 2147483647), (1, 0, 22), (1, 0, 62), (1, -2147483648, 2147483647), (1, 0, 22), (1, 0, 62), (1, -2147483648, 2147483647), (1, 0, 22), (1, 0, 62), (1, -2147483648, 2147483647), (1, 0, 22), (1, 0, 62), (1, -2147483648, 2147483647), (1, 0, 22), (1, 0, 62), (1, -2147483648, 2147483647), (1, 0, 22), (1, 0, 62), (1, -2147483648, 2147483647), (1, 0, 22), (1, 0, 62), (1, -2147483648, 2147483647), (1, 0, 22), (1, 0, 62), (1, -2147483648, 2147483647), (1, 0, 22), (1, 0, 62), (1, -2147483648, 2147483647)]
theorem x_sgR0 : ∀ k : Fin 45, y_seg x_sgR (3 * k.val) = some (0, 22) ∧ y_seg x_sgR (3 * k.val + 1) = some (0, 62) ∧ y_seg x_sgR (3 * k.val + 2) = some (-2147483648, 2147483647) := by decide +kernel
/-- its top first -/
def rm_sk (S : List Nat) (I : xF) : Prop := I 209 42 = S.length ∧ ∀ (i x : Nat), S[i]? = some x → I 220 (S.length - 1 - i) = (x : Int)
theorem rm_sk_top {x : Nat} {S : List Nat} {I : xF} (h : rm_sk (x :: S) I) : I 220 S.length = (x : Int) := by
  have h9 := h.2 0 x rfl
  rw [List.length_cons, show S.length + 1 - 1 - 0 = S.length by omega] at h9
  exact h9
theorem rm_sk_pop {x : Nat} {S : List Nat} {I I' : xF} (h : rm_sk (x :: S) I) (e : I' 209 42 = I 209 42 - 1) (es : ∀ k, I' 220 k = I 220 k) : rm_sk S I' := by
  obtain ⟨h1, h2⟩ := h
  rw [List.length_cons] at h1
  refine ⟨by omega, fun i y hy => ?_⟩
  have h9 := h2 (i + 1) y hy
  rw [List.length_cons, show S.length + 1 - 1 - (i + 1) = S.length - 1 - i by omega] at h9
  rw [es]
  exact h9
theorem rm_sk_push {x : Nat} {S : List Nat} {I I' : xF} (h : rm_sk S I) (e : I' 209 42 = I 209 42 + 1) (hx : I' 220 S.length = (x : Int)) (es : ∀ k, k < S.length → I' 220 k = I 220 k) : rm_sk (x :: S) I' := by
  obtain ⟨h1, h2⟩ := h
  refine ⟨by rw [List.length_cons]; omega, fun i y hy => ?_⟩
  rw [List.length_cons]
  cases i with
  | zero =>
    rw [show S.length + 1 - 1 - 0 = S.length by omega]
    have hxy : x = y := Option.some.inj hy
    rw [← hxy]
    exact hx
  | succ i =>
    have hy : S[i]? = some y := hy
    have hl : i < S.length := (List.getElem?_eq_some_iff.mp hy).1
    rw [show S.length + 1 - 1 - (i + 1) = S.length - 1 - i by omega, es _ (by omega)]
    exact h2 i y hy
theorem rm_sk_eq {S : List Nat} {I I' : xF} (h : rm_sk S I) (e : I' 209 42 = I 209 42) (es : ∀ k, I' 220 k = I 220 k) : rm_sk S I' := ⟨e.trans h.1, fun i x hx => (es _).trans (h.2 i x hx)⟩
theorem x_Wcv : ∀ k : Fin 24, x_vcf 8 (t_cv (x_W32.getD k.val 0)) = x_W32.getD k.val 0 ∧ t_cv (x_W32.getD k.val 0) = x_W256.getD k.val 0 := by decide +kernel
/-- a word that is told, as the reference tells it -/
theorem r_tok_word {T : pT} {I L : xF} (h : r_tok T I L) {w : Nat} (hw : w < 24) : (I 209 11 = 1 ∧ L 209 17 = x_W256.getD w 0) ↔ (T.1 = 2 ∧ T.2.2.2 = x_W32.getD w 0) := r_tok_w h (x_Wcv ⟨w, hw⟩).1 (x_Wcv ⟨w, hw⟩).2
section XR1
variable {EX : (Nat → Prop) → State → Heap → Prop} {l : Launch} {kc : Nat → ClassId} {D : va_G} {xb : Nat} {ad : Nat → Option Nat}
def xr_code : xPre := fun za I _ => ∃ w s k : Int, za = [xR 210, .inl w, .inl s, .inl k] ∧ (0 ≤ w ∧ w ≤ 22) ∧ (0 ≤ s ∧ s ≤ 62) ∧ (-2147483648 ≤ k ∧ k ≤ 2147483647) ∧ I 209 40 ≤ 43
def rm_fr (I I' : xF) : Prop := ∀ r c, ¬ (r = 209 ∧ c = 40) → r ≠ 213 → I' r c = I r c
def xo_code : xPost := fun _ I L rv I' L' => rv = none ∧ L' = L ∧ rm_fr I I' ∧ I' 209 40 = I 209 40 + 1
set_option maxRecDepth 20000 in
theorem xk_code (hE : z_EX EX) : x_Ok EX l zTB zNT kc D vwCl xb yTY ad yP0 263 0 xr_code xo_code := by
  refine x_meth (M := ym_X12_code) hE y_prog 80 rfl (by decide) x_none_ok (fun za I L ⟨w, s, k, h, _⟩ => by subst h; exact (by decide : 4 ≤ 4)) (fun za I L ⟨w, s, k, h, hw, hs, hk, h43⟩ => ?_)
  subst h
  intro c1 (hc1 : c1 = I 209 40) (b1 : 0 ≤ c1 ∧ c1 ≤ 44)
  refine Or.inl ⟨by omega, ?_⟩
  refine And.intro (show 0 ≤ 3 * c1 ∧ 3 * c1 < 135 by omega) ?_
  refine And.intro (fun q hq => ?_) ?_
  · have hq : y_seg x_sgR (3 * c1).toNat = some q := hq
    rw [show (3 * c1).toNat = 3 * c1.toNat by omega, (x_sgR0 ⟨c1.toNat, by omega⟩).1] at hq
    cases hq
    exact hw
  intro c2 (hc2 : c2 = I 209 40) (b2 : 0 ≤ c2 ∧ c2 ≤ 44)
  refine Or.inl ⟨by omega, ?_⟩
  refine Or.inl ⟨by omega, ?_⟩
  refine And.intro (show 0 ≤ 3 * c2 + 1 ∧ 3 * c2 + 1 < 135 by omega) ?_
  refine And.intro (fun q hq => ?_) ?_
  · have hq : y_seg x_sgR (3 * c2 + 1).toNat = some q := hq
    rw [show (3 * c2 + 1).toNat = 3 * c2.toNat + 1 by omega, (x_sgR0 ⟨c2.toNat, by omega⟩).2.1] at hq
    cases hq
    exact hs
  intro c3 (hc3 : c3 = I 209 40) (b3 : 0 ≤ c3 ∧ c3 ≤ 44)
  refine Or.inl ⟨by omega, ?_⟩
  refine Or.inl ⟨by omega, ?_⟩
  refine And.intro (show 0 ≤ 3 * c3 + 2 ∧ 3 * c3 + 2 < 135 by omega) ?_
  refine And.intro (fun q hq => ?_) ?_
  · have hq : y_seg x_sgR (3 * c3 + 2).toNat = some q := hq
    rw [show (3 * c3 + 2).toNat = 3 * c3.toNat + 2 by omega, (x_sgR0 ⟨c3.toNat, by omega⟩).2.2] at hq
    cases hq
    exact hk
  intro c4 (hc4 : c4 = I 209 40) (b4 : 0 ≤ c4 ∧ c4 ≤ 44)
  refine Or.inl ⟨by omega, ?_⟩
  refine And.intro (show 0 ≤ c4 + 1 ∧ c4 + 1 ≤ 44 by omega) ?_
  refine ⟨rfl, rfl, fun r c h1 h2 => (x_u_if _ _ _ _ _ _).trans ((if_neg h1).trans ((x_u_r h2).trans ((x_u_r h2).trans (x_u_r h2)))), ?_⟩
  rw [x_u_s, hc4]
/-! joins, nots -/
def rm_ok (S : List Nat) : Prop := ∀ x ∈ S, 20 ≤ x ∧ x ≤ 23
def rm_pr (S : List Nat) (I : xF) : Prop := rm_sk S I ∧ rm_ok S ∧ 0 ≤ I 209 40 ∧ I 209 40 + S.length ≤ 44
theorem rm_ok_t {x : Nat} {S : List Nat} (h : rm_ok (x :: S)) : rm_ok S := fun y hy => h y (List.mem_cons_of_mem _ hy)
def rm_fj (I I' : xF) : Prop := ∀ r c, ¬ (r = 209 ∧ (c = 40 ∨ c = 42)) → r ≠ 213 → I' r c = I r c
def xr_jn : xPre := fun za I _ => ∃ t : Nat, za = [xR 210, .inl (t : Int)] ∧ (t = 21 ∨ t = 22) ∧ ∃ S, rm_pr S I
def xo_jn : xPost := fun za I L rv I' L' => rv = none ∧ L' = L ∧ rm_fj I I' ∧ ∀ t : Nat, za = [xR 210, .inl (t : Int)] → ∀ S, rm_pr S I → rm_pr (m_joins t S) I' ∧ I' 209 40 + (m_joins t S).length = I 209 40 + S.length
def rm_jnI (za : List xV) (I L : xF) (m pc : Nat) (lv : List (Nat × xV)) (sv : List xV) (I' L' : xF) : Prop := sv = [] ∧ pc = 0 ∧ L' = L ∧ rm_fj I I' ∧ ∃ t : Nat, za = [xR 210, .inl (t : Int)] ∧ (t = 21 ∨ t = 22) ∧ lv = [(0, xR 210), (1, .inl (t : Int))] ∧ ∃ S1, rm_pr S1 I' ∧ m = S1.length ∧ (∀ S, rm_pr S I → m_joins t S = m_joins t S1 ∧ I' 209 40 + S1.length = I 209 40 + S.length)
theorem rm_det {S S1 : List Nat} {I : xF} (h : rm_sk S I) (h1 : rm_sk S1 I) : S = S1 := by
  have hl : S.length = S1.length := by
    have := h.1
    have := h1.1
    omega
  refine List.ext_getElem? (fun i => ?_)
  rcases Nat.lt_or_ge i S.length with g | g
  · have e1 := List.getElem?_eq_getElem g
    have e2 := List.getElem?_eq_getElem (show i < S1.length by omega)
    have q1 := h.2 i _ e1
    have q2 := h1.2 i _ e2
    have e3 : I 220 (S1.length - 1 - i) = I 220 (S.length - 1 - i) := congrArg (I 220) (by omega)
    rw [e1, e2]
    have : (S[i] : Int) = (S1[i]'(by omega) : Int) := q1.symm.trans (e3.symm.trans q2)
    exact congrArg some (by omega)
  · rw [List.getElem?_eq_none g, List.getElem?_eq_none (by omega)]
set_option maxHeartbeats 4000000 in
theorem xk_jn (hE : z_EX EX) : x_Ok EX l zTB zNT kc D vwCl xb yTY ad yP0 264 1 xr_jn xo_jn := by
  refine x_loop (ct := x_ctl [(263, 0, xr_code, xo_code)]) (M := ym_X12_joins) hE y_prog 80 rfl (by decide) (x_ctl_cons (xk_code hE) x_ctl_nil) (fun za I L ⟨t, h, _⟩ => by subst h; exact (by decide : 2 ≤ 2)) (x_cut1 0) rm_jnI (fun za I L ⟨t, h, ht, S, hS⟩ => ?_) (fun za I L _ m pc lv sv I' L' hc hi => ?_)
  · subst h
    exact ⟨S.length, [(0, xR 210), (1, .inl (t : Int))], ⟨rfl, rfl, trivial⟩, rfl, rfl, rfl, fun _ _ _ _ => rfl, t, rfl, ht, rfl, S, hS, rfl, fun S2 hS2 => by
      obtain rfl := rm_det hS2.1 hS.1
      exact ⟨rfl, rfl⟩⟩
  · obtain ⟨rfl, rfl, rfl, hf, t, rfl, ht, rfl, S1, hS1, rfl, hall⟩ := hi
    obtain ⟨hsk, hok, h40, hle⟩ := id hS1
    have hdone : m_joins t S1 = S1 → xo_jn [xR 210, .inl (t : Int)] I L' none I' L' := fun hj => ⟨rfl, rfl, hf, fun t' ht' S hS => by
      simp only [List.cons.injEq, Sum.inl.injEq] at ht'
      obtain rfl : t = t' := by omega
      have h9 := hall S hS
      rw [h9.1, hj]
      exact ⟨hS1, h9.2⟩⟩
    intro z (hz : z = I' 209 42) (bz : 0 ≤ z ∧ z ≤ 44)
    refine And.intro ?_ ?_
    · intro t1
      have h0 : S1 = [] := List.eq_nil_of_length_eq_zero (by have := hsk.1; omega)
      exact hdone (by rw [h0]; rfl)
    · intro t1
      cases S1 with
      | nil =>
        have h9 := hsk.1
        rw [List.length_nil] at h9
        omega
      | cons x S2 =>
        have hl := hsk.1
        rw [List.length_cons] at hl hle
        have htop := rm_sk_top hsk
        have hx := hok x List.mem_cons_self
        have hbody : x = 21 ∨ (x = 22 ∧ t = 22) → True := fun _ => trivial
        intro z2 (hz2 : z2 = I' 209 42) (bz2 : 0 ≤ z2 ∧ z2 ≤ 44)
        refine Or.inl ⟨by omega, ?_⟩
        refine And.intro (show 0 ≤ z2 - 1 ∧ z2 - 1 < 45 by omega) ?_
        intro v hv _
        have hv : v = I' 220 (z2 - 1).toNat := hv
        have hv : v = (x : Int) := by rw [hv, show (z2 - 1).toNat = S2.length by omega, htop]
        refine And.intro ?_ ?_
        · intro t2
          intro z3 (hz3 : z3 = I' 209 42) (bz3 : 0 ≤ z3 ∧ z3 ≤ 44)
          refine Or.inl ⟨by omega, ?_⟩
          refine And.intro (show 0 ≤ z3 - 1 ∧ z3 - 1 ≤ 44 by omega) ?_
          intro z4 (hz4 : z4 = z3 - 1) _
          refine And.intro (show 0 ≤ z4 ∧ z4 < 45 by omega) ?_
          intro u hu _
          have hu : u = I' 220 z4.toNat := hu
          have hu : u = (x : Int) := by rw [hu, show z4.toNat = S2.length by omega, htop]
          refine And.intro ⟨u, 0, 0, rfl, by omega, by decide, by decide, show I' 209 40 ≤ 43 by omega⟩ ?_
          rintro rv I1 L1 ⟨rfl, rfl, hfc, hc40⟩
          have hc40 : I1 209 40 = I' 209 40 + 1 := hc40
          have hsk2 : rm_sk S2 I1 := rm_sk_pop hsk ((hfc 209 42 (by decide) (by decide)).trans (show z3 - 1 = I' 209 42 - 1 by omega)) (fun k => hfc 220 k (fun q => absurd q.1 (by decide)) (by decide))
          refine ⟨S2.length, [(0, xR 210), (1, .inl (t : Int))], by rw [List.length_cons]; omega, ⟨rfl, rfl, trivial⟩, rfl, rfl, rfl, fun r c h1 h2 => ?_, t, rfl, ht, rfl, S2, ⟨hsk2, rm_ok_t hok, by omega, by omega⟩, rfl, fun S hS => ?_⟩
          · rw [hfc r c (fun q => h1 ⟨q.1, Or.inl q.2⟩) h2]
            exact (x_u_if _ _ _ _ _ _).trans ((if_neg (fun q => h1 ⟨q.1, Or.inr q.2⟩)).trans (hf r c h1 h2))
          · obtain ⟨g1, g2⟩ := hall S hS
            obtain rfl : x = 21 := by omega
            rw [List.length_cons] at g2
            exact ⟨g1.trans (m_joins_21 t S2), by omega⟩
        · intro t2
          intro z3 (hz3 : z3 = I' 209 42) (bz3 : 0 ≤ z3 ∧ z3 ≤ 44)
          refine Or.inl ⟨by omega, ?_⟩
          refine And.intro (show 0 ≤ z3 - 1 ∧ z3 - 1 < 45 by omega) ?_
          intro v2 hv2 _
          have hv2 : v2 = I' 220 (z3 - 1).toNat := hv2
          have hv2 : v2 = (x : Int) := by rw [hv2, show (z3 - 1).toNat = S2.length by omega, htop]
          have hstay : ¬ (x = 22 ∧ t = 22) → m_joins t (x :: S2) = x :: S2 := fun q => by
            show (if x = 21 ∨ (x = 22 ∧ t = 22) then m_joins t S2 else x :: S2) = _
            rw [if_neg (by omega)]
          refine And.intro ?_ ?_
          · intro t3
            exact hdone (hstay (by omega))
          · intro t3
            refine And.intro ?_ ?_
            · intro t4
              exact hdone (hstay (by omega))
            · intro t4
              intro z4 (hz4 : z4 = I' 209 42) (bz4 : 0 ≤ z4 ∧ z4 ≤ 44)
              refine Or.inl ⟨by omega, ?_⟩
              refine And.intro (show 0 ≤ z4 - 1 ∧ z4 - 1 ≤ 44 by omega) ?_
              intro z5 (hz5 : z5 = z4 - 1) _
              refine And.intro (show 0 ≤ z5 ∧ z5 < 45 by omega) ?_
              intro u hu _
              have hu : u = I' 220 z5.toNat := hu
              have hu : u = (x : Int) := by rw [hu, show z5.toNat = S2.length by omega, htop]
              refine And.intro ⟨u, 0, 0, rfl, by omega, by decide, by decide, show I' 209 40 ≤ 43 by omega⟩ ?_
              rintro rv I1 L1 ⟨rfl, rfl, hfc, hc40⟩
              have hc40 : I1 209 40 = I' 209 40 + 1 := hc40
              have hsk2 : rm_sk S2 I1 := rm_sk_pop hsk ((hfc 209 42 (by decide) (by decide)).trans (show z4 - 1 = I' 209 42 - 1 by omega)) (fun k => hfc 220 k (fun q => absurd q.1 (by decide)) (by decide))
              refine ⟨S2.length, [(0, xR 210), (1, .inl (t : Int))], by rw [List.length_cons]; omega, ⟨rfl, rfl, trivial⟩, rfl, rfl, rfl, fun r c h1 h2 => ?_, t, rfl, ht, rfl, S2, ⟨hsk2, rm_ok_t hok, by omega, by omega⟩, rfl, fun S hS => ?_⟩
              · rw [hfc r c (fun q => h1 ⟨q.1, Or.inl q.2⟩) h2]
                exact (x_u_if _ _ _ _ _ _).trans ((if_neg (fun q => h1 ⟨q.1, Or.inr q.2⟩)).trans (hf r c h1 h2))
              · obtain ⟨g1, g2⟩ := hall S hS
                obtain rfl : x = 22 := by omega
                obtain rfl : t = 22 := by omega
                rw [List.length_cons] at g2
                exact ⟨g1.trans (m_joins_22 S2), by omega⟩
def rm_fn (I I' : xF) : Prop := ∀ r c, ¬ (r = 209 ∧ (c = 40 ∨ c = 42 ∨ c = 43)) → r ≠ 213 → I' r c = I r c
def xr_nt : xPre := fun za I _ => za = [xR 210] ∧ (-1000 ≤ I 209 43 ∧ I 209 43 ≤ 1000) ∧ ∃ S, rm_pr S I
def xo_nt : xPost := fun _ I L rv I' L' => rv = none ∧ L' = L ∧ rm_fn I I' ∧ ∀ S, rm_pr S I → rm_pr (m_nots (I 209 43) S).2 I' ∧ I' 209 43 = (m_nots (I 209 43) S).1 ∧ I' 209 40 + (m_nots (I 209 43) S).2.length = I 209 40 + S.length
def rm_ntI (za : List xV) (I L : xF) (m pc : Nat) (lv : List (Nat × xV)) (sv : List xV) (I' L' : xF) : Prop := sv = [] ∧ pc = 0 ∧ L' = L ∧ rm_fn I I' ∧ za = [xR 210] ∧ lv = [(0, xR 210)] ∧ ∃ S1, rm_pr S1 I' ∧ m = S1.length ∧ (-1044 + (S1.length : Int) ≤ I' 209 43 ∧ I' 209 43 ≤ 1000) ∧ (∀ S, rm_pr S I → m_nots (I 209 43) S = m_nots (I' 209 43) S1 ∧ I' 209 40 + S1.length = I 209 40 + S.length)
set_option maxHeartbeats 4000000 in
theorem xk_nt (hE : z_EX EX) : x_Ok EX l zTB zNT kc D vwCl xb yTY ad yP0 265 1 xr_nt xo_nt := by
  refine x_loop (ct := x_ctl [(263, 0, xr_code, xo_code)]) (M := ym_X12_nots) hE y_prog 80 rfl (by decide) (x_ctl_cons (xk_code hE) x_ctl_nil) (fun za I L ⟨h, _⟩ => by subst h; exact (by decide : 1 ≤ 1)) (x_cut1 0) rm_ntI (fun za I L ⟨h, hd, S, hS⟩ => ?_) (fun za I L _ m pc lv sv I' L' hc hi => ?_)
  · subst h
    exact ⟨S.length, [(0, xR 210)], ⟨rfl, trivial⟩, rfl, rfl, rfl, fun _ _ _ _ => rfl, rfl, rfl, S, hS, rfl, by
      have h2 := hS.2.2
      omega, fun S2 hS2 => by
      obtain rfl := rm_det hS2.1 hS.1
      exact ⟨rfl, rfl⟩⟩
  · obtain ⟨rfl, rfl, rfl, hf, rfl, rfl, S1, hS1, rfl, hd, hall⟩ := hi
    obtain ⟨hsk, hok, h40, hle⟩ := id hS1
    have hdone : m_nots (I' 209 43) S1 = (I' 209 43, S1) → xo_nt [xR 210] I L' none I' L' := fun hj => ⟨rfl, rfl, hf, fun S hS => by
      have h9 := hall S hS
      rw [h9.1, hj]
      exact ⟨hS1, rfl, h9.2⟩⟩
    intro z (hz : z = I' 209 42) (bz : 0 ≤ z ∧ z ≤ 44)
    refine And.intro ?_ ?_
    · intro t1
      have h0 : S1 = [] := List.eq_nil_of_length_eq_zero (by have := hsk.1; omega)
      exact hdone (by rw [h0]; rfl)
    · intro t1
      cases S1 with
      | nil =>
        have h9 := hsk.1
        rw [List.length_nil] at h9
        omega
      | cons x S2 =>
        have hl := hsk.1
        rw [List.length_cons] at hl hle
        have htop := rm_sk_top hsk
        intro z2 (hz2 : z2 = I' 209 42) (bz2 : 0 ≤ z2 ∧ z2 ≤ 44)
        refine Or.inl ⟨by omega, ?_⟩
        refine And.intro (show 0 ≤ z2 - 1 ∧ z2 - 1 < 45 by omega) ?_
        intro v hv _
        have hv : v = I' 220 (z2 - 1).toNat := hv
        have hv : v = (x : Int) := by rw [hv, show (z2 - 1).toNat = S2.length by omega, htop]
        refine And.intro ?_ ?_
        · intro t2
          exact hdone (m_nots_n _ (by omega) S2)
        · intro t2
          intro z3 (hz3 : z3 = I' 209 42) (bz3 : 0 ≤ z3 ∧ z3 ≤ 44)
          refine Or.inl ⟨by omega, ?_⟩
          refine And.intro (show 0 ≤ z3 - 1 ∧ z3 - 1 ≤ 44 by omega) ?_
          intro d3 (hd3 : d3 = I' 209 43) _
          refine Or.inl ⟨by omega, ?_⟩
          refine And.intro (show -2147483648 ≤ d3 - 1 ∧ d3 - 1 ≤ 2147483647 by omega) ?_
          refine And.intro ⟨20, 0, 0, rfl, by decide, by decide, by decide, show I' 209 40 ≤ 43 by omega⟩ ?_
          rintro rv I1 L1 ⟨rfl, rfl, hfc, hc40⟩
          have hc40 : I1 209 40 = I' 209 40 + 1 := hc40
          have hd1 : I1 209 43 = I' 209 43 - 1 := (hfc 209 43 (by decide) (by decide)).trans (show d3 - 1 = I' 209 43 - 1 by omega)
          have hsk2 : rm_sk S2 I1 := rm_sk_pop hsk ((hfc 209 42 (by decide) (by decide)).trans (show z3 - 1 = I' 209 42 - 1 by omega)) (fun k => hfc 220 k (fun q => absurd q.1 (by decide)) (by decide))
          obtain rfl : x = 20 := by omega
          refine ⟨S2.length, [(0, xR 210)], by rw [List.length_cons]; omega, ⟨rfl, trivial⟩, rfl, rfl, rfl, fun r c h1 h2 => ?_, rfl, rfl, S2, ⟨hsk2, rm_ok_t hok, by omega, by omega⟩, rfl, by rw [List.length_cons] at hd; omega, fun S hS => ?_⟩
          · rw [hfc r c (fun q => h1 ⟨q.1, Or.inl q.2⟩) h2]
            exact (x_u_if _ _ _ _ _ _).trans ((if_neg (fun q => h1 ⟨q.1, Or.inr (Or.inr q.2)⟩)).trans ((x_u_if _ _ _ _ _ _).trans ((if_neg (fun q => h1 ⟨q.1, Or.inr (Or.inl q.2)⟩)).trans (hf r c h1 h2))))
          · obtain ⟨g1, g2⟩ := hall S hS
            rw [List.length_cons] at g2
            refine ⟨g1.trans ?_, by omega⟩
            rw [hd1]
            have h9 := m_nots_20 (I' 209 43 - 1) S2
            rw [show I' 209 43 - 1 + 1 = I' 209 43 by omega] at h9
            exact h9
/-! which of a ONE's words -/
def xo_lof : xPost := fun _ I L rv I' L' => I' = I ∧ L' = L ∧ ∃ v : Int, rv = some (.inl v) ∧ ((∃ k : Nat, k ≤ 7 ∧ v = (k : Int) ∧ I 209 11 = 1 ∧ L 209 17 = x_W256.getD (16 + k) 0) ∨ (v = -1 ∧ ∀ k : Nat, k ≤ 7 → ¬ (I 209 11 = 1 ∧ L 209 17 = x_W256.getD (16 + k) 0)))
theorem xk_lof (hE : z_EX EX) : x_Ok EX l zTB zNT kc D vwCl xb yTY ad yP0 266 1 xr_m xo_lof := by
  refine x_meth (ct := x_ctl [(177, 0, xr_mw, xo_mw)]) (M := ym_X12_leafOf) hE y_prog 90 rfl (by decide) (x_ctl_cons (xk_mw hE) x_ctl_nil) (fun za I L h => by subst h; exact (by decide : 1 ≤ 1)) (fun za I L h => ?_)
  subst h
  refine ⟨_, 1650553445, zw_1383, by decide +kernel, ?_⟩
  refine And.intro ⟨_, rfl⟩ ?_
  rintro rv J0 K0 ⟨e1, e2, w0, hx, ⟨a0, b0, rfl⟩ | ⟨n0, rfl⟩⟩
  · subst e1
    subst e2
    cases hx
    refine And.intro (fun q => absurd q (by decide)) (fun _ => ?_)
    exact ⟨rfl, rfl, 0, rfl, Or.inl ⟨0, by decide, rfl, a0, b0⟩⟩
  · subst e1
    subst e2
    cases hx
    refine And.intro (fun _ => ?_) (fun q => absurd rfl q)
    refine ⟨_, 1751477348, zw_1384, by decide +kernel, ?_⟩
    refine And.intro ⟨_, rfl⟩ ?_
    rintro rv J1 K1 ⟨e1, e2, w1, hx, ⟨a1, b1, rfl⟩ | ⟨n1, rfl⟩⟩
    · subst e1
      subst e2
      cases hx
      refine And.intro (fun q => absurd q (by decide)) (fun _ => ?_)
      exact ⟨rfl, rfl, 1, rfl, Or.inl ⟨1, by decide, rfl, a1, b1⟩⟩
    · subst e1
      subst e2
      cases hx
      refine And.intro (fun _ => ?_) (fun q => absurd rfl q)
      refine ⟨_, 28518, zw_1385, by decide +kernel, ?_⟩
      refine And.intro ⟨_, rfl⟩ ?_
      rintro rv J2 K2 ⟨e1, e2, w2, hx, ⟨a2, b2, rfl⟩ | ⟨n2, rfl⟩⟩
      · subst e1
        subst e2
        cases hx
        refine And.intro (fun q => absurd q (by decide)) (fun _ => ?_)
        exact ⟨rfl, rfl, 2, rfl, Or.inl ⟨2, by decide, rfl, a2, b2⟩⟩
      · subst e1
        subst e2
        cases hx
        refine And.intro (fun _ => ?_) (fun q => absurd rfl q)
        refine ⟨_, 504363246962, zw_1386, by decide +kernel, ?_⟩
        refine And.intro ⟨_, rfl⟩ ?_
        rintro rv J3 K3 ⟨e1, e2, w3, hx, ⟨a3, b3, rfl⟩ | ⟨n3, rfl⟩⟩
        · subst e1
          subst e2
          cases hx
          refine And.intro (fun q => absurd q (by decide)) (fun _ => ?_)
          exact ⟨rfl, rfl, 3, rfl, Or.inl ⟨3, by decide, rfl, a3, b3⟩⟩
        · subst e1
          subst e2
          cases hx
          refine And.intro (fun _ => ?_) (fun q => absurd rfl q)
          refine ⟨_, 512970880104, zw_1387, by decide +kernel, ?_⟩
          refine And.intro ⟨_, rfl⟩ ?_
          rintro rv J4 K4 ⟨e1, e2, w4, hx, ⟨a4, b4, rfl⟩ | ⟨n4, rfl⟩⟩
          · subst e1
            subst e2
            cases hx
            refine And.intro (fun q => absurd q (by decide)) (fun _ => ?_)
            exact ⟨rfl, rfl, 4, rfl, Or.inl ⟨4, by decide, rfl, a4, b4⟩⟩
          · subst e1
            subst e2
            cases hx
            refine And.intro (fun _ => ?_) (fun q => absurd rfl q)
            refine ⟨_, 1684109683, zw_1388, by decide +kernel, ?_⟩
            refine And.intro ⟨_, rfl⟩ ?_
            rintro rv J5 K5 ⟨e1, e2, w5, hx, ⟨a5, b5, rfl⟩ | ⟨n5, rfl⟩⟩
            · subst e1
              subst e2
              cases hx
              refine And.intro (fun q => absurd q (by decide)) (fun _ => ?_)
              exact ⟨rfl, rfl, 5, rfl, Or.inl ⟨5, by decide, rfl, a5, b5⟩⟩
            · subst e1
              subst e2
              cases hx
              refine And.intro (fun _ => ?_) (fun q => absurd rfl q)
              refine ⟨_, 427021005928, zw_1389, by decide +kernel, ?_⟩
              refine And.intro ⟨_, rfl⟩ ?_
              rintro rv J6 K6 ⟨e1, e2, w6, hx, ⟨a6, b6, rfl⟩ | ⟨n6, rfl⟩⟩
              · subst e1
                subst e2
                cases hx
                refine And.intro (fun q => absurd q (by decide)) (fun _ => ?_)
                exact ⟨rfl, rfl, 6, rfl, Or.inl ⟨6, by decide, rfl, a6, b6⟩⟩
              · subst e1
                subst e2
                cases hx
                refine And.intro (fun _ => ?_) (fun q => absurd rfl q)
                refine ⟨_, 121450625394034, zw_1390, by decide +kernel, ?_⟩
                refine And.intro ⟨_, rfl⟩ ?_
                rintro rv J7 K7 ⟨e1, e2, w7, hx, ⟨a7, b7, rfl⟩ | ⟨n7, rfl⟩⟩
                · subst e1
                  subst e2
                  cases hx
                  refine And.intro (fun q => absurd q (by decide)) (fun _ => ?_)
                  exact ⟨rfl, rfl, 7, rfl, Or.inl ⟨7, by decide, rfl, a7, b7⟩⟩
                · subst e1
                  subst e2
                  cases hx
                  refine And.intro (fun _ => ?_) (fun q => absurd rfl q)
                  refine ⟨rfl, rfl, -1, rfl, Or.inr ⟨rfl, fun k hk => ?_⟩⟩
                  have hv : k = 0 ∨ k = 1 ∨ k = 2 ∨ k = 3 ∨ k = 4 ∨ k = 5 ∨ k = 6 ∨ k = 7 := by omega
                  rcases hv with rfl | rfl | rfl | rfl | rfl | rfl | rfl | rfl
                  · exact n0
                  · exact n1
                  · exact n2
                  · exact n3
                  · exact n4
                  · exact n5
                  · exact n6
                  · exact n7
end XR1
