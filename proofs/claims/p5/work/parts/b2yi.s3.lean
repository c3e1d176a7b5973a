/-! ===== the class's sentence() ===== -/
section XS3
variable {EX : (Nat → Prop) → State → Heap → Prop} {l : Launch} {kc : Nat → ClassId} {D : va_G} {xb : Nat} {ad : Nat → Option Nat}
def x_opn (I : xF) : xF := x_opI (x_u (x_u I 127 4 0) 127 5 0) 200
def xr_opn : xPre := fun za I _ => za = [xR 127, xR 13] ∧ 0 ≤ I 1 2 ∧ I 1 2 ≤ 940
def xo_opn : xPost := fun _ I L rv I' L' => rv = none ∧ xo_adv [xR 2] (x_opn I) L none I' L'
theorem xn_open (hE : z_EX EX) : x_Ok2 EX l zTB zNT kc D vwCl xb yTY nTY ad yP0 61 3 xr_opn xo_opn := by
  refine x_enter2 (M := ym_X8_open) hE y_prog rfl (fun za I L ⟨h, _⟩ => by subst h; exact (by decide : 2 ≤ 2)) (fun p e R s m args below meth c ws0 za I L d had hd hpre hag hwt hC hr hlk => ?_)
  subst had
  obtain ⟨rfl, h0, h1⟩ := hpre
  refine x_aload_n (k := 0) (r := 127) hC rfl rfl ?_
  refine x_aload_n (k := 1) (r := 13) hC rfl rfl ?_
  refine x_putr2 (TY2 := nTY) (r := 126) (i := 13) hC (by decide) rfl (show y_T yTY 126 = some _ from rfl) rfl (Or.inl ⟨_, rfl⟩) (fun r' h => n_T h) rfl ?_
  refine x_wp2_ok (cut := fun _ => false) (Inv := fun _ _ _ _ _ => False) (ct := x_ctl [(54, 0, xr_cl7, xo_cl7), (99, 2, xr_op, xo_op)]) (dj := 3) hC (by decide) hd (x_ctl_cons (xn_cl7 hE) (x_ctl_cons (xn_op hE) x_ctl_nil)) hr hlk (fun _ _ _ _ _ hc _ => by cases hc) 40 true 5 _ _ _ _ ?_
  refine And.intro rfl ?_
  rintro rv I1 L1 ⟨rfl, rfl, rfl⟩
  refine And.intro ⟨200, rfl, ⟨by decide, by decide⟩, h0, h1⟩ ?_
  rintro rv I2 L2 ⟨m, hm, rfl, hadv⟩
  cases hm
  exact ⟨rfl, hadv⟩
def xr_io : xPre := fun za _ _ => za = [xR 127]
theorem xn_io (hE : z_EX EX) : x_Ok EX l zTB zNT kc D vwCl xb nTY ad yP0 62 2 xr_io xo_ov := by
  refine x_meth (ct := x_ctl [(107, 1, xr_t, xo_ov)]) (M := ym_X8_isOver) hE y_prog 30 rfl (by decide) (x_ctl_cons (xn_ov hE) x_ctl_nil) (fun za I L h => by subst h; exact (by decide : 1 ≤ 1)) (fun za I L h => ?_)
  subst h
  refine And.intro rfl ?_
  rintro rv I1 L1 ⟨e1, ⟨g1, rfl, e2⟩ | ⟨g1, rfl, e2⟩⟩
  · subst e1
    subst e2
    exact ⟨by decide, rfl, Or.inl ⟨g1, rfl, rfl⟩⟩
  · subst e1
    subst e2
    exact ⟨by decide, rfl, Or.inr ⟨g1, rfl, rfl⟩⟩
theorem xn_ct (hE : z_EX EX) : x_Ok EX l zTB zNT kc D vwCl xb nTY ad yP0 155 0 xr_ct xo_ct := by
  refine x_meth (M := ym_X11_closeTape) hE y_prog 30 rfl (by decide) xn_none_ok (fun za I L h => by subst h; exact (by decide : 1 ≤ 1)) (fun za I L h => ?_)
  subst h
  refine And.intro (by decide) ?_
  intro z (hz : z = I 1 9) (bz : 0 ≤ z ∧ z ≤ 4)
  refine And.intro bz ?_
  exact ⟨rfl, rfl, by rw [hz]⟩
theorem xn_se (hE : z_EX EX) : x_Ok EX l zTB zNT kc D vwCl xb nTY ad yP0 55 0 (xr2 121 127) (xo_se 121 127) := by
  refine x_meth2 (M := ym_X7_copyFrom) hE y_prog 60 rfl (by decide) xn_none_ok (fun za I L h => by have h : za = [xR 122, xR 128] := h; subst h; exact (by decide : 2 ≤ 2)) (fun za I L h => ?_)
  have h : za = [xR 122, xR 128] := h
  subst h
  refine And.intro ⟨rfl, rfl, by decide⟩ ?_
  refine And.intro ⟨rfl, rfl, by decide⟩ ?_
  refine And.intro ⟨rfl, rfl, by decide⟩ ?_
  intro z4 (h4 : z4 = I 127 4) (b4 : 0 ≤ z4 ∧ z4 ≤ 40)
  subst h4
  refine And.intro b4 ?_
  intro z5 (h5 : z5 = I 127 5) (b5 : 0 ≤ z5 ∧ z5 ≤ 20)
  subst h5
  refine And.intro b5 ?_
  exact ⟨rfl, rfl, rfl⟩
/-- the answer and the FAULT of sentence(), by the machine's -/
def m_rv (r : mR) : Int := match r with
  | .inl (at0, _) => -1 - at0
  | .inr o => o
def m_fl (r : mR) : Int := match r with
  | .inl (_, f) => f
  | .inr _ => 0
def m_text (b : Nat → Int) (n : Int) (M C : List Int) (r : mR) : Prop := m_ans b n M C (false, t_tok b n 200 0, 0, 1, []) r
def xr_sen : xPre := fun za I L => za = [xR 1] ∧ (0 ≤ I 1 2 ∧ I 1 2 ≤ 940) ∧ ∃ M C, sc_nm M C I L
def xo_sen : xPost := fun _ I L rv I' _ => I' 1 2 = 0 ∧ ∀ M C, sc_nm M C I L → ∃ r, m_text (I 2) (I 1 2) M C r ∧ rv = some (.inl (m_rv r)) ∧ I' 0 10 = m_fl r
def cn_sen : List (Nat × Nat × xPre × xPost) := [(63, 30, xr_rd 1, xo_cond 1), (62, 2, xr_io, xo_ov), (155, 0, xr_ct, xo_ct), (55, 0, xr2 121 127, xo_se 121 127)]
theorem cn_sen_ok (hE : z_EX EX) : x_ctok EX l zTB zNT kc D vwCl xb nTY ad yP0 (x_ctl cn_sen) := x_ctl_cons (xn_cond_1 hE) (x_ctl_cons (xn_io hE) (x_ctl_cons (xn_ct hE) (x_ctl_cons (xn_se hE) x_ctl_nil)))
set_option maxHeartbeats 4000000 in
theorem xn_sen (hE : z_EX EX) : x_Ok2 EX l zTB zNT kc D vwCl xb yTY nTY ad yP0 150 31 xr_sen xo_sen := by
  refine x_enter2 (M := ym_X11_sentence) hE y_prog rfl (fun za I L ⟨h, _⟩ => by subst h; exact (by decide : 1 ≤ 2)) (fun p e R s m args below meth c ws0 za I L d had hd hpre hag hwt hC hr hlk => ?_)
  subst had
  obtain ⟨rfl, ⟨h0, h1⟩, M, C, hMC⟩ := hpre
  refine x_aload_n (k := 0) (r := 1) hC rfl rfl ?_
  refine x_getr (r := 0) (r1 := 127) hC rfl (show y_T yTY 0 = some _ from rfl) rfl ?_
  refine x_aload_n (k := 0) (r := 1) hC rfl rfl ?_
  refine x_getr (r := 0) (r1 := 5) hC rfl (show y_T yTY 0 = some _ from rfl) rfl ?_
  refine x_getr (r := 4) (r1 := 13) hC rfl (show y_T yTY 4 = some _ from rfl) rfl ?_
  refine x_callV2 (TY2 := nTY) (r := 126) (j := 61) (za := [xR 13]) (sv := []) hC rfl (show y_T yTY 126 = some _ from rfl) (xn_open hE) (by omega) (show yP0 61 = some ym_X8_open from rfl) (by decide) rfl (by decide) ⟨rfl, h0, h1⟩ (fun rv I1 L1 hp => ?_)
  obtain ⟨rfl, hadv⟩ := hp
  have hst : ∀ M C, sc_nm M C I L → sc_st (I 2) (I 1 2) M C (t_tok (I 2) (I 1 2) 200 0) 0 I1 L1 := fun M C hMC => by
    obtain ⟨_, f1, f2, f3⟩ := hadv
    have f3 : c_tok (t_tok (I 2) (I 1 2) 200 0) I1 L1 := f3
    refine ⟨⟨funext (fun j => f1 2 j rfl), f1 1 2 rfl, f1 1 3 rfl, ⟨h0, h1⟩, f1 1 9 rfl⟩, f3, ⟨0, Int.le_refl _, h0, rfl⟩, sc_nm_eq hMC (f1 12 3 rfl) (fun k => f1 14 k rfl) (fun k => f2 13 k rfl), f1 127 5 rfl, by decide, by decide⟩
  refine x_wp2_ok (cut := fun _ => false) (Inv := fun _ _ _ _ _ => False) (ct := x_ctl cn_sen) (dj := 31) hC (by decide) hd (cn_sen_ok hE) hr hlk (fun _ _ _ _ _ hc _ => by cases hc) 80 true 14 _ _ _ _ ?_
  refine And.intro ⟨rfl, _, _, _, _, _, _, hst M C hMC⟩ ?_
  intro rv I2 L2 hp
  rcases hp _ _ _ _ _ _ (hst M C hMC) with ⟨rfl, _⟩ | ⟨rfl, T0, o0, hst0, _⟩
  · refine And.intro (fun _ => ?_) (fun q => absurd rfl q)
    refine And.intro rfl ?_
    rintro rv I3 L3 ⟨rfl, rfl, rfl⟩
    refine And.intro (fun q => absurd rfl q) (fun _ => ?_)
    intro z (hz : z = I2 1 10) (bz : 0 ≤ z ∧ z ≤ 940)
    refine Or.inl ⟨by omega, rfl, fun M C hMC => ?_⟩
    rcases hp _ _ _ _ _ _ (hst M C hMC) with ⟨_, h9⟩ | ⟨h9, _⟩
    · exact ⟨.inl (I2 1 10, I2 1 9), h9 [] (Or.inl rfl), by rw [hz]; rfl, rfl⟩
    · exact (sc_01 h9).elim
  · refine And.intro (fun q => absurd q (by decide)) (fun _ => ?_)
    refine And.intro rfl ?_
    rintro rv I3 L3 ⟨e1, ⟨g1, rfl, e2⟩ | ⟨g1, rfl, e2⟩⟩
    · subst e1
      subst e2
      refine And.intro (fun q => absurd q (by decide)) (fun _ => ?_)
      refine And.intro rfl ?_
      rintro rv I4 L4 ⟨rfl, rfl, rfl⟩
      refine And.intro (fun _ => ?_) (fun q => absurd q (by decide))
      refine And.intro rfl ?_
      rintro rv I5 L5 ⟨rfl, rfl, rfl⟩
      intro z (hz : z = I3 127 5) _
      refine ⟨rfl, fun M C hMC => ?_⟩
      rcases hp _ _ _ _ _ _ (hst M C hMC) with ⟨h9, _⟩ | ⟨_, T3, o3, p1, p2, p3, p4, p5⟩
      · exact (sc_10 h9).elim
      · have h9 := m_over (b := I 2) (n := I 1 2) (M := M) (C := C) (o := o3) (d := 1) p3 p4
        rw [if_pos ((c_tok_end p1.2.1).mp g1)] at h9
        exact ⟨.inr o3, p5 [] _ (Or.inl rfl) h9, by rw [hz, p1.2.2.2.2.1]; rfl, p1.1.2.2.2.2⟩
    · subst e1
      subst e2
      refine And.intro (fun _ => ?_) (fun q => absurd rfl q)
      refine And.intro rfl ?_
      rintro rv I4 L4 ⟨rfl, rfl, rfl⟩
      refine And.intro (fun q => absurd rfl q) (fun _ => ?_)
      intro z (hz : z = I2 1 4) (bz : 0 ≤ z ∧ z ≤ 940)
      refine Or.inl ⟨by omega, rfl, fun M C hMC => ?_⟩
      rcases hp _ _ _ _ _ _ (hst M C hMC) with ⟨h9, _⟩ | ⟨_, T3, o3, p1, p2, p3, p4, p5⟩
      · exact (sc_10 h9).elim
      · have h9 := m_over (b := I 2) (n := I 1 2) (M := M) (C := C) (o := o3) (d := 1) p3 p4
        rw [if_neg (fun q => g1 ((c_tok_end p1.2.1).mpr q))] at h9
        exact ⟨.inl (T3.2.1, 1), p5 [] _ (Or.inl rfl) h9, by rw [hz, p1.2.1.1]; rfl, rfl⟩
theorem xk_sen (hE : z_EX EX) : x_Ok EX l zTB zNT kc D vwCl xb yTY ad yP0 150 31 xr_sen xo_sen := x_Ok2_ok (xn_sen hE) (fun _ h => n_w h)
end XS3
