/-! ===== copies, exactly ===== -/
theorem x_or {EX : (Nat → Prop) → State → Heap → Prop} {l : Launch} {TB : List Cond} {NT : List (String × Nat × MethodName × String)} {kc : Nat → ClassId} {D : va_G} {cl : List vw_C} {xb : Nat} {TY : List (List yC)} {ad : Nat → Option Nat} {P : Nat → Option yM} {j d0 : Nat} {P1 P2 : xPre} {Q1 Q2 : xPost} (h1 : x_Ok EX l TB NT kc D cl xb TY ad P j d0 P1 Q1) (h2 : x_Ok EX l TB NT kc D cl xb TY ad P j d0 P2 Q2) : x_Ok EX l TB NT kc D cl xb TY ad P j d0 (fun za I L => P1 za I L ∨ P2 za I L) (fun za I L rv I' L' => (P1 za I L ∧ Q1 za I L rv I' L') ∨ (P2 za I L ∧ Q2 za I L rv I' L')) := by
  intro y cc maxL ret tab na sp hP dd hd za av ws sz I L hav hpre hag hwt had
  rcases hpre with hp | hp
  · exact y_Met_conv (h1 y cc maxL ret tab na sp hP dd hd za av ws sz I L hav hp hag hwt had) (fun rv u ⟨zr, I', L', g1, g2, g3, g4, g5⟩ => ⟨zr, I', L', g1, g2, Or.inl ⟨hp, g3⟩, g4, g5⟩)
  · exact y_Met_conv (h2 y cc maxL ret tab na sp hP dd hd za av ws sz I L hav hp hag hwt had) (fun rv u ⟨zr, I', L', g1, g2, g3, g4, g5⟩ => ⟨zr, I', L', g1, g2, Or.inr ⟨hp, g3⟩, g4, g5⟩)
/-- names: the object d like the object s -/
def ncI (d s : Nat) (I : xF) : xF := x_u (x_cp (x_cp I (s + 2) (d + 2) 22) (s + 3) (d + 3) 22) d 3 (I s 3)
/-- a Law -/
def lcA (d s : Nat) (I : xF) : xF := x_cp (x_cp (x_cp (x_cp (x_cp (x_cp (x_cp (x_u (x_u (x_u (x_u (x_u (x_u (x_u (x_u I d 0 (I s 0)) d 1 (I s 1)) d 2 (I s 2)) d 3 (I s 3)) d 4 (I s 4)) d 5 (I s 5)) d 6 (I s 6)) d 7 (I s 7)) (s + 1) (d + 1) 8) (s + 2) (d + 2) 6) (s + 3) (d + 3) 8) (s + 4) (d + 4) 8) (s + 5) (d + 5) 8) (s + 6) (d + 6) 8) (s + 7) (d + 7) 8
def lcI (d s : Nat) (I : xF) : xF := ncI (d + 8) (s + 8) (lcA d s I)
/-- a State -/
def stI (d s : Nat) (I : xF) : xF := x_cp (x_cp (x_cp (x_cp (x_cp (x_cp (x_cp (x_u (x_u (x_u (x_u I d 1 (I s 1)) d 2 (I s 2)) d 3 (I s 3)) d 4 (I s 4)) (s + 1) (d + 1) 8) (s + 2) (d + 2) 8) (s + 3) (d + 3) 8) (s + 4) (d + 4) 8) (s + 5) (d + 5) 8) (s + 6) (d + 6) 6) (s + 7) (d + 7) 6
/-- a Sentence -/
def seI (d s : Nat) (I : xF) : xF := x_u (x_u (x_cp (x_cp (x_cp I (s + 1) (d + 1) 40) (s + 2) (d + 2) 40) (s + 3) (d + 3) 40) d 4 (I s 4)) d 5 (I s 5)
/-- an Image that is taken, that is given back -/
def tkI (i : Nat) (I : xF) : xF := x_u (seI (i + 22) 121 (stI (i + 13) 29 (lcI (i + 1) 4 I))) i 3 1
def gbI (i : Nat) (I : xF) : xF := seI 121 (i + 22) (stI 29 (i + 13) (lcI 4 (i + 1) I))
def xr2 (d s : Nat) : xPre := fun za _ _ => za = [xR (d + 1), xR (s + 1)]
def xo_ncp (d s : Nat) : xPost := fun _ I L rv I' L' => rv = none ∧ I' = ncI d s I ∧ L' = x_cp L (s + 1) (d + 1) 22
def xo_lc2 (d s : Nat) : xPost := fun _ I L rv I' L' => rv = none ∧ I' = lcI d s I ∧ L' = x_cp L (s + 9) (d + 9) 22
def xo_st (d s : Nat) : xPost := fun _ I L rv I' L' => rv = none ∧ I' = stI d s I ∧ L' = L
def xo_se (d s : Nat) : xPost := fun _ I L rv I' L' => rv = none ∧ I' = seI d s I ∧ L' = L
def xr_im (i : Nat) : xPre := fun za _ _ => za = [xR (i + 1), xR 5, xR 30, xR 122]
def xo_tkm (i : Nat) : xPost := fun _ I L rv I' L' => rv = none ∧ I' = tkI i I ∧ L' = x_cp L 13 (i + 10) 22
def xo_gbm (i : Nat) : xPost := fun _ I L rv I' L' => rv = none ∧ I' = gbI i I ∧ L' = x_cp L (i + 10) 13 22
section XR
variable {EX : (Nat → Prop) → State → Heap → Prop} {l : Launch} {kc : Nat → ClassId} {D : va_G} {xb : Nat} {ad : Nat → Option Nat}
theorem xk_nc_12_25 (hE : z_EX EX) : x_Ok EX l zTB zNT kc D vwCl xb yTY ad yP0 47 0 (xr2 12 25) (xo_ncp 12 25) := by
  refine x_meth2 (M := ym_X5_copyFrom) hE y_prog 40 rfl (by decide) x_none_ok (fun za I L h => by have h : za = [xR 13, xR 26] := h; subst h; exact (by decide : 2 ≤ 2)) (fun za I L h => ?_)
  have h : za = [xR 13, xR 26] := h
  subst h
  refine And.intro ⟨rfl, rfl, by decide, by decide, by decide⟩ ?_
  refine And.intro ⟨rfl, rfl, by decide⟩ ?_
  refine And.intro ⟨rfl, rfl, by decide⟩ ?_
  intro z (hz : z = I 25 3) (bz : 0 ≤ z ∧ z ≤ 22)
  refine And.intro bz ?_
  subst hz
  exact ⟨rfl, rfl, rfl⟩
set_option maxHeartbeats 1000000 in
theorem xk_lc_4_17 (hE : z_EX EX) : x_Ok EX l zTB zNT kc D vwCl xb yTY ad yP0 32 1 (xr2 4 17) (xo_lc2 4 17) := by
  refine x_meth2 (ct := x_ctl [(47, 0, xr2 12 25, xo_ncp 12 25)]) (M := ym_X3_copyFrom) hE y_prog 100 rfl (by decide) (x_ctl_cons (xk_nc_12_25 hE) x_ctl_nil) (fun za I L h => by have h : za = [xR 5, xR 18] := h; subst h; exact (by decide : 2 ≤ 2)) (fun za I L h => ?_)
  have h : za = [xR 5, xR 18] := h
  subst h
  intro z0 (h0 : z0 = I 17 0) (b0 : 0 ≤ z0 ∧ z0 ≤ 8)
  subst h0
  refine And.intro b0 ?_
  intro z1 (h1 : z1 = I 17 1) (b1 : 0 ≤ z1 ∧ z1 ≤ 6)
  subst h1
  refine And.intro b1 ?_
  intro z2 (h2 : z2 = I 17 2) (b2 : 0 ≤ z2 ∧ z2 ≤ 8)
  subst h2
  refine And.intro b2 ?_
  intro z3 (h3 : z3 = I 17 3) (b3 : 0 ≤ z3 ∧ z3 ≤ 8)
  subst h3
  refine And.intro b3 ?_
  intro z4 (h4 : z4 = I 17 4) (b4 : 0 ≤ z4 ∧ z4 ≤ 40)
  subst h4
  refine And.intro b4 ?_
  intro z5 (h5 : z5 = I 17 5) (b5 : 0 ≤ z5 ∧ z5 ≤ 30)
  subst h5
  refine And.intro b5 ?_
  intro z6 (h6 : z6 = I 17 6) (b6 : 0 ≤ z6 ∧ z6 ≤ 9)
  subst h6
  refine And.intro b6 ?_
  intro z7 (h7 : z7 = I 17 7) (b7 : 0 ≤ z7 ∧ z7 ≤ 999)
  subst h7
  refine And.intro b7 ?_
  refine And.intro ⟨rfl, rfl, by decide⟩ ?_
  refine And.intro ⟨rfl, rfl, by decide⟩ ?_
  refine And.intro ⟨rfl, rfl, by decide⟩ ?_
  refine And.intro ⟨rfl, rfl, by decide⟩ ?_
  refine And.intro ⟨rfl, rfl, by decide⟩ ?_
  refine And.intro ⟨rfl, rfl, by decide⟩ ?_
  refine And.intro ⟨rfl, rfl, by decide⟩ ?_
  refine And.intro rfl ?_
  rintro rv I1 L1 ⟨rfl, rfl, rfl⟩
  exact ⟨rfl, rfl, rfl⟩
theorem xk_nc_164_12 (hE : z_EX EX) : x_Ok EX l zTB zNT kc D vwCl xb yTY ad yP0 47 0 (xr2 164 12) (xo_ncp 164 12) := by
  refine x_meth2 (M := ym_X5_copyFrom) hE y_prog 40 rfl (by decide) x_none_ok (fun za I L h => by have h : za = [xR 165, xR 13] := h; subst h; exact (by decide : 2 ≤ 2)) (fun za I L h => ?_)
  have h : za = [xR 165, xR 13] := h
  subst h
  refine And.intro ⟨rfl, rfl, by decide, by decide, by decide⟩ ?_
  refine And.intro ⟨rfl, rfl, by decide⟩ ?_
  refine And.intro ⟨rfl, rfl, by decide⟩ ?_
  intro z (hz : z = I 12 3) (bz : 0 ≤ z ∧ z ≤ 22)
  refine And.intro bz ?_
  subst hz
  exact ⟨rfl, rfl, rfl⟩
set_option maxHeartbeats 1000000 in
theorem xk_lc_156_4 (hE : z_EX EX) : x_Ok EX l zTB zNT kc D vwCl xb yTY ad yP0 32 1 (xr2 156 4) (xo_lc2 156 4) := by
  refine x_meth2 (ct := x_ctl [(47, 0, xr2 164 12, xo_ncp 164 12)]) (M := ym_X3_copyFrom) hE y_prog 100 rfl (by decide) (x_ctl_cons (xk_nc_164_12 hE) x_ctl_nil) (fun za I L h => by have h : za = [xR 157, xR 5] := h; subst h; exact (by decide : 2 ≤ 2)) (fun za I L h => ?_)
  have h : za = [xR 157, xR 5] := h
  subst h
  intro z0 (h0 : z0 = I 4 0) (b0 : 0 ≤ z0 ∧ z0 ≤ 8)
  subst h0
  refine And.intro b0 ?_
  intro z1 (h1 : z1 = I 4 1) (b1 : 0 ≤ z1 ∧ z1 ≤ 6)
  subst h1
  refine And.intro b1 ?_
  intro z2 (h2 : z2 = I 4 2) (b2 : 0 ≤ z2 ∧ z2 ≤ 8)
  subst h2
  refine And.intro b2 ?_
  intro z3 (h3 : z3 = I 4 3) (b3 : 0 ≤ z3 ∧ z3 ≤ 8)
  subst h3
  refine And.intro b3 ?_
  intro z4 (h4 : z4 = I 4 4) (b4 : 0 ≤ z4 ∧ z4 ≤ 40)
  subst h4
  refine And.intro b4 ?_
  intro z5 (h5 : z5 = I 4 5) (b5 : 0 ≤ z5 ∧ z5 ≤ 30)
  subst h5
  refine And.intro b5 ?_
  intro z6 (h6 : z6 = I 4 6) (b6 : 0 ≤ z6 ∧ z6 ≤ 9)
  subst h6
  refine And.intro b6 ?_
  intro z7 (h7 : z7 = I 4 7) (b7 : 0 ≤ z7 ∧ z7 ≤ 999)
  subst h7
  refine And.intro b7 ?_
  refine And.intro ⟨rfl, rfl, by decide⟩ ?_
  refine And.intro ⟨rfl, rfl, by decide⟩ ?_
  refine And.intro ⟨rfl, rfl, by decide⟩ ?_
  refine And.intro ⟨rfl, rfl, by decide⟩ ?_
  refine And.intro ⟨rfl, rfl, by decide⟩ ?_
  refine And.intro ⟨rfl, rfl, by decide⟩ ?_
  refine And.intro ⟨rfl, rfl, by decide⟩ ?_
  refine And.intro rfl ?_
  rintro rv I1 L1 ⟨rfl, rfl, rfl⟩
  exact ⟨rfl, rfl, rfl⟩
theorem xk_nc_191_12 (hE : z_EX EX) : x_Ok EX l zTB zNT kc D vwCl xb yTY ad yP0 47 0 (xr2 191 12) (xo_ncp 191 12) := by
  refine x_meth2 (M := ym_X5_copyFrom) hE y_prog 40 rfl (by decide) x_none_ok (fun za I L h => by have h : za = [xR 192, xR 13] := h; subst h; exact (by decide : 2 ≤ 2)) (fun za I L h => ?_)
  have h : za = [xR 192, xR 13] := h
  subst h
  refine And.intro ⟨rfl, rfl, by decide, by decide, by decide⟩ ?_
  refine And.intro ⟨rfl, rfl, by decide⟩ ?_
  refine And.intro ⟨rfl, rfl, by decide⟩ ?_
  intro z (hz : z = I 12 3) (bz : 0 ≤ z ∧ z ≤ 22)
  refine And.intro bz ?_
  subst hz
  exact ⟨rfl, rfl, rfl⟩
set_option maxHeartbeats 1000000 in
theorem xk_lc_183_4 (hE : z_EX EX) : x_Ok EX l zTB zNT kc D vwCl xb yTY ad yP0 32 1 (xr2 183 4) (xo_lc2 183 4) := by
  refine x_meth2 (ct := x_ctl [(47, 0, xr2 191 12, xo_ncp 191 12)]) (M := ym_X3_copyFrom) hE y_prog 100 rfl (by decide) (x_ctl_cons (xk_nc_191_12 hE) x_ctl_nil) (fun za I L h => by have h : za = [xR 184, xR 5] := h; subst h; exact (by decide : 2 ≤ 2)) (fun za I L h => ?_)
  have h : za = [xR 184, xR 5] := h
  subst h
  intro z0 (h0 : z0 = I 4 0) (b0 : 0 ≤ z0 ∧ z0 ≤ 8)
  subst h0
  refine And.intro b0 ?_
  intro z1 (h1 : z1 = I 4 1) (b1 : 0 ≤ z1 ∧ z1 ≤ 6)
  subst h1
  refine And.intro b1 ?_
  intro z2 (h2 : z2 = I 4 2) (b2 : 0 ≤ z2 ∧ z2 ≤ 8)
  subst h2
  refine And.intro b2 ?_
  intro z3 (h3 : z3 = I 4 3) (b3 : 0 ≤ z3 ∧ z3 ≤ 8)
  subst h3
  refine And.intro b3 ?_
  intro z4 (h4 : z4 = I 4 4) (b4 : 0 ≤ z4 ∧ z4 ≤ 40)
  subst h4
  refine And.intro b4 ?_
  intro z5 (h5 : z5 = I 4 5) (b5 : 0 ≤ z5 ∧ z5 ≤ 30)
  subst h5
  refine And.intro b5 ?_
  intro z6 (h6 : z6 = I 4 6) (b6 : 0 ≤ z6 ∧ z6 ≤ 9)
  subst h6
  refine And.intro b6 ?_
  intro z7 (h7 : z7 = I 4 7) (b7 : 0 ≤ z7 ∧ z7 ≤ 999)
  subst h7
  refine And.intro b7 ?_
  refine And.intro ⟨rfl, rfl, by decide⟩ ?_
  refine And.intro ⟨rfl, rfl, by decide⟩ ?_
  refine And.intro ⟨rfl, rfl, by decide⟩ ?_
  refine And.intro ⟨rfl, rfl, by decide⟩ ?_
  refine And.intro ⟨rfl, rfl, by decide⟩ ?_
  refine And.intro ⟨rfl, rfl, by decide⟩ ?_
  refine And.intro ⟨rfl, rfl, by decide⟩ ?_
  refine And.intro rfl ?_
  rintro rv I1 L1 ⟨rfl, rfl, rfl⟩
  exact ⟨rfl, rfl, rfl⟩
theorem xk_nc_12_164 (hE : z_EX EX) : x_Ok EX l zTB zNT kc D vwCl xb yTY ad yP0 47 0 (xr2 12 164) (xo_ncp 12 164) := by
  refine x_meth2 (M := ym_X5_copyFrom) hE y_prog 40 rfl (by decide) x_none_ok (fun za I L h => by have h : za = [xR 13, xR 165] := h; subst h; exact (by decide : 2 ≤ 2)) (fun za I L h => ?_)
  have h : za = [xR 13, xR 165] := h
  subst h
  refine And.intro ⟨rfl, rfl, by decide, by decide, by decide⟩ ?_
  refine And.intro ⟨rfl, rfl, by decide⟩ ?_
  refine And.intro ⟨rfl, rfl, by decide⟩ ?_
  intro z (hz : z = I 164 3) (bz : 0 ≤ z ∧ z ≤ 22)
  refine And.intro bz ?_
  subst hz
  exact ⟨rfl, rfl, rfl⟩
set_option maxHeartbeats 1000000 in
theorem xk_lc_4_156 (hE : z_EX EX) : x_Ok EX l zTB zNT kc D vwCl xb yTY ad yP0 32 1 (xr2 4 156) (xo_lc2 4 156) := by
  refine x_meth2 (ct := x_ctl [(47, 0, xr2 12 164, xo_ncp 12 164)]) (M := ym_X3_copyFrom) hE y_prog 100 rfl (by decide) (x_ctl_cons (xk_nc_12_164 hE) x_ctl_nil) (fun za I L h => by have h : za = [xR 5, xR 157] := h; subst h; exact (by decide : 2 ≤ 2)) (fun za I L h => ?_)
  have h : za = [xR 5, xR 157] := h
  subst h
  intro z0 (h0 : z0 = I 156 0) (b0 : 0 ≤ z0 ∧ z0 ≤ 8)
  subst h0
  refine And.intro b0 ?_
  intro z1 (h1 : z1 = I 156 1) (b1 : 0 ≤ z1 ∧ z1 ≤ 6)
  subst h1
  refine And.intro b1 ?_
  intro z2 (h2 : z2 = I 156 2) (b2 : 0 ≤ z2 ∧ z2 ≤ 8)
  subst h2
  refine And.intro b2 ?_
  intro z3 (h3 : z3 = I 156 3) (b3 : 0 ≤ z3 ∧ z3 ≤ 8)
  subst h3
  refine And.intro b3 ?_
  intro z4 (h4 : z4 = I 156 4) (b4 : 0 ≤ z4 ∧ z4 ≤ 40)
  subst h4
  refine And.intro b4 ?_
  intro z5 (h5 : z5 = I 156 5) (b5 : 0 ≤ z5 ∧ z5 ≤ 30)
  subst h5
  refine And.intro b5 ?_
  intro z6 (h6 : z6 = I 156 6) (b6 : 0 ≤ z6 ∧ z6 ≤ 9)
  subst h6
  refine And.intro b6 ?_
  intro z7 (h7 : z7 = I 156 7) (b7 : 0 ≤ z7 ∧ z7 ≤ 999)
  subst h7
  refine And.intro b7 ?_
  refine And.intro ⟨rfl, rfl, by decide⟩ ?_
  refine And.intro ⟨rfl, rfl, by decide⟩ ?_
  refine And.intro ⟨rfl, rfl, by decide⟩ ?_
  refine And.intro ⟨rfl, rfl, by decide⟩ ?_
  refine And.intro ⟨rfl, rfl, by decide⟩ ?_
  refine And.intro ⟨rfl, rfl, by decide⟩ ?_
  refine And.intro ⟨rfl, rfl, by decide⟩ ?_
  refine And.intro rfl ?_
  rintro rv I1 L1 ⟨rfl, rfl, rfl⟩
  exact ⟨rfl, rfl, rfl⟩
theorem xk_nc_12_191 (hE : z_EX EX) : x_Ok EX l zTB zNT kc D vwCl xb yTY ad yP0 47 0 (xr2 12 191) (xo_ncp 12 191) := by
  refine x_meth2 (M := ym_X5_copyFrom) hE y_prog 40 rfl (by decide) x_none_ok (fun za I L h => by have h : za = [xR 13, xR 192] := h; subst h; exact (by decide : 2 ≤ 2)) (fun za I L h => ?_)
  have h : za = [xR 13, xR 192] := h
  subst h
  refine And.intro ⟨rfl, rfl, by decide, by decide, by decide⟩ ?_
  refine And.intro ⟨rfl, rfl, by decide⟩ ?_
  refine And.intro ⟨rfl, rfl, by decide⟩ ?_
  intro z (hz : z = I 191 3) (bz : 0 ≤ z ∧ z ≤ 22)
  refine And.intro bz ?_
  subst hz
  exact ⟨rfl, rfl, rfl⟩
set_option maxHeartbeats 1000000 in
theorem xk_lc_4_183 (hE : z_EX EX) : x_Ok EX l zTB zNT kc D vwCl xb yTY ad yP0 32 1 (xr2 4 183) (xo_lc2 4 183) := by
  refine x_meth2 (ct := x_ctl [(47, 0, xr2 12 191, xo_ncp 12 191)]) (M := ym_X3_copyFrom) hE y_prog 100 rfl (by decide) (x_ctl_cons (xk_nc_12_191 hE) x_ctl_nil) (fun za I L h => by have h : za = [xR 5, xR 184] := h; subst h; exact (by decide : 2 ≤ 2)) (fun za I L h => ?_)
  have h : za = [xR 5, xR 184] := h
  subst h
  intro z0 (h0 : z0 = I 183 0) (b0 : 0 ≤ z0 ∧ z0 ≤ 8)
  subst h0
  refine And.intro b0 ?_
  intro z1 (h1 : z1 = I 183 1) (b1 : 0 ≤ z1 ∧ z1 ≤ 6)
  subst h1
  refine And.intro b1 ?_
  intro z2 (h2 : z2 = I 183 2) (b2 : 0 ≤ z2 ∧ z2 ≤ 8)
  subst h2
  refine And.intro b2 ?_
  intro z3 (h3 : z3 = I 183 3) (b3 : 0 ≤ z3 ∧ z3 ≤ 8)
  subst h3
  refine And.intro b3 ?_
  intro z4 (h4 : z4 = I 183 4) (b4 : 0 ≤ z4 ∧ z4 ≤ 40)
  subst h4
  refine And.intro b4 ?_
  intro z5 (h5 : z5 = I 183 5) (b5 : 0 ≤ z5 ∧ z5 ≤ 30)
  subst h5
  refine And.intro b5 ?_
  intro z6 (h6 : z6 = I 183 6) (b6 : 0 ≤ z6 ∧ z6 ≤ 9)
  subst h6
  refine And.intro b6 ?_
  intro z7 (h7 : z7 = I 183 7) (b7 : 0 ≤ z7 ∧ z7 ≤ 999)
  subst h7
  refine And.intro b7 ?_
  refine And.intro ⟨rfl, rfl, by decide⟩ ?_
  refine And.intro ⟨rfl, rfl, by decide⟩ ?_
  refine And.intro ⟨rfl, rfl, by decide⟩ ?_
  refine And.intro ⟨rfl, rfl, by decide⟩ ?_
  refine And.intro ⟨rfl, rfl, by decide⟩ ?_
  refine And.intro ⟨rfl, rfl, by decide⟩ ?_
  refine And.intro ⟨rfl, rfl, by decide⟩ ?_
  refine And.intro rfl ?_
  rintro rv I1 L1 ⟨rfl, rfl, rfl⟩
  exact ⟨rfl, rfl, rfl⟩
set_option maxHeartbeats 1000000 in
theorem xk_st_168_29 (hE : z_EX EX) : x_Ok EX l zTB zNT kc D vwCl xb yTY ad yP0 68 0 (xr2 168 29) (xo_st 168 29) := by
  refine x_meth2 (M := ym_X9_copyFrom) hE y_prog 100 rfl (by decide) x_none_ok (fun za I L h => by have h : za = [xR 169, xR 30] := h; subst h; exact (by decide : 2 ≤ 2)) (fun za I L h => ?_)
  have h : za = [xR 169, xR 30] := h
  subst h
  intro z1 (h1 : z1 = I 29 1) (b1 : (-2147483648 : Int) ≤ z1 ∧ z1 ≤ 2147483647)
  subst h1
  refine And.intro b1 ?_
  intro z2 (h2 : z2 = I 29 2) (b2 : (-2147483648 : Int) ≤ z2 ∧ z2 ≤ 2147483647)
  subst h2
  refine And.intro b2 ?_
  intro z3 (h3 : z3 = I 29 3) (b3 : (-2147483648 : Int) ≤ z3 ∧ z3 ≤ 2147483647)
  subst h3
  refine And.intro b3 ?_
  intro z4 (h4 : z4 = I 29 4) (b4 : (0 : Int) ≤ z4 ∧ z4 ≤ 8)
  subst h4
  refine And.intro b4 ?_
  refine And.intro ⟨rfl, rfl, by decide⟩ ?_
  refine And.intro ⟨rfl, rfl, by decide⟩ ?_
  refine And.intro ⟨rfl, rfl, by decide⟩ ?_
  refine And.intro ⟨rfl, rfl, by decide⟩ ?_
  refine And.intro ⟨rfl, rfl, by decide⟩ ?_
  refine And.intro ⟨rfl, rfl, by decide⟩ ?_
  refine And.intro ⟨rfl, rfl, by decide⟩ ?_
  exact ⟨rfl, rfl, rfl⟩
set_option maxHeartbeats 1000000 in
theorem xk_st_195_29 (hE : z_EX EX) : x_Ok EX l zTB zNT kc D vwCl xb yTY ad yP0 68 0 (xr2 195 29) (xo_st 195 29) := by
  refine x_meth2 (M := ym_X9_copyFrom) hE y_prog 100 rfl (by decide) x_none_ok (fun za I L h => by have h : za = [xR 196, xR 30] := h; subst h; exact (by decide : 2 ≤ 2)) (fun za I L h => ?_)
  have h : za = [xR 196, xR 30] := h
  subst h
  intro z1 (h1 : z1 = I 29 1) (b1 : (-2147483648 : Int) ≤ z1 ∧ z1 ≤ 2147483647)
  subst h1
  refine And.intro b1 ?_
  intro z2 (h2 : z2 = I 29 2) (b2 : (-2147483648 : Int) ≤ z2 ∧ z2 ≤ 2147483647)
  subst h2
  refine And.intro b2 ?_
  intro z3 (h3 : z3 = I 29 3) (b3 : (-2147483648 : Int) ≤ z3 ∧ z3 ≤ 2147483647)
  subst h3
  refine And.intro b3 ?_
  intro z4 (h4 : z4 = I 29 4) (b4 : (0 : Int) ≤ z4 ∧ z4 ≤ 8)
  subst h4
  refine And.intro b4 ?_
  refine And.intro ⟨rfl, rfl, by decide⟩ ?_
  refine And.intro ⟨rfl, rfl, by decide⟩ ?_
  refine And.intro ⟨rfl, rfl, by decide⟩ ?_
  refine And.intro ⟨rfl, rfl, by decide⟩ ?_
  refine And.intro ⟨rfl, rfl, by decide⟩ ?_
  refine And.intro ⟨rfl, rfl, by decide⟩ ?_
  refine And.intro ⟨rfl, rfl, by decide⟩ ?_
  exact ⟨rfl, rfl, rfl⟩
set_option maxHeartbeats 1000000 in
theorem xk_st_29_168 (hE : z_EX EX) : x_Ok EX l zTB zNT kc D vwCl xb yTY ad yP0 68 0 (xr2 29 168) (xo_st 29 168) := by
  refine x_meth2 (M := ym_X9_copyFrom) hE y_prog 100 rfl (by decide) x_none_ok (fun za I L h => by have h : za = [xR 30, xR 169] := h; subst h; exact (by decide : 2 ≤ 2)) (fun za I L h => ?_)
  have h : za = [xR 30, xR 169] := h
  subst h
  intro z1 (h1 : z1 = I 168 1) (b1 : (-2147483648 : Int) ≤ z1 ∧ z1 ≤ 2147483647)
  subst h1
  refine And.intro b1 ?_
  intro z2 (h2 : z2 = I 168 2) (b2 : (-2147483648 : Int) ≤ z2 ∧ z2 ≤ 2147483647)
  subst h2
  refine And.intro b2 ?_
  intro z3 (h3 : z3 = I 168 3) (b3 : (-2147483648 : Int) ≤ z3 ∧ z3 ≤ 2147483647)
  subst h3
  refine And.intro b3 ?_
  intro z4 (h4 : z4 = I 168 4) (b4 : (0 : Int) ≤ z4 ∧ z4 ≤ 8)
  subst h4
  refine And.intro b4 ?_
  refine And.intro ⟨rfl, rfl, by decide⟩ ?_
  refine And.intro ⟨rfl, rfl, by decide⟩ ?_
  refine And.intro ⟨rfl, rfl, by decide⟩ ?_
  refine And.intro ⟨rfl, rfl, by decide⟩ ?_
  refine And.intro ⟨rfl, rfl, by decide⟩ ?_
  refine And.intro ⟨rfl, rfl, by decide⟩ ?_
  refine And.intro ⟨rfl, rfl, by decide⟩ ?_
  exact ⟨rfl, rfl, rfl⟩
set_option maxHeartbeats 1000000 in
theorem xk_st_29_195 (hE : z_EX EX) : x_Ok EX l zTB zNT kc D vwCl xb yTY ad yP0 68 0 (xr2 29 195) (xo_st 29 195) := by
  refine x_meth2 (M := ym_X9_copyFrom) hE y_prog 100 rfl (by decide) x_none_ok (fun za I L h => by have h : za = [xR 30, xR 196] := h; subst h; exact (by decide : 2 ≤ 2)) (fun za I L h => ?_)
  have h : za = [xR 30, xR 196] := h
  subst h
  intro z1 (h1 : z1 = I 195 1) (b1 : (-2147483648 : Int) ≤ z1 ∧ z1 ≤ 2147483647)
  subst h1
  refine And.intro b1 ?_
  intro z2 (h2 : z2 = I 195 2) (b2 : (-2147483648 : Int) ≤ z2 ∧ z2 ≤ 2147483647)
  subst h2
  refine And.intro b2 ?_
  intro z3 (h3 : z3 = I 195 3) (b3 : (-2147483648 : Int) ≤ z3 ∧ z3 ≤ 2147483647)
  subst h3
  refine And.intro b3 ?_
  intro z4 (h4 : z4 = I 195 4) (b4 : (0 : Int) ≤ z4 ∧ z4 ≤ 8)
  subst h4
  refine And.intro b4 ?_
  refine And.intro ⟨rfl, rfl, by decide⟩ ?_
  refine And.intro ⟨rfl, rfl, by decide⟩ ?_
  refine And.intro ⟨rfl, rfl, by decide⟩ ?_
  refine And.intro ⟨rfl, rfl, by decide⟩ ?_
  refine And.intro ⟨rfl, rfl, by decide⟩ ?_
  refine And.intro ⟨rfl, rfl, by decide⟩ ?_
  refine And.intro ⟨rfl, rfl, by decide⟩ ?_
  exact ⟨rfl, rfl, rfl⟩
theorem xk_se_177_121 (hE : z_EX EX) : x_Ok EX l zTB zNT kc D vwCl xb yTY ad yP0 55 0 (xr2 177 121) (xo_se 177 121) := by
  refine x_meth2 (M := ym_X7_copyFrom) hE y_prog 60 rfl (by decide) x_none_ok (fun za I L h => by have h : za = [xR 178, xR 122] := h; subst h; exact (by decide : 2 ≤ 2)) (fun za I L h => ?_)
  have h : za = [xR 178, xR 122] := h
  subst h
  refine And.intro ⟨rfl, rfl, by decide⟩ ?_
  refine And.intro ⟨rfl, rfl, by decide⟩ ?_
  refine And.intro ⟨rfl, rfl, by decide⟩ ?_
  intro z4 (h4 : z4 = I 121 4) (b4 : 0 ≤ z4 ∧ z4 ≤ 40)
  subst h4
  refine And.intro b4 ?_
  intro z5 (h5 : z5 = I 121 5) (b5 : 0 ≤ z5 ∧ z5 ≤ 20)
  subst h5
  refine And.intro b5 ?_
  exact ⟨rfl, rfl, rfl⟩
theorem xk_se_204_121 (hE : z_EX EX) : x_Ok EX l zTB zNT kc D vwCl xb yTY ad yP0 55 0 (xr2 204 121) (xo_se 204 121) := by
  refine x_meth2 (M := ym_X7_copyFrom) hE y_prog 60 rfl (by decide) x_none_ok (fun za I L h => by have h : za = [xR 205, xR 122] := h; subst h; exact (by decide : 2 ≤ 2)) (fun za I L h => ?_)
  have h : za = [xR 205, xR 122] := h
  subst h
  refine And.intro ⟨rfl, rfl, by decide⟩ ?_
  refine And.intro ⟨rfl, rfl, by decide⟩ ?_
  refine And.intro ⟨rfl, rfl, by decide⟩ ?_
  intro z4 (h4 : z4 = I 121 4) (b4 : 0 ≤ z4 ∧ z4 ≤ 40)
  subst h4
  refine And.intro b4 ?_
  intro z5 (h5 : z5 = I 121 5) (b5 : 0 ≤ z5 ∧ z5 ≤ 20)
  subst h5
  refine And.intro b5 ?_
  exact ⟨rfl, rfl, rfl⟩
theorem xk_se_121_177 (hE : z_EX EX) : x_Ok EX l zTB zNT kc D vwCl xb yTY ad yP0 55 0 (xr2 121 177) (xo_se 121 177) := by
  refine x_meth2 (M := ym_X7_copyFrom) hE y_prog 60 rfl (by decide) x_none_ok (fun za I L h => by have h : za = [xR 122, xR 178] := h; subst h; exact (by decide : 2 ≤ 2)) (fun za I L h => ?_)
  have h : za = [xR 122, xR 178] := h
  subst h
  refine And.intro ⟨rfl, rfl, by decide⟩ ?_
  refine And.intro ⟨rfl, rfl, by decide⟩ ?_
  refine And.intro ⟨rfl, rfl, by decide⟩ ?_
  intro z4 (h4 : z4 = I 177 4) (b4 : 0 ≤ z4 ∧ z4 ≤ 40)
  subst h4
  refine And.intro b4 ?_
  intro z5 (h5 : z5 = I 177 5) (b5 : 0 ≤ z5 ∧ z5 ≤ 20)
  subst h5
  refine And.intro b5 ?_
  exact ⟨rfl, rfl, rfl⟩
theorem xk_se_121_204 (hE : z_EX EX) : x_Ok EX l zTB zNT kc D vwCl xb yTY ad yP0 55 0 (xr2 121 204) (xo_se 121 204) := by
  refine x_meth2 (M := ym_X7_copyFrom) hE y_prog 60 rfl (by decide) x_none_ok (fun za I L h => by have h : za = [xR 122, xR 205] := h; subst h; exact (by decide : 2 ≤ 2)) (fun za I L h => ?_)
  have h : za = [xR 122, xR 205] := h
  subst h
  refine And.intro ⟨rfl, rfl, by decide⟩ ?_
  refine And.intro ⟨rfl, rfl, by decide⟩ ?_
  refine And.intro ⟨rfl, rfl, by decide⟩ ?_
  intro z4 (h4 : z4 = I 204 4) (b4 : 0 ≤ z4 ∧ z4 ≤ 40)
  subst h4
  refine And.intro b4 ?_
  intro z5 (h5 : z5 = I 204 5) (b5 : 0 ≤ z5 ∧ z5 ≤ 20)
  subst h5
  refine And.intro b5 ?_
  exact ⟨rfl, rfl, rfl⟩
set_option maxHeartbeats 1000000 in
theorem xk_tk_155 (hE : z_EX EX) : x_Ok EX l zTB zNT kc D vwCl xb yTY ad yP0 29 2 (xr_im 155) (xo_tkm 155) := by
  refine x_meth2 (ct := x_ctl [(32, 1, xr2 156 4, xo_lc2 156 4), (68, 0, xr2 168 29, xo_st 168 29), (55, 0, xr2 177 121, xo_se 177 121)]) (M := ym_X2_take) hE y_prog 60 rfl (by decide) (x_ctl_cons (xk_lc_156_4 hE) (x_ctl_cons (xk_st_168_29 hE) (x_ctl_cons (xk_se_177_121 hE) x_ctl_nil))) (fun za I L h => by have h : za = [xR 156, xR 5, xR 30, xR 122] := h; subst h; exact (by decide : 4 ≤ 4)) (fun za I L h => ?_)
  have h : za = [xR 156, xR 5, xR 30, xR 122] := h
  subst h
  refine And.intro rfl ?_
  rintro rv I1 L1 ⟨rfl, rfl, rfl⟩
  refine And.intro rfl ?_
  rintro rv I2 L2 ⟨rfl, rfl, rfl⟩
  refine And.intro rfl ?_
  rintro rv I3 L3 ⟨rfl, rfl, rfl⟩
  refine And.intro (by decide) ?_
  exact ⟨rfl, rfl, rfl⟩
set_option maxHeartbeats 1000000 in
theorem xk_gb_155 (hE : z_EX EX) : x_Ok EX l zTB zNT kc D vwCl xb yTY ad yP0 30 2 (xr_im 155) (xo_gbm 155) := by
  refine x_meth2 (ct := x_ctl [(32, 1, xr2 4 156, xo_lc2 4 156), (68, 0, xr2 29 168, xo_st 29 168), (55, 0, xr2 121 177, xo_se 121 177)]) (M := ym_X2_giveBack) hE y_prog 60 rfl (by decide) (x_ctl_cons (xk_lc_4_156 hE) (x_ctl_cons (xk_st_29_168 hE) (x_ctl_cons (xk_se_121_177 hE) x_ctl_nil))) (fun za I L h => by have h : za = [xR 156, xR 5, xR 30, xR 122] := h; subst h; exact (by decide : 4 ≤ 4)) (fun za I L h => ?_)
  have h : za = [xR 156, xR 5, xR 30, xR 122] := h
  subst h
  refine And.intro rfl ?_
  rintro rv I1 L1 ⟨rfl, rfl, rfl⟩
  refine And.intro rfl ?_
  rintro rv I2 L2 ⟨rfl, rfl, rfl⟩
  refine And.intro rfl ?_
  rintro rv I3 L3 ⟨rfl, rfl, rfl⟩
  exact ⟨rfl, rfl, rfl⟩
set_option maxHeartbeats 1000000 in
theorem xk_tk_182 (hE : z_EX EX) : x_Ok EX l zTB zNT kc D vwCl xb yTY ad yP0 29 2 (xr_im 182) (xo_tkm 182) := by
  refine x_meth2 (ct := x_ctl [(32, 1, xr2 183 4, xo_lc2 183 4), (68, 0, xr2 195 29, xo_st 195 29), (55, 0, xr2 204 121, xo_se 204 121)]) (M := ym_X2_take) hE y_prog 60 rfl (by decide) (x_ctl_cons (xk_lc_183_4 hE) (x_ctl_cons (xk_st_195_29 hE) (x_ctl_cons (xk_se_204_121 hE) x_ctl_nil))) (fun za I L h => by have h : za = [xR 183, xR 5, xR 30, xR 122] := h; subst h; exact (by decide : 4 ≤ 4)) (fun za I L h => ?_)
  have h : za = [xR 183, xR 5, xR 30, xR 122] := h
  subst h
  refine And.intro rfl ?_
  rintro rv I1 L1 ⟨rfl, rfl, rfl⟩
  refine And.intro rfl ?_
  rintro rv I2 L2 ⟨rfl, rfl, rfl⟩
  refine And.intro rfl ?_
  rintro rv I3 L3 ⟨rfl, rfl, rfl⟩
  refine And.intro (by decide) ?_
  exact ⟨rfl, rfl, rfl⟩
set_option maxHeartbeats 1000000 in
theorem xk_gb_182 (hE : z_EX EX) : x_Ok EX l zTB zNT kc D vwCl xb yTY ad yP0 30 2 (xr_im 182) (xo_gbm 182) := by
  refine x_meth2 (ct := x_ctl [(32, 1, xr2 4 183, xo_lc2 4 183), (68, 0, xr2 29 195, xo_st 29 195), (55, 0, xr2 121 204, xo_se 121 204)]) (M := ym_X2_giveBack) hE y_prog 60 rfl (by decide) (x_ctl_cons (xk_lc_4_183 hE) (x_ctl_cons (xk_st_29_195 hE) (x_ctl_cons (xk_se_121_204 hE) x_ctl_nil))) (fun za I L h => by have h : za = [xR 183, xR 5, xR 30, xR 122] := h; subst h; exact (by decide : 4 ≤ 4)) (fun za I L h => ?_)
  have h : za = [xR 183, xR 5, xR 30, xR 122] := h
  subst h
  refine And.intro rfl ?_
  rintro rv I1 L1 ⟨rfl, rfl, rfl⟩
  refine And.intro rfl ?_
  rintro rv I2 L2 ⟨rfl, rfl, rfl⟩
  refine And.intro rfl ?_
  rintro rv I3 L3 ⟨rfl, rfl, rfl⟩
  exact ⟨rfl, rfl, rfl⟩
/-! image, restore of the class -/
def xr_w : xPre := fun za _ _ => ∃ k : Int, za = [xR 1, .inl k]
def xo_img : xPost := fun za I L rv I' L' => ∃ k : Int, za = [xR 1, .inl k] ∧ ((k = 0 ∧ rv = some (.inl 1) ∧ I' = tkI 155 I ∧ L' = x_cp L 13 165 22) ∨ (k = 1 ∧ rv = some (.inl 1) ∧ I' = tkI 182 I ∧ L' = x_cp L 13 192 22) ∨ ((k < 0 ∨ 2 ≤ k) ∧ rv = some (.inl 0) ∧ I' = I ∧ L' = L))
theorem xk_img (hE : z_EX EX) : x_Ok EX l zTB zNT kc D vwCl xb yTY ad yP0 152 3 xr_w xo_img := by
  refine x_meth2 (ct := x_ctl [(29, 2, (fun za I L => xr_im 155 za I L ∨ xr_im 182 za I L), (fun za I L rv I' L' => (xr_im 155 za I L ∧ xo_tkm 155 za I L rv I' L') ∨ (xr_im 182 za I L ∧ xo_tkm 182 za I L rv I' L')))]) (M := ym_X11_image) hE y_prog 60 rfl (by decide) (x_ctl_cons (x_or (xk_tk_155 hE) (xk_tk_182 hE)) x_ctl_nil) (fun za I L ⟨k, h⟩ => by subst h; exact (by decide : 2 ≤ 2)) (fun za I L ⟨k, h⟩ => ?_)
  subst h
  refine And.intro ?_ ?_
  · intro t1
    exact ⟨by decide, k, rfl, Or.inr (Or.inr ⟨Or.inl t1, rfl, rfl, rfl⟩)⟩
  · intro t1
    refine And.intro ?_ ?_
    · intro t2
      have hk : k = 0 ∨ k = 1 := by omega
      rcases hk with rfl | rfl
      · refine And.intro (by decide) ?_
        refine ⟨156, rfl, ?_⟩
        refine And.intro (Or.inl rfl) ?_
        rintro rv I1 L1 (⟨_, rfl, rfl, rfl⟩ | ⟨h, _⟩)
        · exact ⟨by decide, 0, rfl, Or.inl ⟨rfl, rfl, rfl, rfl⟩⟩
        · exact absurd (show [xR 156, xR 5, xR 30, xR 122] = [xR 183, xR 5, xR 30, xR 122] from h) (by decide)
      · refine And.intro (by decide) ?_
        refine ⟨183, rfl, ?_⟩
        refine And.intro (Or.inr rfl) ?_
        rintro rv I1 L1 (⟨h, _⟩ | ⟨_, rfl, rfl, rfl⟩)
        · exact absurd (show [xR 183, xR 5, xR 30, xR 122] = [xR 156, xR 5, xR 30, xR 122] from h) (by decide)
        · exact ⟨by decide, 1, rfl, Or.inr (Or.inl ⟨rfl, rfl, rfl, rfl⟩)⟩
    · intro t2
      exact ⟨by decide, k, rfl, Or.inr (Or.inr ⟨Or.inr (by omega), rfl, rfl, rfl⟩)⟩
def xo_rst : xPost := fun za I L rv I' L' => ∃ k : Int, za = [xR 1, .inl k] ∧ ((k = 0 ∧ I 155 3 ≠ 0 ∧ rv = some (.inl 1) ∧ I' = x_u (gbI 155 I) 38 2 0 ∧ L' = x_cp L 165 13 22) ∨ (k = 1 ∧ I 182 3 ≠ 0 ∧ rv = some (.inl 1) ∧ I' = x_u (gbI 182 I) 38 2 0 ∧ L' = x_cp L 192 13 22) ∨ (((k < 0 ∨ 2 ≤ k) ∨ (k = 0 ∧ I 155 3 = 0) ∨ (k = 1 ∧ I 182 3 = 0)) ∧ rv = some (.inl 0) ∧ I' = I ∧ L' = L))
theorem xk_rst (hE : z_EX EX) : x_Ok EX l zTB zNT kc D vwCl xb yTY ad yP0 153 3 xr_w xo_rst := by
  refine x_meth2 (ct := x_ctl [(30, 2, (fun za I L => xr_im 155 za I L ∨ xr_im 182 za I L), (fun za I L rv I' L' => (xr_im 155 za I L ∧ xo_gbm 155 za I L rv I' L') ∨ (xr_im 182 za I L ∧ xo_gbm 182 za I L rv I' L'))), (50, 0, xr_pc, xo_pc)]) (M := ym_X11_restore) hE y_prog 60 rfl (by decide) (x_ctl_cons (x_or (xk_gb_155 hE) (xk_gb_182 hE)) (x_ctl_cons (xk_pc hE) x_ctl_nil)) (fun za I L ⟨k, h⟩ => by subst h; exact (by decide : 2 ≤ 2)) (fun za I L ⟨k, h⟩ => ?_)
  subst h
  refine And.intro ?_ ?_
  · intro t1
    exact ⟨by decide, k, rfl, Or.inr (Or.inr ⟨Or.inl (Or.inl t1), rfl, rfl, rfl⟩)⟩
  · intro t1
    refine And.intro ?_ ?_
    · intro t2
      exact ⟨by decide, k, rfl, Or.inr (Or.inr ⟨Or.inl (Or.inr (by omega)), rfl, rfl, rfl⟩)⟩
    · intro t2
      have hk : k = 0 ∨ k = 1 := by omega
      rcases hk with rfl | rfl
      · refine And.intro (by decide) ?_
        refine ⟨156, rfl, ?_⟩
        intro z (hz : z = I 155 3) (bz : 0 ≤ z ∧ z ≤ 1)
        refine And.intro ?_ ?_
        · intro t3
          refine And.intro (by decide) ?_
          refine ⟨156, rfl, ?_⟩
          refine And.intro (Or.inl rfl) ?_
          rintro rv I1 L1 (⟨_, rfl, rfl, rfl⟩ | ⟨h, _⟩)
          · refine And.intro rfl ?_
            rintro rv I2 L2 ⟨rfl, rfl, rfl⟩
            exact ⟨by decide, 0, rfl, Or.inl ⟨rfl, fun q => t3 (hz.trans q), rfl, rfl, rfl⟩⟩
          · exact absurd (show [xR 156, xR 5, xR 30, xR 122] = [xR 183, xR 5, xR 30, xR 122] from h) (by decide)
        · intro t3
          exact ⟨by decide, 0, rfl, Or.inr (Or.inr ⟨Or.inr (Or.inl ⟨rfl, by omega⟩), rfl, rfl, rfl⟩)⟩
      · refine And.intro (by decide) ?_
        refine ⟨183, rfl, ?_⟩
        intro z (hz : z = I 182 3) (bz : 0 ≤ z ∧ z ≤ 1)
        refine And.intro ?_ ?_
        · intro t3
          refine And.intro (by decide) ?_
          refine ⟨183, rfl, ?_⟩
          refine And.intro (Or.inr rfl) ?_
          rintro rv I1 L1 (⟨h, _⟩ | ⟨_, rfl, rfl, rfl⟩)
          · exact absurd (show [xR 183, xR 5, xR 30, xR 122] = [xR 156, xR 5, xR 30, xR 122] from h) (by decide)
          · refine And.intro rfl ?_
            rintro rv I2 L2 ⟨rfl, rfl, rfl⟩
            exact ⟨by decide, 1, rfl, Or.inr (Or.inl ⟨rfl, fun q => t3 (hz.trans q), rfl, rfl, rfl⟩)⟩
        · intro t3
          exact ⟨by decide, 1, rfl, Or.inr (Or.inr ⟨Or.inr (Or.inr ⟨rfl, by omega⟩), rfl, rfl, rfl⟩)⟩
/-! count -/
def cnC (I : xF) (w : Int) : Int := if w = 0 then I 4 0 else if w = 1 then I 4 1 else if w = 2 then I 4 2 else if w = 3 then I 4 4 else if w = 4 then I 4 5 else if w = 5 then I 4 6 else if w = 6 then I 4 7 else if w = 7 then I 1 2 else -1
def cnR (I : xF) (w : Int) : Int := if w = 7 then I 209 2 else if 0 ≤ w ∧ w ≤ 6 then I 211 w.toNat else -1
def xo_cnC : xPost := fun za I L rv I' L' => ∃ w : Int, za = [xR 1, .inl w] ∧ I' = I ∧ L' = L ∧ rv = some (.inl (cnC I w))
theorem xk_cnC (hE : z_EX EX) : x_Ok EX l zTB zNT kc D vwCl xb yTY ad yP0 154 0 xr_w xo_cnC := by
  refine x_meth (M := ym_X11_count) hE y_prog 40 rfl (by decide) x_none_ok (fun za I L ⟨w, h⟩ => by subst h; exact (by decide : 2 ≤ 2)) (fun za I L ⟨w, h⟩ => ?_)
  subst h
  refine And.intro ?_ ?_
  · refine And.intro ?_ ?_
    · intro t1
      obtain rfl : w = 0 := by omega
      intro z (hz : z = I 4 0) _
      exact ⟨0, rfl, rfl, rfl, by rw [hz]; rfl⟩
    refine And.intro ?_ ?_
    · intro t1
      obtain rfl : w = 1 := by omega
      intro z (hz : z = I 4 1) _
      exact ⟨1, rfl, rfl, rfl, by rw [hz]; rfl⟩
    refine And.intro ?_ ?_
    · intro t1
      obtain rfl : w = 2 := by omega
      intro z (hz : z = I 4 2) _
      exact ⟨2, rfl, rfl, rfl, by rw [hz]; rfl⟩
    refine And.intro ?_ ?_
    · intro t1
      obtain rfl : w = 3 := by omega
      intro z (hz : z = I 4 4) _
      exact ⟨3, rfl, rfl, rfl, by rw [hz]; rfl⟩
    refine And.intro ?_ ?_
    · intro t1
      obtain rfl : w = 4 := by omega
      intro z (hz : z = I 4 5) _
      exact ⟨4, rfl, rfl, rfl, by rw [hz]; rfl⟩
    refine And.intro ?_ ?_
    · intro t1
      obtain rfl : w = 5 := by omega
      intro z (hz : z = I 4 6) _
      exact ⟨5, rfl, rfl, rfl, by rw [hz]; rfl⟩
    refine And.intro ?_ ?_
    · intro t1
      obtain rfl : w = 6 := by omega
      intro z (hz : z = I 4 7) _
      exact ⟨6, rfl, rfl, rfl, by rw [hz]; rfl⟩
    refine And.intro ?_ ?_
    · intro t1
      obtain rfl : w = 7 := by omega
      intro z (hz : z = I 1 2) _
      exact ⟨7, rfl, rfl, rfl, by rw [hz]; rfl⟩
    trivial
  · intro t1
    refine ⟨w, rfl, rfl, rfl, ?_⟩
    unfold cnC
    rw [if_neg (by omega), if_neg (by omega), if_neg (by omega), if_neg (by omega), if_neg (by omega), if_neg (by omega), if_neg (by omega), if_neg (by omega)]
def xr_wm : xPre := fun za _ _ => ∃ k : Int, za = [xR 210, .inl k]
def xo_cnR : xPost := fun za I L rv I' L' => ∃ w : Int, za = [xR 210, .inl w] ∧ I' = x_u I 209 0 0 ∧ L' = L ∧ rv = some (.inl (cnR I w))
set_option maxRecDepth 20000 in
theorem xk_cnR (hE : z_EX EX) : x_Ok EX l zTB zNT kc D vwCl xb yTY ad yP0 275 1 xr_wm xo_cnR := by
  refine x_meth (ct := x_ctl [(166, 0, xr_ii, xo_ii)]) (M := ym_X12_count) hE y_prog 40 rfl (by decide) (x_ctl_cons (xk_ii hE) x_ctl_nil) (fun za I L ⟨w, h⟩ => by subst h; exact (by decide : 2 ≤ 2)) (fun za I L ⟨w, h⟩ => ?_)
  subst h
  refine And.intro (by decide) ?_
  refine And.intro ?_ ?_
  · intro t1
    refine And.intro ⟨w, 0, 6, rfl⟩ ?_
    rintro rv I1 L1 ⟨g1, g2, v, a, b, hx, ⟨h1, h2, rfl⟩ | ⟨h1, rfl⟩⟩
    · subst g1
      subst g2
      cases hx
      refine And.intro (fun q => absurd q (by decide)) (fun _ => ?_)
      refine And.intro (show 0 ≤ w ∧ w < 299 by omega) ?_
      intro z (hz : z = I 211 w.toNat) _
      refine ⟨w, rfl, rfl, rfl, ?_⟩
      unfold cnR
      rw [if_neg (by omega), if_pos (by omega), hz]
    · subst g1
      subst g2
      cases hx
      refine And.intro (fun _ => ?_) (fun q => absurd rfl q)
      refine ⟨w, rfl, rfl, rfl, ?_⟩
      unfold cnR
      rw [if_neg (by omega), if_neg (by omega)]
  · intro t1
    intro z (hz : z = I 209 2) _
    refine ⟨w, rfl, rfl, rfl, ?_⟩
    unfold cnR
    rw [if_pos (by omega), hz]
/-! image, restore of the reference -/
def x_sgK : List (Nat × Int × Int) := match y_T yTY 222 with
  | some (.inr (.inl (_, sg))) => sg
  | _ => []
theorem x_sgK0 : ∀ k : Fin 299, y_seg x_sgK k.val = y_seg x_sgS k.val := by decide +kernel
theorem x_sgK1 : ∀ k : Fin 299, y_seg x_sgK (299 + k.val) = y_seg x_sgS k.val := by decide +kernel
theorem x_sgKk {κ i : Nat} (hκ : κ ≤ 1) (hi : i < 299) : y_seg x_sgK (299 * κ + i) = y_seg x_sgS i := by
  match κ, hκ with
  | 0, _ => rw [Nat.mul_zero, Nat.zero_add]; exact x_sgK0 ⟨i, hi⟩
  | 1, _ => exact x_sgK1 ⟨i, hi⟩
def imA (κ i : Nat) (I : xF) : xF := fun r c => if r = 222 ∧ (299 * κ ≤ c ∧ c < 299 * κ + i) then I 211 (c - 299 * κ) else if r = 209 ∧ c = 0 then 0 else I r c
def imL (κ i : Nat) (L : xF) : xF := fun r c => if r = 223 ∧ (22 * κ ≤ c ∧ c < 22 * κ + i) then L 214 (c - 22 * κ) else L r c
theorem imA_0 (κ : Nat) (I : xF) : imA κ 0 I = x_u I 209 0 0 := funext (fun r => funext (fun c => by
  unfold imA
  rw [if_neg (by omega), x_u_if]))
theorem imL_0 (κ : Nat) (L : xF) : imL κ 0 L = L := funext (fun r => funext (fun c => by
  unfold imL
  rw [if_neg (by omega)]))
theorem imA_s (κ i : Nat) (I : xF) : x_u (imA κ i I) 222 (299 * κ + i) (I 211 i) = imA κ (i + 1) I := funext (fun r => funext (fun c => by
  rw [x_u_if]
  unfold imA
  by_cases h : r = 222 ∧ c = 299 * κ + i
  · rw [if_pos h, if_pos (by omega), h.2, Nat.add_sub_cancel_left]
  · rw [if_neg h]
    by_cases h2 : r = 222 ∧ (299 * κ ≤ c ∧ c < 299 * κ + i)
    · rw [if_pos h2, if_pos (by omega)]
    · rw [if_neg h2, if_neg (show ¬ (r = 222 ∧ (299 * κ ≤ c ∧ c < 299 * κ + (i + 1))) by omega)]))
theorem imL_s (κ i : Nat) (L : xF) : x_u (imL κ i L) 223 (22 * κ + i) (L 214 i) = imL κ (i + 1) L := funext (fun r => funext (fun c => by
  rw [x_u_if]
  unfold imL
  by_cases h : r = 223 ∧ c = 22 * κ + i
  · rw [if_pos h, if_pos (by omega), h.2, Nat.add_sub_cancel_left]
  · rw [if_neg h]
    by_cases h2 : r = 223 ∧ (22 * κ ≤ c ∧ c < 22 * κ + i)
    · rw [if_pos h2, if_pos (by omega)]
    · rw [if_neg h2, if_neg (by omega)]))
def xo_imm : xPost := fun za I L rv I' L' => ∃ k : Int, za = [xR 210, .inl k] ∧ ((∃ κ : Nat, κ ≤ 1 ∧ k = (κ : Int) ∧ rv = some (.inl 1) ∧ I' = x_u (imA κ 299 I) 224 κ 1 ∧ L' = imL κ 22 L) ∨ ((k < 0 ∨ 2 ≤ k) ∧ rv = some (.inl 0) ∧ I' = x_u I 209 0 0 ∧ L' = L))
def x_imI (za : List xV) (I L : xF) (m pc : Nat) (lv : List (Nat × xV)) (sv : List xV) (I' L' : xF) : Prop := sv = [] ∧ ∃ κ i : Nat, κ ≤ 1 ∧ za = [xR 210, .inl (κ : Int)] ∧ lv = [(0, xR 210), (1, .inl (κ : Int)), (2, .inl (i : Int))] ∧ ((pc = 18 ∧ i ≤ 299 ∧ m = 1000 + (299 - i) ∧ I' = imA κ i I ∧ L' = L) ∨ (pc = 51 ∧ i ≤ 22 ∧ m = 22 - i ∧ I' = imA κ 299 I ∧ L' = imL κ i L))
set_option maxRecDepth 20000 in
set_option maxHeartbeats 4000000 in
theorem xk_imm (hE : z_EX EX) : x_Ok EX l zTB zNT kc D vwCl xb yTY ad yP0 273 1 xr_wm xo_imm := by
  refine x_loop2 (ct := x_ctl [(166, 0, xr_ii, xo_ii)]) (M := ym_X12_image) hE y_prog 60 rfl (by decide) (x_ctl_cons (xk_ii hE) x_ctl_nil) (fun za I L ⟨w, h⟩ => by subst h; exact (by decide : 2 ≤ 3)) (x_cut2 18 51) x_imI (fun za I L ⟨k, h⟩ => ?_) (fun za I L _ m pc lv sv I' L' hc hi => ?_)
  · subst h
    refine And.intro (by decide) ?_
    refine And.intro ⟨k, 0, 1, rfl⟩ ?_
    rintro rv I1 L1 ⟨g1, g2, v, a, b, hx, ⟨h1, h2, rfl⟩ | ⟨h1, rfl⟩⟩
    · subst g1
      subst g2
      cases hx
      refine And.intro (fun _ => ?_) (fun q => absurd q (by decide))
      obtain ⟨κ, rfl⟩ : ∃ κ : Nat, k = (κ : Int) := ⟨k.toNat, by omega⟩
      exact ⟨1299, [(0, xR 210), (1, .inl (κ : Int)), (2, .inl ((0 : Nat) : Int))], ⟨rfl, rfl, rfl, trivial⟩, rfl, κ, 0, by omega, rfl, rfl, Or.inl ⟨rfl, by omega, rfl, (imA_0 κ I).symm, rfl⟩⟩
    · subst g1
      subst g2
      cases hx
      refine And.intro (fun q => absurd rfl q) (fun _ => ?_)
      exact ⟨by decide, k, rfl, Or.inr ⟨by omega, rfl, rfl, rfl⟩⟩
  · obtain ⟨rfl, κ, i, hκ, rfl, rfl, ⟨rfl, hi, rfl, rfl, rfl⟩ | ⟨rfl, hi, rfl, rfl, rfl⟩⟩ := hi
    · refine And.intro ?_ ?_
      · intro t1
        have h299 : i = 299 := by omega
        subst h299
        exact ⟨22, [(0, xR 210), (1, .inl (κ : Int)), (2, .inl ((0 : Nat) : Int))], by omega, ⟨rfl, rfl, rfl, trivial⟩, rfl, κ, 0, hκ, rfl, rfl, Or.inr ⟨rfl, by omega, rfl, rfl, (imL_0 κ _).symm⟩⟩
      · intro t1
        refine Or.inl ⟨by omega, ?_⟩
        refine Or.inl ⟨by omega, ?_⟩
        refine And.intro (show 0 ≤ (i : Int) ∧ (i : Int) < 299 by omega) ?_
        intro z hz hsz
        have hti : (299 * (κ : Int) + (i : Int)).toNat = 299 * κ + i := by omega
        have hz : z = imA κ i I 211 i := hz
        have hz : z = I 211 i := by
          rw [hz]
          unfold imA
          rw [if_neg (by omega), if_neg (by omega)]
        refine And.intro (show 0 ≤ 299 * (κ : Int) + (i : Int) ∧ 299 * (κ : Int) + (i : Int) < 598 by omega) ?_
        refine And.intro (fun q hq => ?_) ?_
        · have hq : y_seg x_sgK (299 * (κ : Int) + (i : Int)).toNat = some q := hq
          rw [hti, x_sgKk hκ (by omega)] at hq
          exact hsz q (by show y_seg x_sgS ((i : Int)).toNat = some q; rw [show ((i : Int)).toNat = i by omega]; exact hq)
        have hst : x_u (imA κ i I) 222 (299 * (κ : Int) + (i : Int)).toNat z = imA κ (i + 1) I := by rw [hti, hz, imA_s]
        exact Or.inl ⟨by omega, 1000 + (299 - (i + 1)), [(0, xR 210), (1, .inl (κ : Int)), (2, .inl ((i + 1 : Nat) : Int))], by omega, ⟨rfl, rfl, rfl, trivial⟩, rfl, κ, i + 1, hκ, rfl, rfl, Or.inl ⟨rfl, by omega, rfl, hst, rfl⟩⟩
    · refine And.intro ?_ ?_
      · intro t1
        have h22 : i = 22 := by omega
        subst h22
        have htk : ((κ : Int)).toNat = κ := by omega
        refine And.intro ⟨(show 0 ≤ (κ : Int) ∧ (κ : Int) < 2 by omega), Or.inr rfl⟩ ?_
        refine And.intro (fun q hq => ?_) ?_
        · rw [x_seg1 (by omega)] at hq
          cases hq
          exact ⟨by decide, by decide⟩
        exact ⟨by decide, (κ : Int), rfl, Or.inl ⟨κ, hκ, rfl, rfl, rfl, rfl⟩⟩
      · intro t1
        refine Or.inl ⟨by omega, ?_⟩
        refine Or.inl ⟨by omega, ?_⟩
        refine And.intro (show 0 ≤ (i : Int) ∧ (i : Int) < 44 by omega) ?_
        intro z hz _
        have hti : (22 * (κ : Int) + (i : Int)).toNat = 22 * κ + i := by omega
        have hz : z = imL κ i L 214 i := hz
        have hz : z = L 214 i := by
          rw [hz]
          unfold imL
          rw [if_neg (by omega)]
        refine And.intro (show 0 ≤ 22 * (κ : Int) + (i : Int) ∧ 22 * (κ : Int) + (i : Int) < 44 by omega) ?_
        have hst : x_u (imL κ i L) 223 (22 * (κ : Int) + (i : Int)).toNat z = imL κ (i + 1) L := by rw [hti, hz, imL_s]
        exact Or.inl ⟨by omega, 22 - (i + 1), [(0, xR 210), (1, .inl (κ : Int)), (2, .inl ((i + 1 : Nat) : Int))], by omega, ⟨rfl, rfl, rfl, trivial⟩, rfl, κ, i + 1, hκ, rfl, rfl, Or.inr ⟨rfl, by omega, rfl, rfl, hst⟩⟩
def reA (κ i : Nat) (I : xF) : xF := fun r c => if r = 211 ∧ c < i then I 222 (299 * κ + c) else if r = 209 ∧ c = 0 then 0 else I r c
def reL (κ i : Nat) (L : xF) : xF := fun r c => if r = 214 ∧ c < i then L 223 (22 * κ + c) else L r c
theorem reA_0 (κ : Nat) (I : xF) : reA κ 0 I = x_u I 209 0 0 := funext (fun r => funext (fun c => by
  unfold reA
  rw [if_neg (by omega), x_u_if]))
theorem reL_0 (κ : Nat) (L : xF) : reL κ 0 L = L := funext (fun r => funext (fun c => by
  unfold reL
  rw [if_neg (by omega)]))
theorem reA_s (κ i : Nat) (I : xF) : x_u (reA κ i I) 211 i (I 222 (299 * κ + i)) = reA κ (i + 1) I := funext (fun r => funext (fun c => by
  rw [x_u_if]
  unfold reA
  by_cases h : r = 211 ∧ c = i
  · rw [if_pos h, if_pos (by omega), h.2]
  · rw [if_neg h]
    by_cases h2 : r = 211 ∧ c < i
    · rw [if_pos h2, if_pos (by omega)]
    · rw [if_neg h2, if_neg (show ¬ (r = 211 ∧ c < i + 1) by omega)]))
theorem reL_s (κ i : Nat) (L : xF) : x_u (reL κ i L) 214 i (L 223 (22 * κ + i)) = reL κ (i + 1) L := funext (fun r => funext (fun c => by
  rw [x_u_if]
  unfold reL
  by_cases h : r = 214 ∧ c = i
  · rw [if_pos h, if_pos (by omega), h.2]
  · rw [if_neg h]
    by_cases h2 : r = 214 ∧ c < i
    · rw [if_pos h2, if_pos (by omega)]
    · rw [if_neg h2, if_neg (by omega)]))
def xo_rsm : xPost := fun za I L rv I' L' => ∃ k : Int, za = [xR 210, .inl k] ∧ ((∃ κ : Nat, κ ≤ 1 ∧ k = (κ : Int) ∧ I 224 κ ≠ 0 ∧ rv = some (.inl 1) ∧ I' = x_u (reA κ 299 I) 209 23 0 ∧ L' = reL κ 22 L) ∨ (((k < 0 ∨ 2 ≤ k) ∨ ∃ κ : Nat, κ ≤ 1 ∧ k = (κ : Int) ∧ I 224 κ = 0) ∧ rv = some (.inl 0) ∧ I' = x_u I 209 0 0 ∧ L' = L))
def x_rsI (za : List xV) (I L : xF) (m pc : Nat) (lv : List (Nat × xV)) (sv : List xV) (I' L' : xF) : Prop := sv = [] ∧ ∃ κ i : Nat, κ ≤ 1 ∧ I 224 κ ≠ 0 ∧ za = [xR 210, .inl (κ : Int)] ∧ lv = [(0, xR 210), (1, .inl (κ : Int)), (2, .inl (i : Int))] ∧ ((pc = 27 ∧ i ≤ 299 ∧ m = 1000 + (299 - i) ∧ I' = reA κ i I ∧ L' = L) ∨ (pc = 60 ∧ i ≤ 22 ∧ m = 22 - i ∧ I' = reA κ 299 I ∧ L' = reL κ i L))
set_option maxRecDepth 20000 in
set_option maxHeartbeats 4000000 in
theorem xk_rsm (hE : z_EX EX) : x_Ok EX l zTB zNT kc D vwCl xb yTY ad yP0 274 1 xr_wm xo_rsm := by
  refine x_loop2 (ct := x_ctl [(166, 0, xr_ii, xo_ii)]) (M := ym_X12_restore) hE y_prog 60 rfl (by decide) (x_ctl_cons (xk_ii hE) x_ctl_nil) (fun za I L ⟨w, h⟩ => by subst h; exact (by decide : 2 ≤ 3)) (x_cut2 27 60) x_rsI (fun za I L ⟨k, h⟩ => ?_) (fun za I L _ m pc lv sv I' L' hc hi => ?_)
  · subst h
    refine And.intro (by decide) ?_
    refine And.intro ⟨k, 0, 1, rfl⟩ ?_
    rintro rv I1 L1 ⟨g1, g2, v, a, b, hx, ⟨h1, h2, rfl⟩ | ⟨h1, rfl⟩⟩
    · subst g1
      subst g2
      cases hx
      refine And.intro (fun q => absurd q (by decide)) (fun _ => ?_)
      obtain ⟨κ, rfl⟩ : ∃ κ : Nat, k = (κ : Int) := ⟨k.toNat, by omega⟩
      have htk : ((κ : Int)).toNat = κ := by omega
      refine And.intro (show 0 ≤ (κ : Int) ∧ (κ : Int) < 2 by omega) ?_
      intro z hz _
      have hz : z = I 224 κ := hz
      refine And.intro ?_ ?_
      · intro t3
        exact ⟨1299, [(0, xR 210), (1, .inl (κ : Int)), (2, .inl ((0 : Nat) : Int))], ⟨rfl, rfl, rfl, trivial⟩, rfl, κ, 0, by omega, fun q => t3 (hz.trans q), rfl, rfl, Or.inl ⟨rfl, by omega, rfl, (reA_0 κ I).symm, rfl⟩⟩
      · intro t3
        exact ⟨by decide, (κ : Int), rfl, Or.inr ⟨Or.inr ⟨κ, by omega, rfl, by omega⟩, rfl, rfl, rfl⟩⟩
    · subst g1
      subst g2
      cases hx
      refine And.intro (fun _ => ?_) (fun q => absurd rfl q)
      exact ⟨by decide, k, rfl, Or.inr ⟨Or.inl (by omega), rfl, rfl, rfl⟩⟩
  · obtain ⟨rfl, κ, i, hκ, h224, rfl, rfl, ⟨rfl, hi, rfl, rfl, rfl⟩ | ⟨rfl, hi, rfl, rfl, rfl⟩⟩ := hi
    · refine And.intro ?_ ?_
      · intro t1
        have h299 : i = 299 := by omega
        subst h299
        exact ⟨22, [(0, xR 210), (1, .inl (κ : Int)), (2, .inl ((0 : Nat) : Int))], by omega, ⟨rfl, rfl, rfl, trivial⟩, rfl, κ, 0, hκ, h224, rfl, rfl, Or.inr ⟨rfl, by omega, rfl, rfl, (reL_0 κ _).symm⟩⟩
      · intro t1
        have hti : (299 * (κ : Int) + (i : Int)).toNat = 299 * κ + i := by omega
        have hti2 : ((i : Int)).toNat = i := by omega
        refine Or.inl ⟨by omega, ?_⟩
        refine Or.inl ⟨by omega, ?_⟩
        refine And.intro (show 0 ≤ 299 * (κ : Int) + (i : Int) ∧ 299 * (κ : Int) + (i : Int) < 598 by omega) ?_
        intro z hz hsz
        have hz : z = reA κ i I 222 (299 * (κ : Int) + (i : Int)).toNat := hz
        have hz : z = I 222 (299 * κ + i) := by
          rw [hz, hti]
          unfold reA
          rw [if_neg (by omega), if_neg (by omega)]
        refine And.intro (show 0 ≤ (i : Int) ∧ (i : Int) < 299 by omega) ?_
        refine And.intro (fun q hq => ?_) ?_
        · have hq : y_seg x_sgS ((i : Int)).toNat = some q := hq
          rw [hti2] at hq
          exact hsz q (by show y_seg x_sgK (299 * (κ : Int) + (i : Int)).toNat = some q; rw [hti, x_sgKk hκ (by omega)]; exact hq)
        have hst : x_u (reA κ i I) 211 ((i : Int)).toNat z = reA κ (i + 1) I := by rw [hti2, hz, reA_s]
        exact Or.inl ⟨by omega, 1000 + (299 - (i + 1)), [(0, xR 210), (1, .inl (κ : Int)), (2, .inl ((i + 1 : Nat) : Int))], by omega, ⟨rfl, rfl, rfl, trivial⟩, rfl, κ, i + 1, hκ, h224, rfl, rfl, Or.inl ⟨rfl, by omega, rfl, hst, rfl⟩⟩
    · refine And.intro ?_ ?_
      · intro t1
        have h22 : i = 22 := by omega
        subst h22
        refine And.intro (by decide) ?_
        exact ⟨by decide, (κ : Int), rfl, Or.inl ⟨κ, hκ, rfl, h224, rfl, rfl, rfl⟩⟩
      · intro t1
        have hti : (22 * (κ : Int) + (i : Int)).toNat = 22 * κ + i := by omega
        have hti2 : ((i : Int)).toNat = i := by omega
        refine Or.inl ⟨by omega, ?_⟩
        refine Or.inl ⟨by omega, ?_⟩
        refine And.intro (show 0 ≤ 22 * (κ : Int) + (i : Int) ∧ 22 * (κ : Int) + (i : Int) < 44 by omega) ?_
        intro z hz _
        have hz : z = reL κ i L 223 (22 * (κ : Int) + (i : Int)).toNat := hz
        have hz : z = L 223 (22 * κ + i) := by
          rw [hz, hti]
          unfold reL
          rw [if_neg (by omega)]
        refine And.intro (show 0 ≤ (i : Int) ∧ (i : Int) < 44 by omega) ?_
        have hst : x_u (reL κ i L) 214 ((i : Int)).toNat z = reL κ (i + 1) L := by rw [hti2, hz, reL_s]
        exact Or.inl ⟨by omega, 22 - (i + 1), [(0, xR 210), (1, .inl (κ : Int)), (2, .inl ((i + 1 : Nat) : Int))], by omega, ⟨rfl, rfl, rfl, trivial⟩, rfl, κ, i + 1, hκ, h224, rfl, rfl, Or.inr ⟨rfl, by omega, rfl, rfl, hst⟩⟩
end XR
