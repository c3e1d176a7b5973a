/-! ===== the class's capital(), exactly; feed() on both sides ===== -/
section XP
variable {EX : (Nat → Prop) → State → Heap → Prop} {l : Launch} {kc : Nat → ClassId} {D : va_G} {xb : Nat} {ad : Nat → Option Nat}
/-- the store that a world is -/
def x_of (u : va_W) (I : xF) : xF := fun r k => match y_at u r k with
  | some x => x.toInt
  | none => I r k
def x_ofl (u : va_W) (L : xF) : xF := fun r k => match x_at u r k with
  | some x => x.toInt
  | none => L r k
theorem x_of_ag (u : va_W) (I L : xF) : x_ag u (x_of u I) (x_ofl u L) := ⟨fun r k x h => by unfold x_of; rw [h], fun r k x h => by unfold x_ofl; rw [h]⟩
/-- a method that is known by its bounds and effects alone -/
theorem x_ofY {K : yCon} {za0 : List xV} (h : y_ConOk EX l zTB zNT kc D vwCl xb yTY [] (fun _ => True) ad yP0 K) (e1 : K.2.2.1 = []) (e2 : K.2.2.2.2.2.2.2 = []) (e3 : K.2.2.2.1 = [(none, [], false)]) (hza : ∀ av, z_L (x_v ad) za0 av → z_L (y_pv ad) K.2.1 av) : x_Ok EX l zTB zNT kc D vwCl xb yTY ad yP0 K.1 K.2.2.2.2.2.1 (fun za _ _ => za = za0) (fun _ I _ rv I' _ => rv = none ∧ ∀ r k, y_in K.2.2.2.2.1 r k = false → I' r k = I r k) := by
  intro y cc maxL ret tab na sp hP d hd za av ws sz I L hav hpre hag hwt had
  subst hpre
  refine y_Met_conv (h y cc maxL ret tab na sp hP d hd av ws sz [] (hza av hav) (fun f hf => by rw [e1] at hf; cases hf) (fun _ => trivial) (fun i g hg => by simp at hg) hwt had (by rw [e2]; trivial)) (fun rv u ⟨o, ho, g1, g2, g3, g4, g5, g6, g7⟩ => ?_)
  rw [e3] at ho
  have := List.mem_singleton.mp ho
  subst this
  have hrv : rv = none := by
    cases rv with
    | none => rfl
    | some _ => exact g1.elim
  subst hrv
  refine ⟨none, x_of u I, x_ofl u L, trivial, x_of_ag u I L, ⟨rfl, fun r k hrk => ?_⟩, g5, g7⟩
  have h9 := g6 r k hrk
  unfold x_of
  rw [h9]
  split
  next x hx => exact hag.1 r k x hx
  next => rfl
theorem x_ar2 {i j : Nat} {av : List Value} (h : z_L (x_v ad) [xR i, xR j] av) : z_L (y_pv ad) [.inr (some i), .inr (some j)] av := by
  match av, h with
  | [_, _], h => exact h
  | [], h => exact h.elim
  | [_], h => exact h.2.elim
  | _ :: _ :: _ :: _, h => exact h.2.2.elim
theorem x_ar1 {i : Nat} {av : List Value} (h : z_L (x_v ad) [xR i] av) : z_L (y_pv ad) [.inr (some i)] av := by
  match av, h with
  | [_], h => exact h
  | [], h => exact h.elim
  | _ :: _ :: _, h => exact h.2.elim
theorem xy_RI : y_RI [] (fun _ => True) := fun _ _ _ _ => trivial
theorem xy_40 : y_ckE yP0 yTY zTF [] [] [] yk_40 [] 900 = true := by decide +kernel
theorem xy_119 : y_ckE yP0 yTY zTF [] [] [] yk_119 yh_119 900 = true := by decide +kernel
theorem xy_119h : ∀ h ∈ yh_119, y_ckH yP0 yTY zTF [] [] [] yk_119 yh_119 900 h = true := List.forall_mem_cons.mpr ⟨by decide +kernel, fun _ h => absurd h List.not_mem_nil⟩
def xo_fr40 : xPost := fun _ I _ rv I' _ => rv = none ∧ ∀ r k, y_in yk_40.2.2.2.2.1 r k = false → I' r k = I r k
def xo_fr119 : xPost := fun _ I _ rv I' _ => rv = none ∧ ∀ r k, y_in yk_119.2.2.2.2.1 r k = false → I' r k = I r k
def xr_lw : xPre := fun za _ _ => za = [xR 5, xR 18]
def xr_bg : xPre := fun za _ _ => za = [xR 30]
theorem xk_lw (hE : z_EX EX) : x_Ok EX l zTB zNT kc D vwCl xb yTY ad yP0 32 1 xr_lw xo_fr40 := x_ofY (K := yk_40) (za0 := [xR 5, xR 18]) (y_chk_ok (RC := []) hE xy_RI y_prog (CT := []) (fun j K' hK' => by simp [y_cget] at hK') xy_40 (fun _ h => absurd h List.not_mem_nil)) rfl rfl rfl (fun av h => x_ar2 h)
theorem xk_bg (hE : z_EX EX) : x_Ok EX l zTB zNT kc D vwCl xb yTY ad yP0 67 1 xr_bg xo_fr119 := x_ofY (K := yk_119) (za0 := [xR 30]) (y_chk_ok (RC := []) hE xy_RI y_prog (CT := []) (fun j K' hK' => by simp [y_cget] at hK') xy_119 xy_119h) rfl rfl rfl (fun av h => x_ar1 h)
def xr_ct : xPre := fun za _ _ => za = [xR 1]
def xo_ct : xPost := fun _ I L rv I' L' => rv = none ∧ L' = L ∧ I' = x_u (x_u I 1 2 0) 0 10 (I 1 9)
theorem xk_ct (hE : z_EX EX) : x_Ok EX l zTB zNT kc D vwCl xb yTY ad yP0 155 0 xr_ct xo_ct := by
  refine x_meth (M := ym_X11_closeTape) hE y_prog 30 rfl (by decide) x_none_ok (fun za I L h => by subst h; exact (by decide : 1 ≤ 1)) (fun za I L h => ?_)
  subst h
  refine And.intro (by decide) ?_
  intro z (hz : z = I 1 9) (bz : 0 ≤ z ∧ z ≤ 4)
  refine And.intro bz ?_
  exact ⟨rfl, rfl, by rw [hz]⟩
def xr_sc : xPre := fun za _ _ => za = [xR 122]
def xo_sc : xPost := fun _ I L rv I' L' => rv = none ∧ L' = L ∧ I' = x_u (x_u I 121 4 0) 121 5 0
theorem xk_sc (hE : z_EX EX) : x_Ok EX l zTB zNT kc D vwCl xb yTY ad yP0 54 0 xr_sc xo_sc := by
  refine x_meth (M := ym_X7_clear) hE y_prog 30 rfl (by decide) x_none_ok (fun za I L h => by subst h; exact (by decide : 1 ≤ 1)) (fun za I L h => ?_)
  subst h
  refine And.intro (by decide) ?_
  refine And.intro (by decide) ?_
  exact ⟨rfl, rfl, rfl⟩
def xr_pc : xPre := fun za _ _ => za = [xR 39]
def xo_pc : xPost := fun _ I L rv I' L' => rv = none ∧ L' = L ∧ I' = x_u I 38 2 0
theorem xk_pc (hE : z_EX EX) : x_Ok EX l zTB zNT kc D vwCl xb yTY ad yP0 50 0 xr_pc xo_pc := by
  refine x_meth (M := ym_X6_clear) hE y_prog 30 rfl (by decide) x_none_ok (fun za I L h => by subst h; exact (by decide : 1 ≤ 1)) (fun za I L h => ?_)
  subst h
  refine And.intro (by decide) ?_
  exact ⟨rfl, rfl, rfl⟩
def xr_cc : xPre := fun za I _ => za = [xR 1] ∧ 0 ≤ I 1 2 ∧ I 1 2 ≤ 940
def xo_cc : xPost := fun _ I L rv I' L' => rv = some (.inl (p_ans (p_text (I 2) (I 1 2)))) ∧ I' 1 2 = 0
def ct_cc : List (Nat × Nat × xPre × xPost) := [(39, 5, xr_rt, xo_rt), (155, 0, xr_ct, xo_ct), (32, 1, xr_lw, xo_fr40), (67, 1, xr_bg, xo_fr119), (54, 0, xr_sc, xo_sc), (50, 0, xr_pc, xo_pc)]
theorem ct_cc_ok (hE : z_EX EX) : x_ctok EX l zTB zNT kc D vwCl xb yTY ad yP0 (x_ctl ct_cc) := x_ctl_cons (xk_rt hE) (x_ctl_cons (xk_ct hE) (x_ctl_cons (xk_lw hE) (x_ctl_cons (xk_bg hE) (x_ctl_cons (xk_sc hE) (x_ctl_cons (xk_pc hE) x_ctl_nil)))))
theorem xk_cc (hE : z_EX EX) : x_Ok EX l zTB zNT kc D vwCl xb yTY ad yP0 116 6 xr_cc xo_cc := by
  refine x_meth (M := ym_X11_capital) hE y_prog 60 rfl (by decide) (ct_cc_ok hE) (fun za I L ⟨h, _⟩ => by subst h; exact (by decide : 1 ≤ 2)) (fun za I L ⟨h, h0, h1⟩ => ?_)
  subst h
  refine And.intro ⟨rfl, h0, h1⟩ ?_
  intro rv I1 L1 hp
  have hp : c_text (p_text (I 2) (I 1 2)) rv I1 L1 := hp
  rcases hr : p_text (I 2) (I 1 2) with ⟨at0, f0⟩ | ⟨q, σ⟩
  · rw [hr] at hp
    obtain ⟨rfl, l1, l2⟩ := hp
    refine And.intro rfl ?_
    rintro rv I2 L2 ⟨rfl, rfl, rfl⟩
    refine And.intro (fun q => absurd rfl q) (fun _ => ?_)
    intro z (hz : z = I1 1 10) (bz : 0 ≤ z ∧ z ≤ 940)
    refine Or.inl ⟨by omega, ?_⟩
    refine ⟨?_, rfl⟩
    rw [hr, hz, l2]
    rfl
  · rw [hr] at hp
    obtain ⟨rfl, l1, l2, _⟩ := hp
    refine And.intro rfl ?_
    rintro rv I2 L2 ⟨rfl, rfl, rfl⟩
    refine And.intro (fun _ => ?_) (fun q => absurd q (by decide))
    refine And.intro rfl ?_
    rintro rv I3 L3 ⟨rfl, f3⟩
    refine And.intro rfl ?_
    rintro rv I4 L4 ⟨rfl, f4⟩
    refine And.intro rfl ?_
    rintro rv I5 L5 ⟨rfl, rfl, rfl⟩
    refine And.intro rfl ?_
    rintro rv I6 L6 ⟨rfl, rfl, rfl⟩
    intro z (hz : z = I4 16 2) _
    have e1 : I4 16 2 = q := by
      rw [f4 16 2 (by decide), f3 16 2 (by decide)]
      exact l2
    have e2 : I4 1 2 = 0 := by
      rw [f4 1 2 (by decide), f3 1 2 (by decide)]
      rfl
    refine ⟨?_, e2⟩
    rw [hr, hz, e1]
    rfl
/-! feed -/
def f_b (v : Int) (i : Nat) : Int := v / ((2 ^ (24 - 8 * i) : Nat) : Int) % 256
def f_n (b : Nat → Int) (n : Int) (v : Int) (c : Nat) : Nat → Int := fun j => if n.toNat ≤ j ∧ j < n.toNat + c then f_b v (j - n.toNat) else b j
theorem f_n_0 (b : Nat → Int) (n v : Int) : f_n b n v 0 = b := funext (fun j => by unfold f_n; rw [if_neg (by omega)])
theorem f_n_s {b : Nat → Int} {n v : Int} {c : Nat} (j : Nat) : f_n b n v (c + 1) j = if j = n.toNat + c then f_b v c else f_n b n v c j := by
  unfold f_n
  by_cases h : j = n.toNat + c
  · subst h
    rw [if_pos (by omega), if_pos rfl, show n.toNat + c - n.toNat = c by omega]
  · rw [if_neg h]
    by_cases h2 : n.toNat ≤ j ∧ j < n.toNat + c
    · rw [if_pos (by omega), if_pos h2]
    · rw [if_neg (by omega), if_neg h2]
def x_sF (r k : Nat) : Bool := (Nat.beq r 1 && Nat.beq k 2) || Nat.beq r 2
def xr_ad : xPre := fun za I _ => ∃ v : Int, za = [xR 2, .inl v] ∧ 0 ≤ I 1 2 ∧ I 1 2 ≤ 936
def xo_ad : xPost := fun za I L rv I' L' => ∃ v : Int, za = [xR 2, .inl v] ∧ rv = none ∧ L' = L ∧ x_fi x_sF I I' ∧ I' 1 2 = I 1 2 + 4 ∧ I' 2 = f_n (I 2) (I 1 2) v 4
theorem x_sh {i : Nat} (h : i < 4) : (24 - 8 * (i : Int) = 0 ∨ 24 - 8 * (i : Int) = 8 ∨ 24 - 8 * (i : Int) = 16 ∨ 24 - 8 * (i : Int) = 24) ∧ (24 - 8 * (i : Int)).toNat = 24 - 8 * i := by omega
theorem xk_ad (hE : z_EX EX) : x_Ok EX l zTB zNT kc D vwCl xb yTY ad yP0 98 0 xr_ad xo_ad := by
  refine x_loop (M := ym_X10_addNumber) hE y_prog 60 rfl (by decide) x_none_ok (fun za I L ⟨v, h, _⟩ => by subst h; exact (by decide : 2 ≤ 3)) (x_cut1 3) (fun za I L n pc lv sv I' L' => L' = L ∧ sv = [] ∧ x_fi x_sF I I' ∧ ∃ (v : Int) (i : Nat), za = [xR 2, .inl v] ∧ (0 ≤ I 1 2 ∧ I 1 2 ≤ 936) ∧ i ≤ 4 ∧ n = 4 - i ∧ lv = [(0, xR 2), (1, .inl v), (2, .inl (24 - 8 * (i : Int)))] ∧ I' 1 2 = I 1 2 + i ∧ I' 2 = f_n (I 2) (I 1 2) v i) (fun za I L ⟨v, h, hb⟩ => ?_) (fun za I L _ n pc lv sv I' L' hc hi => ?_)
  · subst h
    exact ⟨4, [(0, xR 2), (1, .inl v), (2, .inl (24 - 8 * ((0 : Nat) : Int)))], ⟨rfl, rfl, rfl, trivial⟩, rfl, rfl, x_fi_refl, v, 0, rfl, hb, by omega, rfl, rfl, by omega, (f_n_0 _ _ _).symm⟩
  · obtain rfl := x_cut1_ok hc
    obtain ⟨rfl, rfl, hfi, v, i, rfl, hb, hi, rfl, rfl, e12, e2⟩ := hi
    refine And.intro ?_ ?_
    · intro t1
      have : i = 4 := by omega
      subst this
      exact ⟨v, rfl, rfl, rfl, hfi, e12, e2⟩
    · intro t1
      obtain ⟨hs1, hs2⟩ := x_sh (show i < 4 by omega)
      intro z (hz : z = I' 1 2) _
      refine And.intro ?_ ?_
      · intro t2
        exact absurd t2 (by omega)
      · intro t2 z2 (hz2 : z2 = I' 1 2) _
        refine And.intro hs1 ?_
        intro w _ _ hw
        refine Or.inl ⟨rfl, ?_⟩
        refine And.intro (show 0 ≤ z2 ∧ z2 < 940 by omega) ?_
        refine And.intro (fun q hq => ?_) ?_
        · rw [x_seg1 (by omega)] at hq
          cases hq
          exact (show 0 ≤ w % 256 ∧ w % 256 ≤ 255 by omega)
        intro z3 (hz3 : z3 = x_u I' 2 z2.toNat (w % 256) 1 2) _
        have hz3 : z3 = I' 1 2 := hz3
        refine Or.inl ⟨by omega, ?_⟩
        refine And.intro (show 0 ≤ z3 + 1 ∧ z3 + 1 ≤ 940 by omega) ?_
        have hwb : w % 256 = f_b v i := by
          rw [hs2] at hw
          rw [hw]
          unfold f_b
          omega
        refine Or.inl ⟨by omega, 4 - (i + 1), [(0, xR 2), (1, .inl v), (2, .inl (24 - 8 * ((i + 1 : Nat) : Int)))], by omega, ⟨rfl, rfl, ?_, trivial⟩, rfl, rfl, x_fi_u (x_fi_u hfi rfl) rfl, v, i + 1, rfl, hb, by omega, rfl, rfl, (show z3 + 1 = I 1 2 + ((i + 1 : Nat) : Int) by omega), ?_⟩
        · show some (Sum.inl (24 - 8 * (i : Int) + -8)) = some (Sum.inl (24 - 8 * ((i + 1 : Nat) : Int)))
          rw [show 24 - 8 * (i : Int) + -8 = 24 - 8 * ((i + 1 : Nat) : Int) by omega]
        · refine funext (fun j => ?_)
          rw [f_n_s]
          show x_u (x_u I' 2 z2.toNat (w % 256)) 1 2 (z3 + 1) 2 j = _
          rw [x_u_r (by decide), x_u_if, hwb, ← e2, show z2.toNat = (I 1 2).toNat + i by omega]
          by_cases hj : j = (I 1 2).toNat + i
          · rw [if_pos ⟨rfl, hj⟩, if_pos hj]
          · rw [if_neg (fun q => hj q.2), if_neg hj]
def x_sG (r k : Nat) : Bool := (Nat.beq r 209 && Nat.beq k 2) || Nat.beq r 210
def xr_fo : xPre := fun za I _ => ∃ v : Int, za = [xR 210, .inl v] ∧ 0 ≤ I 209 2 ∧ I 209 2 ≤ 936
def xo_fo : xPost := fun za I L rv I' L' => ∃ v : Int, za = [xR 210, .inl v] ∧ rv = none ∧ L' = L ∧ x_fi x_sG I I' ∧ I' 209 2 = I 209 2 + 4 ∧ r_b I' = f_n (r_b I) (I 209 2) v 4
theorem xk_fo (hE : z_EX EX) : x_Ok EX l zTB zNT kc D vwCl xb yTY ad yP0 163 0 xr_fo xo_fo := by
  refine x_loop (M := ym_X12_four) hE y_prog 60 rfl (by decide) x_none_ok (fun za I L ⟨v, h, _⟩ => by subst h; exact (by decide : 2 ≤ 3)) (x_cut1 3) (fun za I L n pc lv sv I' L' => L' = L ∧ sv = [] ∧ x_fi x_sG I I' ∧ ∃ (v : Int) (i : Nat), za = [xR 210, .inl v] ∧ (0 ≤ I 209 2 ∧ I 209 2 ≤ 936) ∧ i ≤ 4 ∧ n = 4 - i ∧ lv = [(0, xR 210), (1, .inl v), (2, .inl (24 - 8 * (i : Int)))] ∧ I' 209 2 = I 209 2 + i ∧ r_b I' = f_n (r_b I) (I 209 2) v i) (fun za I L ⟨v, h, hb⟩ => ?_) (fun za I L _ n pc lv sv I' L' hc hi => ?_)
  · subst h
    exact ⟨4, [(0, xR 210), (1, .inl v), (2, .inl (24 - 8 * ((0 : Nat) : Int)))], ⟨rfl, rfl, rfl, trivial⟩, rfl, rfl, x_fi_refl, v, 0, rfl, hb, by omega, rfl, rfl, by omega, (f_n_0 _ _ _).symm⟩
  · obtain rfl := x_cut1_ok hc
    obtain ⟨rfl, rfl, hfi, v, i, rfl, hb, hi, rfl, rfl, e12, e2⟩ := hi
    refine And.intro ?_ ?_
    · intro t1
      have : i = 4 := by omega
      subst this
      exact ⟨v, rfl, rfl, rfl, hfi, e12, e2⟩
    · intro t1
      obtain ⟨hs1, hs2⟩ := x_sh (show i < 4 by omega)
      intro z2 (hz2 : z2 = I' 209 2) _
      refine And.intro (by omega) ?_
      rw [hs2]
      intro w w1 w2 hw
      refine And.intro ⟨(show 0 ≤ z2 ∧ z2 < 940 by omega), w1, w2⟩ ?_
      refine And.intro (fun q hq => ?_) ?_
      · rw [x_seg1 (by omega)] at hq
        cases hq
        exact ⟨w1, w2⟩
      intro z3 (hz3 : z3 = x_u I' 210 z2.toNat w 209 2) _
      have hz3 : z3 = I' 209 2 := hz3
      refine Or.inl ⟨by omega, ?_⟩
      refine And.intro (show 0 ≤ z3 + 1 ∧ z3 + 1 ≤ 940 by omega) ?_
      have hwb : w % 256 = f_b v i := hw
      refine Or.inl ⟨by omega, 4 - (i + 1), [(0, xR 210), (1, .inl v), (2, .inl (24 - 8 * ((i + 1 : Nat) : Int)))], by omega, ⟨rfl, rfl, ?_, trivial⟩, rfl, rfl, x_fi_u (x_fi_u hfi rfl) rfl, v, i + 1, rfl, hb, by omega, rfl, rfl, (show z3 + 1 = I 209 2 + ((i + 1 : Nat) : Int) by omega), ?_⟩
      · show some (Sum.inl (24 - 8 * (i : Int) + -8)) = some (Sum.inl (24 - 8 * ((i + 1 : Nat) : Int)))
        rw [show 24 - 8 * (i : Int) + -8 = 24 - 8 * ((i + 1 : Nat) : Int) by omega]
      · refine funext (fun j => ?_)
        rw [f_n_s, ← e2]
        show x_u (x_u I' 210 z2.toNat w) 209 2 (z3 + 1) 210 j % 256 = _
        rw [x_u_r (by decide), x_u_if, show z2.toNat = (I 209 2).toNat + i by omega]
        by_cases hj : j = (I 209 2).toNat + i
        · rw [if_pos ⟨rfl, hj⟩, if_pos hj]
          exact hwb
        · rw [if_neg (fun q => hj q.2), if_neg hj]
          rfl
/-- twenty bytes -/
def f_20 (b : Nat → Int) (n : Int) (v1 v2 v3 v4 v5 : Int) : Nat → Int := f_n (f_n (f_n (f_n (f_n b n v1 4) (n + 4) v2 4) (n + 8) v3 4) (n + 12) v4 4) (n + 16) v5 4
def xr_cf : xPre := fun za I _ => ∃ v1 v2 v3 v4 v5 : Int, za = [xR 1, .inl v1, .inl v2, .inl v3, .inl v4, .inl v5] ∧ 0 ≤ I 1 2 ∧ I 1 2 ≤ 940
def xo_cf : xPost := fun za I L rv I' L' => ∃ v1 v2 v3 v4 v5 : Int, za = [xR 1, .inl v1, .inl v2, .inl v3, .inl v4, .inl v5] ∧ ((920 < I 1 2 ∧ I' = I) ∨ (I 1 2 ≤ 920 ∧ x_fi x_sF I I' ∧ I' 1 2 = I 1 2 + 20 ∧ I' 2 = f_20 (I 2) (I 1 2) v1 v2 v3 v4 v5))
theorem xk_cf (hE : z_EX EX) : x_Ok EX l zTB zNT kc D vwCl xb yTY ad yP0 114 1 xr_cf xo_cf := by
  refine x_meth (ct := x_ctl [(98, 0, xr_ad, xo_ad)]) (M := ym_X11_feed) hE y_prog 60 rfl (by decide) (x_ctl_cons (xk_ad hE) x_ctl_nil) (fun za I L ⟨v1, v2, v3, v4, v5, h, _⟩ => by subst h; exact (by decide : 6 ≤ 6)) (fun za I L ⟨v1, v2, v3, v4, v5, h, h0, h1⟩ => ?_)
  subst h
  intro z (hz : z = I 1 2) _
  refine And.intro ?_ ?_
  · intro t1
    refine And.intro ⟨v1, rfl, by omega, by omega⟩ ?_
    rintro rv I1 L1 ⟨v, hv, rfl, rfl, f1, n1, b1⟩
    cases hv
    refine And.intro ⟨v2, rfl, by omega, by omega⟩ ?_
    rintro rv I2 L2 ⟨v, hv, rfl, rfl, f2, n2, b2⟩
    cases hv
    refine And.intro ⟨v3, rfl, by omega, by omega⟩ ?_
    rintro rv I3 L3 ⟨v, hv, rfl, rfl, f3, n3, b3⟩
    cases hv
    refine And.intro ⟨v4, rfl, by omega, by omega⟩ ?_
    rintro rv I4 L4 ⟨v, hv, rfl, rfl, f4, n4, b4⟩
    cases hv
    refine And.intro ⟨v5, rfl, by omega, by omega⟩ ?_
    rintro rv I5 L5 ⟨v, hv, rfl, rfl, f5, n5, b5⟩
    cases hv
    intro z2 _ _
    refine ⟨v1, v2, v3, v4, v5, rfl, Or.inr ⟨by omega, x_fi_trans f1 (x_fi_trans f2 (x_fi_trans f3 (x_fi_trans f4 f5))), by omega, ?_⟩⟩
    unfold f_20
    rw [b5, b4, b3, b2, b1, n4, n3, n2, n1, show I 1 2 + 4 + 4 + 4 + 4 = I 1 2 + 16 by omega, show I 1 2 + 4 + 4 + 4 = I 1 2 + 12 by omega, show I 1 2 + 4 + 4 = I 1 2 + 8 by omega]
  · intro t1
    exact ⟨v1, v2, v3, v4, v5, rfl, Or.inl ⟨by omega, rfl⟩⟩
def xr_mf : xPre := fun za I _ => ∃ v1 v2 v3 v4 v5 : Int, za = [xR 210, .inl v1, .inl v2, .inl v3, .inl v4, .inl v5] ∧ 0 ≤ I 209 2 ∧ I 209 2 ≤ 940
def xo_mf : xPost := fun za I L rv I' L' => ∃ v1 v2 v3 v4 v5 : Int, za = [xR 210, .inl v1, .inl v2, .inl v3, .inl v4, .inl v5] ∧ ((920 < I 209 2 ∧ I' = x_u I 209 0 0) ∨ (I 209 2 ≤ 920 ∧ x_fi x_sG (x_u I 209 0 0) I' ∧ I' 209 2 = I 209 2 + 20 ∧ r_b I' = f_20 (r_b I) (I 209 2) v1 v2 v3 v4 v5))
theorem xk_mf (hE : z_EX EX) : x_Ok EX l zTB zNT kc D vwCl xb yTY ad yP0 162 1 xr_mf xo_mf := by
  refine x_meth (ct := x_ctl [(163, 0, xr_fo, xo_fo)]) (M := ym_X12_feed) hE y_prog 60 rfl (by decide) (x_ctl_cons (xk_fo hE) x_ctl_nil) (fun za I L ⟨v1, v2, v3, v4, v5, h, _⟩ => by subst h; exact (by decide : 6 ≤ 6)) (fun za I L ⟨v1, v2, v3, v4, v5, h, h0, h1⟩ => ?_)
  subst h
  refine And.intro (by decide) ?_
  intro z (hz : z = I 209 2) _
  refine Or.inl ⟨by omega, ?_⟩
  refine And.intro ?_ ?_
  · intro t1
    refine And.intro ⟨v1, rfl, show 0 ≤ I 209 2 by omega, show I 209 2 ≤ 936 by omega⟩ ?_
    rintro rv I1 L1 ⟨v, hv, rfl, rfl, f1, n1, b1⟩
    cases hv
    have n1 : I1 209 2 = I 209 2 + 4 := n1
    have b1 : r_b I1 = f_n (r_b I) (I 209 2) v1 4 := b1
    refine And.intro ⟨v2, rfl, by omega, by omega⟩ ?_
    rintro rv I2 L2 ⟨v, hv, rfl, rfl, f2, n2, b2⟩
    cases hv
    refine And.intro ⟨v3, rfl, by omega, by omega⟩ ?_
    rintro rv I3 L3 ⟨v, hv, rfl, rfl, f3, n3, b3⟩
    cases hv
    refine And.intro ⟨v4, rfl, by omega, by omega⟩ ?_
    rintro rv I4 L4 ⟨v, hv, rfl, rfl, f4, n4, b4⟩
    cases hv
    refine And.intro ⟨v5, rfl, by omega, by omega⟩ ?_
    rintro rv I5 L5 ⟨v, hv, rfl, rfl, f5, n5, b5⟩
    cases hv
    intro z2 _ _
    refine ⟨v1, v2, v3, v4, v5, rfl, Or.inr ⟨by omega, x_fi_trans f1 (x_fi_trans f2 (x_fi_trans f3 (x_fi_trans f4 f5))), by omega, ?_⟩⟩
    unfold f_20
    rw [b5, b4, b3, b2, b1, n4, n3, n2, n1, show I 209 2 + 4 + 4 + 4 + 4 = I 209 2 + 16 by omega, show I 209 2 + 4 + 4 + 4 = I 209 2 + 12 by omega, show I 209 2 + 4 + 4 = I 209 2 + 8 by omega]
  · intro t1
    exact ⟨v1, v2, v3, v4, v5, rfl, Or.inl ⟨by omega, rfl⟩⟩
end XP
