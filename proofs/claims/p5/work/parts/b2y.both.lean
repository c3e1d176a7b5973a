/-! ===== two contracts of one method at once; a call by them ===== -/
theorem xy_and {l : Launch} {y : MethodName} {tb : List Cond} {rm : Room} {Pc : Array Value → State → Prop} {D : va_G} {cl : List vw_C} {ws : va_W} {sz : Nat} {P1 P2 : Option Value → va_W → Prop} {free : Addr → Prop} (h1 : Met l y tb rm Pc (y_Q D cl ws sz (some .int) P1) 0 0 free) (h2 : Met l y tb rm Pc (y_Q D cl ws sz (some .int) P2) 0 0 free) : Met l y tb rm Pc (y_Q D cl ws sz (some .int) (fun rv u => (∃ x : Int32, rv = some (.int x)) ∧ P1 rv u ∧ ∃ u2, P2 rv u2 ∧ ∃ H, va_P D cl u H ∧ va_P D cl u2 H)) 0 0 free := by
  intro p e a1 a2 a3 s m args below a4 a5 a6 a7
  obtain ⟨n, o, g1, g2, g3, g4, g5⟩ := h1 p e a1 a2 a3 s m args below a4 a5 a6 a7
  obtain ⟨n', o', k1, k2, k3, k4, k5⟩ := h2 p e a1 a2 a3 s m args below a4 a5 a6 a7
  obtain ⟨rfl, rfl⟩ := the_end_unique (f := fun k => stepsAlone p.tables e k s) g1 g3 k1 k3
  refine ⟨n, o, g1, g2, g3, ?_, g5⟩
  obtain ⟨⟨r, u, e1, q1, q2⟩, q3⟩ := g4
  obtain ⟨⟨r', u', e1', q1', q2'⟩, q3'⟩ := k4
  rw [e1] at e1'
  cases e1'
  exact ⟨⟨r, u, e1, ⟨⟨r, rfl⟩, q1, u', q1', _, q2.1, q2'.1⟩, q2⟩, q3⟩
/-- cells that a heap alone says -/
def xy_t (r k : Nat) : Bool := match y_T yTY r with
  | some (.inl (ci, ts)) => Nat.blt k ts.length && (match vwCl[ci]? with
    | some q => Nat.blt k q.2.2
    | none => true)
  | some (.inr (.inl _)) => true
  | _ => false
theorem xy_same {kc : Nat → ClassId} {ad : Nat → Option Nat} {xb : Nat} {D : va_G} {H : Heap} {u v : va_W} (hw1 : y_w kc ad yTY u) (hw2 : y_w kc ad yTY v) (a1 : z_ad xb u = ad) (a2 : z_ad xb v = ad) (hP1 : va_P D vwCl u H) (hP2 : va_P D vwCl v H) {r k : Nat} (ht : xy_t r k = true) : y_at u r k = y_at v r k := by
  have hadr : ∀ {a a' : Nat} {e e' : va_E}, u[r]? = some (a, e) → v[r]? = some (a', e') → a = a' := by
    intro a a' e e' e1 e2
    have h1 : z_ad xb u (r + 1) = some a := by show (u[r]?).map _ = _; rw [e1]; rfl
    have h2 : z_ad xb v (r + 1) = some a' := by show (v[r]?).map _ = _; rw [e2]; rfl
    rw [a1] at h1
    rw [a2] at h2
    exact Option.some.inj (h1.symm.trans h2)
  unfold xy_t at ht
  split at ht
  next ci ts hty =>
    rw [Bool.and_eq_true] at ht
    have hk : k < ts.length := Nat.lt_of_lt_of_le (Nat.lt_succ_self k) (Nat.le_of_ble_eq_true ht.1)
    obtain ⟨a, e, e1, vs, rfl, hv⟩ := hw1 r _ hty
    obtain ⟨a', e', e1', vs', rfl, hv'⟩ := hw2 r _ hty
    obtain rfl := hadr e1 e1'
    obtain ⟨q, q1, cell, c1, c2, c3, c4⟩ := (show ∃ q : vw_C, vwCl[ci]? = some q ∧ t_OB a (D.1 ci) q.2.2 (D.2 ci) H (vp_V vs) from hP1 r _ e1)
    obtain ⟨q', q1', cell', c1', c2', c3', c4'⟩ := (show ∃ q : vw_C, vwCl[ci]? = some q ∧ t_OB a (D.1 ci) q.2.2 (D.2 ci) H (vp_V vs') from hP2 r _ e1')
    rw [q1] at q1'
    cases q1'
    rw [c1] at c1'
    cases c1'
    have hN : k < q.2.2 := by
      have h9 := ht.2
      rw [q1] at h9
      exact Nat.lt_of_lt_of_le (Nat.lt_succ_self k) (Nat.le_of_ble_eq_true h9)
    have h5 := c4 k hN
    rw [c4' k hN] at h5
    have h7 : vp_V vs' k = vp_V vs k := Option.some.inj h5
    have l1 : k < vs.length := by rw [← z_L_len hv]; exact hk
    have l2 : k < vs'.length := by rw [← z_L_len hv']; exact hk
    unfold vp_V at h7
    rw [List.getD_eq_getElem?_getD, List.getD_eq_getElem?_getD, List.getElem?_eq_getElem l1, List.getElem?_eq_getElem l2] at h7
    unfold y_at
    rw [e1, e1']
    dsimp only
    rw [List.getElem?_eq_getElem l1, List.getElem?_eq_getElem l2]
    exact (congrArg y_iv h7).symm
  next q hty =>
    obtain ⟨kk, sg⟩ := q
    obtain ⟨a, e, e1, f, rfl, _⟩ := hw1 r _ hty
    obtain ⟨a', e', e1', f', rfl, _⟩ := hw2 r _ hty
    obtain rfl := hadr e1 e1'
    have c1 : H[a]? = some (arrV (kc kk) (y_len sg) (fun j => .int (f j))) := hP1 r _ e1
    have c2 : H[a]? = some (arrV (kc kk) (y_len sg) (fun j => .int (f' j))) := hP2 r _ e1'
    rw [c1] at c2
    have c3 := Option.some.inj c2
    unfold y_at
    rw [e1, e1']
    dsimp only
    by_cases hk : k < y_len sg
    · rw [if_pos hk, if_pos hk]
      have h5 := arrV_read (kc kk) (fun j => Value.int (f j)) hk
      rw [c3, arrV_read (kc kk) (fun j => Value.int (f' j)) hk] at h5
      have h6 : Value.int (f' k) = Value.int (f k) := Option.some.inj h5
      injection h6 with h6
      rw [h6]
    · rw [if_neg hk, if_neg hk]
  next => cases ht
section XYC
variable {xb : Nat} {kc : Nat → ClassId} {D : va_G} {l : Launch} {EX : (Nat → Prop) → State → Heap → Prop}
variable {p : Program} {e : Env} {R : Room} {s : State} {m : MethodId} {args : Array Value} {below : List Frame} {meth : Method} {c : Code} {Q : State → Prop} {A : Nat → Prop} {H0 : Heap} {nc ns : Nat} {M : yM} {d pc : Nat}
set_option maxHeartbeats 1000000 in
theorem xy_callV {ws : va_W} {sc : Bool} (hC0 : y_ctx EX zTB zNT vwCl kc D p R s m args meth c A H0 xb ws (z_ad xb ws) nc ns sc (d + 1) M) (hMk : y_Mok zTB zNT vwCl zTF yP0 M) (hE : z_EX EX) {idx j ci r : Nat} {ts : List yT} (hf : y_find M.2.2.2.2.1 pc = some (.invokevirtual idx, [1, j, ci])) (hw : y_T yTY r = some (.inl (ci, ts))) (hwt : y_w kc (z_ad xb ws) yTY ws) {y2 : MethodName} {c2 : ByteArray} {L2 : Nat} {r2 : Option FieldType} {t2 : List (List zE)} {na : Nat} {sp : List Nat} (hj : yP0 j = some (y2, c2, L2, r2, t2, na, sp)) (hL2 : L2 ≤ 80) {av : List Value} (hna : av.length = na) {a : Nat} (ha1 : z_ad xb ws (r + 1) = some a) {svr : List Value} (hsum : (svr.map fun v => v.category).sum ≤ 8) {ls : Array Slot} {lvv : List (Nat × Value)} (hlv : lv_has ls M.2.2.1 lvv) {H : Heap} {locs : List Loc} (hP : va_P D vwCl ws H) (hD : va_D A ws) (hS : va_S A H0 H locs) {Post : Option Value → va_W → Prop}
    (hM' : Met l y2 (.code y2 c2 L2 r2 :: zTB) (z_rm d 0 0) (va_Pc (.ref a :: av) (z_pre EX zNT D vwCl kc ws H.size)) (y_Q D vwCl ws H.size r2 Post) 0 0 (va_A ws H.size))
    (kk : ∀ (rv : Option Value) (u : va_W) (H1 : Heap) (locs1 : List Loc), Post rv u → va_P D vwCl u H1 → va_D A u → va_S A H0 H1 locs1 → W p l e R s m args below meth c H1 locs1 nc ns Q (F0 m (pc + 3) ls (rv.toList ++ svr))) : W p l e R s m args below meth c H locs nc ns Q (F0 m pc ls (av.reverse ++ .ref a :: svr)) := by
  have hC : x_C EX zTB zNT vwCl kc D xb zTF yP0 p R s m args meth c A H0 ws nc ns M (d + 1) := ⟨hC0, hMk, y_prog, hE⟩
  obtain ⟨hd, hen⟩ := x_en hC hf
  rcases hen with hi | ⟨j', ci', y2', c2', L2', r2', t2', na', sp', T, N, hi, hj', hYy, hlk, hin, hsel, hcl⟩
  · cases hi
  cases hi
  rw [hj] at hj'
  cases hj'
  obtain ⟨hx, hb, hml, hown, hname, hts, hK, hN, hA, hfr0, hlo, hc0, hS0, hH0, hEx, had0⟩ := hC.1
  have hg := hC.2.2.1.1
  subst hH0
  obtain ⟨b', _, hws, vs, rfl, hvs⟩ := hwt r _ hw
  obtain rfl : b' = a := by
    have : z_ad xb ws (r + 1) = some b' := by show (ws[r]?).map _ = _; rw [hws]; rfl
    rw [ha1] at this
    exact (Option.some.inj this).symm
  have hp : PreV s H y2.cls b' (va_Pc (.ref b' :: av) (z_pre EX zNT D vwCl kc ws H.size)) av := ⟨z_blind hE, va_recv (q := (y2.cls, T, N)) hK hP hcl hws, fun U hU hW => ⟨rfl, by rw [hU], by rw [hU]; exact hP, va_K.moved hW.alike hK, hD.weaken (fun _ _ _ _ => trivial), z_N_moved hW hN, z_exin hE hEx hA hD hS hU hW⟩⟩
  have hR : (z_rm d 0 0).frames + 1 ≤ R.frames ∧ 8 + (L2 + 11) + (z_rm d 0 0).locals ≤ R.locals := by
    unfold z_rm
    dsimp only
    omega
  have hrun : va_Run p l e R s m args below meth c H locs nc ns 0 0 (F0 m pc ls (av.reverse ++ Value.ref b' :: svr)) svr (y_Q D vwCl ws H.size r2 Post (Value.ref b' :: av).toArray) (va_A ws H.size) := by
    rcases hlk with hlk | ⟨host, hlk⟩
    · exact va_runV ⟨hx, hb, hml, hown, hts⟩ hM' ⟨callB_of na hts (z_good hg hYy.1) rfl rfl rfl (hts _ hYy.2.1) (hts _ hlk) hYy.2.2 hR, hts _ hin, hts _ hsel⟩ hp rfl hna hlv.1 rfl (lv_room hsum) hd ⟨hc0, hS0⟩
    · exact va_runVN ⟨hx, hb, hml, hown, hts⟩ hM' ⟨va_cnB na hts (z_good hg hYy.1) rfl rfl rfl (hN.1 _ hlk) (hts _ hYy.2.1) hYy.2.2 hR, hts _ hin, hts _ hsel⟩ hp rfl hna hlv.1 rfl (lv_room hsum) hd ⟨hc0, hS0⟩
  exact y_after hrun hA hD hS kk
/-- what a world is, as far as the law goes -/
def xy_U (b : Nat) (kc : Nat → ClassId) (ad : Nat → Option Nat) (u : va_W) : Prop := w_R u ∧ y_Go yGR u ∧ y_w kc ad yTY u ∧ z_ad b u = ad
def x_0 : xF := fun _ _ => 0
theorem xy_keepR {eff : yR} (hc : y_clr eff yRC = true) {u v : va_W} (hf : y_fr eff u v) (h : w_R u) : w_R v := w_R_RI u v (fun r k hr => hf r k (by
  cases hh : y_in eff r k with
  | false => rfl
  | true => rw [y_clr_ok hc hh] at hr; cases hr)) h
/-- a call by both contracts -/
theorem xy_call {ws : va_W} {sc : Bool} (hC0 : y_ctx EX zTB zNT vwCl kc D p R s m args meth c A H0 xb ws (z_ad xb ws) nc ns sc 40 M) (hMk : y_Mok zTB zNT vwCl zTF yP0 M) (hE : z_EX EX) {idx j ci r : Nat} {ts : List yT} (hf : y_find M.2.2.2.2.1 pc = some (.invokevirtual idx, [1, j, ci])) (hw : y_T yTY r = some (.inl (ci, ts))) (hU : xy_U xb kc (z_ad xb ws) ws) {y2 : MethodName} {c2 : ByteArray} {L2 : Nat} {t2 : List (List zE)} {na : Nat} {sp : List Nat} (hj : yP0 j = some (y2, c2, L2, some .int, t2, na, sp)) (hL2 : L2 ≤ 80) {av : List Value} (hna : av.length = na) {a : Nat} (ha1 : z_ad xb ws (r + 1) = some a) {svr : List Value} (hsum : (svr.map fun v => v.category).sum ≤ 8) {ls : Array Slot} {lvv : List (Nat × Value)} (hlv : lv_has ls M.2.2.1 lvv) {H : Heap} {locs : List Loc} (hP : va_P D vwCl ws H) (hD : va_D A ws) (hS : va_S A H0 H locs)
    {K : yCon} (hK : y_ConOk EX l zTB zNT kc D vwCl xb yTY yGR w_R (z_ad xb ws) yP0 K) (hKj : K.1 = j) (hKd : K.2.2.2.2.2.1 ≤ 39) (hKp : K.2.2.1 = []) (hKn : K.2.2.2.2.2.2.2 = []) (hKr : (∀ o ∈ K.2.2.2.1, o.2.2 = true) ∨ y_clr K.2.2.2.2.1 yRC = true) (hya : z_L (y_pv (z_ad xb ws)) K.2.1 (.ref a :: av))
    {d0 : Nat} {Pre : xPre} {Post : xPost} (hX : x_Ok EX l zTB zNT kc D vwCl xb yTY (z_ad xb ws) yP0 j d0 Pre Post) (hd0 : d0 ≤ 39) {za : List xV} (hav : z_L (x_v (z_ad xb ws)) za av) (hpre : Pre (xR (r + 1) :: za) (x_of ws x_0) (x_ofl ws x_0))
    (kk : ∀ (x : Int32) (u : va_W) (H1 : Heap) (locs1 : List Loc), (∃ o ∈ K.2.2.2.1, ∀ f ∈ o.2.1, y_fv2 [] u f) → xy_U xb kc (z_ad xb ws) u → y_fr K.2.2.2.2.1 ws u → (∃ I' L', Post (xR (r + 1) :: za) (x_of ws x_0) (x_ofl ws x_0) (some (.inl x.toInt)) I' L' ∧ ∀ r k v, xy_t r k = true → y_at u r k = some v → v.toInt = I' r k) → va_P D vwCl u H1 → va_D A u → va_S A H0 H1 locs1 → W p l e R s m args below meth c H1 locs1 nc ns Q (F0 m (pc + 3) ls (.int x :: svr))) : W p l e R s m args below meth c H locs nc ns Q (F0 m pc ls (av.reverse ++ .ref a :: svr)) := by
  obtain ⟨u1, u2, u3, u4⟩ := hU
  have m1 := hK y2 c2 L2 (some .int) t2 na sp (by rw [hKj]; exact hj) 39 hKd (.ref a :: av) ws H.size [] hya (fun f hf => by rw [hKp] at hf; cases hf) (fun _ => u1) u2 u3 rfl (by rw [hKn]; trivial)
  have m2 := hX y2 c2 L2 (some .int) t2 na sp hj 39 hd0 (xR (r + 1) :: za) (.ref a :: av) ws H.size (x_of ws x_0) (x_ofl ws x_0) ⟨⟨a, ha1, rfl⟩, hav⟩ hpre (x_of_ag ws x_0 x_0) u3 rfl
  refine xy_callV (d := 39) hC0 hMk hE hf hw u3 hj hL2 hna ha1 hsum hlv hP hD hS (xy_and m1 m2) (fun rv u H1 locs1 hpo g1 g2 g3 => ?_)
  obtain ⟨⟨x, rfl⟩, ⟨o, ho, p1, p2, p3, p4, p5, p6, p7⟩, v, ⟨zr, I', L', q1, q2, q3, q4, q5⟩, H9, t1, t9⟩ := hpo
  have hzr : zr = some (.inl x.toInt) := by
    match zr, q1 with
    | none, h => exact h.elim
    | some (.inl z), h =>
      obtain ⟨⟨x9, h9, h8⟩, _⟩ := h
      cases h9
      rw [← h8]
    | some (.inr (.inl z)), h =>
      obtain ⟨⟨x9, h9, h8⟩, _⟩ := h
      cases h9
    | some (.inr (.inr none)), h => exact absurd (show Value.int x = Value.null from h.1) (by intro q; cases q)
    | some (.inr (.inr (some i))), h =>
      obtain ⟨⟨x9, h9, h8⟩, _⟩ := h
      cases h8
  subst hzr
  have hRu : w_R u := by
    rcases hKr with h | h
    · exact p3 (h o ho)
    · exact xy_keepR h p6 u1
  exact kk x u H1 locs1 ⟨o, ho, p2⟩ ⟨hRu, p4, p5, p7⟩ p6 ⟨I', L', q3, fun r k v9 ht hv => q2.1 r k v9 (by rw [← xy_same p5 q4 p7 q5 t1 t9 ht]; exact hv)⟩ g1 g2 g3
end XYC
/-! ===== the bytes of both tapes ===== -/
def rb_R (ws : va_W) : Prop := ∀ j, x_of ws x_0 2 j = r_b (x_of ws x_0) j
theorem xy_noreg {eff : yR} {r : Nat} (h : eff.all (fun q => !(q.1 == r)) = true) (k : Nat) : y_in eff r k = false := by
  cases hh : y_in eff r k with
  | false => rfl
  | true =>
    obtain ⟨q, hq, h1⟩ := List.any_eq_true.mp hh
    have h2 := List.all_eq_true.mp h q hq
    rw [Bool.and_eq_true] at h1
    rw [h1.1] at h2
    cases h2
theorem rb_same {u v : va_W} (h2 : ∀ j, y_at v 2 j = y_at u 2 j) (h3 : ∀ j, y_at v 210 j = y_at u 210 j) (h : rb_R u) : rb_R v := by
  intro j
  have := h j
  unfold r_b x_of at this ⊢
  rw [h2, h3]
  exact this
theorem xy_row {kc : Nat → ClassId} {ad : Nat → Option Nat} {v : va_W} (hw : y_w kc ad yTY v) {r kk : Nat} {sg : List (Nat × Int × Int)} (ht : y_T yTY r = some (.inr (.inl (kk, sg)))) (j : Nat) : (j < y_len sg → ∃ x, y_at v r j = some x) ∧ (y_len sg ≤ j → y_at v r j = none) := by
  obtain ⟨a, e, e1, f, rfl, _⟩ := hw r _ ht
  unfold y_at
  rw [e1]
  dsimp only
  refine ⟨fun h => ⟨f j, if_pos h⟩, fun h => if_neg (by omega)⟩
