def rm_P (kc : Nat → ClassId) (xb : Nat) (ad : Nat → Option Nat) (ws0 u : va_W) : Prop := (w_R u ∧ y_Go yGR u ∧ y_w kc ad yTYV u ∧ z_ad xb u = ad) ∧ ∀ r k, y_at u r k = y_at ws0 r k
abbrev rm_Q (kc : Nat → ClassId) (D : va_G) (xb : Nat) (ad : Nat → Option Nat) (ws0 : va_W) (sz : Nat) (lo hi : Int) : Array Value → State → Outcome → State → Prop := va_Qi (fun (r : Int32) (u : va_W) => (lo ≤ r.toInt ∧ r.toInt ≤ hi) ∧ rm_P kc xb ad ws0 u) (z_post D vwCl ws0 sz) (va_A ws0 sz)
abbrev rm_X (kc : Nat → ClassId) (D : va_G) (xb : Nat) (ad : Nat → Option Nat) (ws0 : va_W) (sz : Nat) : String → State → State → Prop := vx_X (fun u : va_W => rm_P kc xb ad ws0 u) (fun E u t => E = "java/util/NoSuchElementException" ∧ z_post D vwCl ws0 sz u t) (va_A ws0 sz)
def rm_ck (jm n2 : Nat) : Bool := match yP0 jm with
  | some M => match y_run yP0 yTYV zTF ([] : yR) yRC yGR (y_ct hm_CT yTYV yRC ([] : yR) 30) 2000 false 30 M (fun _ _ _ => false) true hm_B2 0 hm_z2 with
    | some es => es.all (fun q => q.2.2.2.2.2.1 && (q.2.2.2.2.2.2.1.isEmpty && (q.2.2.2.2.2.2.2.isEmpty && ((match y_find M.2.2.2.2.1 q.2.1, q.2.2.2.1 with
      | some (.ireturn, _), [.inl _] => true
      | _, _ => false) || ((q.2.1 == 11 || q.2.1 == n2) && q.2.2.2.1.isEmpty)))))
    | none => false
  | none => false
theorem rm_ck5 : rm_ck 119 143 = true := by decide +kernel
theorem rm_ck6 : rm_ck 120 106 = true := by decide +kernel
section HM
variable {EX : (Nat → Prop) → State → Heap → Prop} {l : Launch} {kc : Nat → ClassId} {D : va_G} {xb : Nat}
set_option maxHeartbeats 4000000 in
theorem rm_throws (hE : z_EX EX) (hthr : ∀ (A : Nat → Prop) (U : State) (H : Heap), EX A U H → zEx A U H) (hl : l.stackTraces = false) {jm n2 : Nat} {y : MethodName} {cc : ByteArray} {tab : List (List zE)} {na : Nat} {sp : List Nat} {d : Nat}
    (hP0 : yP0 jm = some (y, cc, 3, some .int, tab, na, sp)) (hck : rm_ck jm n2 = true) (hy : y.cls = "HeldCoats") (hd : 30 ≤ d)
    (d11 : ∀ k, k = 11 ∨ k = n2 → decode cc k = .ok (.new 143, 3) ∧ decode cc (k + 3) = .ok (.dup, 1) ∧ decode cc (k + 4) = .ok (.invokespecial 145, 3) ∧ decode cc (k + 7) = .ok (.athrow, 1))
    {b : Nat} {x1 x2 : Int32} {ws0 : va_W} {sz : Nat} (hb0 : z_ad xb ws0 1 = some b) (hp0 : hm_P kc xb (z_ad xb ws0) ws0) :
    vx_Met l y (.code y cc 3 (some .int) :: zTB) (z_rm d 1 6) (va_Pc [.ref b, .int x1, .int x2] (z_pre EX zNT D vwCl kc ws0 sz)) (rm_Q kc D xb (z_ad xb ws0) ws0 sz (-2147483648) 2147483647) (rm_X kc D xb (z_ad xb ws0) ws0 sz) 1 6 (va_A ws0 sz) := by
  have hM : y_Mok zTB zNT vwCl zTF yP0 (y, cc, 3, some .int, tab, na, sp) := y_prog.2 _ _ hP0
  refine vx_ofW (cc := cc) (maxL := 3) (ret := some .int) hM.1 rfl ?_
  intro p e s m args below meth c s₁ Bd hml hnox hv
  obtain ⟨rfl, hsz, hP, hK, hD0, hN, hEx⟩ := hv
  subst hsz
  have hx := Bd.exec
  have hb := Bd.bytes
  have hts0 := atoms_spec (ws := Cond.code y cc 3 (some .int) :: zTB) Bd.pre
  have hts : ∀ w ∈ zTB, w.before _ s = true := fun w hw => hts0 w (List.mem_cons_of_mem _ hw)
  have hown : s.vm.findClass y.cls = some m.cls := findClass_of_methodNamed Bd.named
  have hname : y.name = "<init>" → meth.name = "<init>" := fun h => (name_of_methodNamed Bd.named Bd.method).1.trans h
  obtain ⟨hU, hN2, hDL⟩ := hthr _ _ _ hEx
  obtain ⟨p1, p2, p3, p4⟩ := hp0
  unfold rm_ck at hck
  rw [hP0] at hck
  dsimp only at hck
  split at hck
  next es hes =>
    have hle := lv_entry ([.ref b, .int x1, .int x2]) (n := 3) (Nat.le_of_ble_eq_true rfl)
    rw [lg_entry_eq]
    refine y_run_ok (l := l) (kc := kc) (D := D) (xb := xb) (TY := yTYV) (ad := z_ad xb ws0) (eff := ([] : yR)) (RC := yRC) (GR := yGR) (RI := w_R) hE w_R_RI y_prog (y_ct_ok (eff := ([] : yR)) (RC := yRC) w_R_RI (hm_all (l := l) (kc := kc) (D := D) (xb := xb) (ad := z_ad xb ws0) hE)) 2000 false 30 (y, cc, 3, some .int, tab, na, sp) _ true hm_B2 0 hm_z2 es hes hM p e (z_rm d 1 6) s m _ below meth c _ (va_A ws0 s.heap.size) s.heap ws0 0 0 [x1.toInt, x2.toInt] ⟨hx, hb, hml, hown, hname, hts, hK, hN, fun q h => Or.inr h, by show 30 + 1 ≤ d + 1; omega, by show 100 * 30 + 100 ≤ 100 * d + 100; omega, Nat.zero_le _, Nat.zero_le _, rfl, hEx, rfl⟩ (fun h => by cases h) hm_B2_ok (fun q hq env he hB => ?_) _ [] ws0 s.heap [] ⟨⟨_, hle, ⟨rfl, b, hb0, rfl⟩, ⟨rfl, x1, rfl, congrArg some (Int.add_zero _)⟩, ⟨rfl, x2, rfl, congrArg some (Int.add_zero _)⟩, trivial⟩, trivial, (fun _ h => by cases h), (fun _ => p1), y_Go_to p2, p3, y_fr_refl, rfl, hP, hD0.self, va_S.rf⟩
    intro ls sv ws H locs hS
    have h9 := List.all_eq_true.mp hck q hq
    simp only [Bool.and_eq_true, Bool.or_eq_true] at h9
    obtain ⟨q1, q2, q3, q4⟩ := h9
    obtain ⟨s1, s2, sk, sf, sG, sw, sfr, sad, sP, sD, sS⟩ := hS
    have hGo : y_Go yGR ws := by
      rw [List.isEmpty_iff.mp q2, List.isEmpty_iff.mp q3] at sG
      exact y_Go_of sG
    have hpp : rm_P kc xb (z_ad xb ws0) ws0 ws := ⟨⟨sf q1, hGo, sw, sad⟩, fun r k => sfr r k rfl⟩
    rcases q4 with q4 | q4
    · split at q4
      next inf t hfi hst =>
        rw [hst] at s2
        obtain ⟨_, sv', rfl, ⟨x0, rfl, _⟩, g4⟩ := y_st1 s2
        obtain rfl : sv' = [] := by
          cases sv' with
          | nil => rfl
          | cons _ _ => exact g4.elim
        obtain ⟨row, h8, h9⟩ := y_find_in hfi
        have hdec : decode cc q.2.1 = .ok (.ireturn, 1) := (hM.2 row h8 _ h9).1
        refine vx_ret ?_
        refine W.widen (k := 1) (n := 6) (by decide) (by decide) ?_
        exact W.zret (ty := .int) (v := x0) hx hb Bd.returns rfl (fun t' ht' hW' => ⟨⟨x0, ws, rfl, ⟨z_any x0, hpp⟩, by rw [ht']; exact sP, sD⟩, sS.F ht'⟩) sS.2.2 hdec Bd.notSynchronized
      next => cases q4
    · obtain ⟨q5, q6⟩ := q4
      rw [List.isEmpty_iff.mp q6] at s2
      obtain rfl : sv = [] := by
        cases sv with
        | nil => rfl
        | cons _ _ => exact s2.elim
      obtain ⟨lv, hlv, hz⟩ := id s1
      have hpc : q.2.1 = 11 ∨ q.2.1 = n2 := by
        rcases q5 with q5 | q5
        · exact Or.inl (by simpa using q5)
        · exact Or.inr (by simpa using q5)
      obtain ⟨e1, e2, e3, e4⟩ := d11 q.2.1 hpc
      exact vx_throw0 (own := "HeldCoats") (names := ["java/lang/RuntimeException", "java/lang/Exception"]) (A := va_A ws0 s.heap.size) hx hb hl (by rw [← hy]; exact hown) (by decide +kernel) (by decide +kernel) (hts _ zw_1269) (hts _ zw_23) (zx_hat hts hDL) zx_ot hU hN2 sS (hlv.1.trans hml.symm) e1 e2 e3 e4 (fun x hx9 => (hnox x hx9).elim) (by show 5 < d + 1; omega) (by show 0 + 81 ≤ 100 * d + 100; omega) (Nat.le_refl _) (Nat.le_refl _) Bd.notSynchronized (fun t hal hz1 hk1 => ⟨ws, hpp, ⟨rfl, sP.kept (fun j q hq => hk1 q.1 (sP j q hq).lt), sD⟩, ⟨Nat.le_trans sS.1 hz1, fun q hq hna => (hk1 q (Nat.lt_of_lt_of_le hq sS.1)).trans (sS.2.1 q hq hna)⟩⟩) (fun z hz1 => sS.2.2 z hz1) (Nat.le_refl _) (Nat.le_refl _)
  next => cases hck
end HM
/-! ===== the law's own man, coat: what they catch ===== -/
def rm_c1 (M : yM) : Bool := match y_run yP0 yTYV zTF ([] : yR) yRC yGR (y_ct hm_CT yTYV yRC ([] : yR) 30) 100 false 0 M (fun _ _ _ => false) true hm_B2 0 hm_z4 with
  | some es => es.all (fun q => q.2.1 == 5 && (hm_fl q && (match q.2.2.2.1 with
    | [.inl (.inr (1, 0)), .inl (.inr (0, 0)), .inr (.inl (some 1)), .inl (.inl 0), .inr (.inl (some 226))] => true
    | _ => false)))
  | none => false
def rm_c2 (M : yM) : Bool := match y_run yP0 yTYV zTF ([] : yR) yRC yGR (y_ct hm_CT yTYV yRC ([] : yR) 30) 100 false 0 M (fun _ _ _ => false) true hm_B3 8 hm_z8 with
  | some es => es.all (fun q => q.2.1 == 18 && (hm_fl q && (match q.2.2.2.1 with
    | [.inl (.inl 0)] => true
    | _ => false)))
  | none => false
theorem rm_m1 : rm_c1 ym_lman = true := by decide +kernel
theorem rm_m2 : rm_c2 ym_lman = true := by decide +kernel
theorem rm_n1 : rm_c1 ym_lcoat = true := by decide +kernel
theorem rm_n2 : rm_c2 ym_lcoat = true := by decide +kernel
section HM2
variable {EX : (Nat → Prop) → State → Heap → Prop} {l : Launch} {kc : Nat → ClassId} {D : va_G} {xb : Nat}
set_option maxHeartbeats 4000000 in
theorem rm_catches (hE : z_EX EX) (hthr : ∀ (A : Nat → Prop) (U : State) (H : Heap), EX A U H → zEx A U H) {yL y2 : MethodName} {cL c2 : ByteArray} {idx d : Nat} {tabL : List (List zE)}
    (hM : y_Mok zTB zNT vwCl zTF yP0 (yL, cL, 5, some .int, tabL, 4, [])) (hyL : yL.cls = "HeldCoatsLaw") (hni : yL.name ≠ "<init>") (hy2 : y2.cls = "HeldCoats")
    (hc1 : rm_c1 (yL, cL, 5, some .int, tabL, 4, []) = true) (hc2 : rm_c2 (yL, cL, 5, some .int, tabL, 4, []) = true)
    (h2 : ∀ (b : Nat) (x1 x2 : Int32) (ws0 : va_W) (sz : Nat), z_ad xb ws0 1 = some b → hm_P kc xb (z_ad xb ws0) ws0 → vx_Met l y2 (.code y2 c2 3 (some .int) :: zTB) (z_rm d 1 6) (va_Pc [.ref b, .int x1, .int x2] (z_pre EX zNT D vwCl kc ws0 sz)) (rm_Q kc D xb (z_ad xb ws0) ws0 sz (-2147483648) 2147483647) (rm_X kc D xb (z_ad xb ws0) ws0 sz) 1 6 (va_A ws0 sz))
    (hY : z_Y zTB y2 c2 3 2 (some .int)) (hlk : Cond.methodLink "HeldCoatsLaw" idx y2 ∈ zTB) (hin : Cond.instanceMethod y2 ∈ zTB) (hsel : Cond.selects y2.cls y2 y2 ∈ zTB)
    (d5 : decode cL 5 = .ok (.invokevirtual idx, 3)) (d13 : decode cL 13 = .ok (.astore 4, 2)) (d15 : decode cL 15 = .ok (.iconst 1, 1)) (d16 : decode cL 16 = .ok (.ireturn, 1)) (d18 : decode cL 18 = .ok (.ireturn, 1))
    {b o : Nat} {x1 x2 : Int32} {ws0 : va_W} {sz : Nat} (hb0 : z_ad xb ws0 1 = some b) (ho0 : z_ad xb ws0 226 = some o) (hp0 : hm_P kc xb (z_ad xb ws0) ws0) :
    vx_Met l yL (.codeWith yL cL 5 (some .int) [(0, 10, 13, 13)] :: zTB) (z_rm (d + 1) 1 6) (va_Pc [.ref b, .int x1, .int x2, .ref o] (z_pre EX zNT D vwCl kc ws0 sz)) (rm_Q kc D xb (z_ad xb ws0) ws0 sz 0 1) zXN 1 6 (va_A ws0 sz) := by
  refine vx_ofWH (cc := cL) (maxL := 5) (ret := some .int) (hh := [(0, 10, 13, 13)]) hM.1 rfl ?_
  intro p e s m args below meth c s₁ Bd hml hv
  obtain ⟨rfl, hsz, hP, hK, hD0, hN, hEx⟩ := hv
  subst hsz
  have hx := Bd.exec
  have hb := Bd.bytes
  have hts0 := atoms_spec (ws := Cond.codeWith yL cL 5 (some .int) [(0, 10, 13, 13)] :: zTB) Bd.pre
  have hts : ∀ w ∈ zTB, w.before _ s = true := fun w hw => hts0 w (List.mem_cons_of_mem _ hw)
  have hown : s.vm.findClass yL.cls = some m.cls := findClass_of_methodNamed Bd.named
  have hown2 : s.vm.findClass "HeldCoatsLaw" = some m.cls := by rw [← hyL]; exact hown
  have htab : c.exceptionTable.toList = tableOf [(0, 10, 13, 13)] := vx_table (x := yL) Bd (hts0 _ List.mem_cons_self)
  obtain ⟨hU, hN2, hDL⟩ := hthr _ _ _ hEx
  obtain ⟨p1, p2, p3, p4⟩ := hp0
  have hctx : ∀ (ws : va_W) (nc ns : Nat), nc ≤ 1 → ns ≤ 6 → z_ad xb ws = z_ad xb ws → y_ctx EX zTB zNT vwCl kc D p (z_rm (d + 1) 1 6) s m #[.ref b, .int x1, .int x2, .ref o] meth c (va_A ws0 s.heap.size) s.heap xb ws (z_ad xb ws) nc ns false 0 (yL, cL, 5, some .int, tabL, 4, []) := fun ws nc ns g1 g2 _ => ⟨hx, hb, hml, hown, fun h => absurd h hni, hts, hK, hN, fun q h => Or.inr h, by show 0 + 1 ≤ d + 1 + 1; omega, by show 100 * 0 + 100 ≤ 100 * (d + 1) + 100; omega, g1, g2, rfl, hEx, rfl⟩
  have hle := lv_entry ([.ref b, .int x1, .int x2, .ref o]) (n := 5) (Nat.le_of_ble_eq_true rfl)
  rw [lg_entry_eq]
  generalize (lg_sl ([.ref b, .int x1, .int x2, .ref o]) ++ List.replicate (5 - (lg_sl ([Value.ref b, .int x1, .int x2, .ref o])).length) Slot.unset).toArray = ls at hle ⊢
  unfold rm_c1 at hc1
  split at hc1
  next es hes =>
    refine y_run_ok (l := l) (kc := kc) (D := D) (xb := xb) (TY := yTYV) (ad := z_ad xb ws0) (eff := ([] : yR)) (RC := yRC) (GR := yGR) (RI := w_R) hE w_R_RI y_prog (y_ct_ok (eff := ([] : yR)) (RC := yRC) w_R_RI (hm_all (l := l) (kc := kc) (D := D) (xb := xb) (ad := z_ad xb ws0) hE)) 100 false 0 (yL, cL, 5, some .int, tabL, 4, []) _ true hm_B2 0 hm_z4 es hes hM p e (z_rm (d + 1) 1 6) s m _ below meth c _ (va_A ws0 s.heap.size) s.heap ws0 0 0 [x1.toInt, x2.toInt] (hctx ws0 0 0 (by decide) (by decide) rfl) (fun h => by cases h) hm_B2_ok (fun q hq env he hB => ?_) ls [] ws0 s.heap [] ⟨⟨_, hle, ⟨rfl, b, hb0, rfl⟩, ⟨rfl, x1, rfl, congrArg some (Int.add_zero _)⟩, ⟨rfl, x2, rfl, congrArg some (Int.add_zero _)⟩, ⟨rfl, o, ho0, rfl⟩, trivial⟩, trivial, (fun _ h => by cases h), (fun _ => p1), y_Go_to p2, p3, y_fr_refl, rfl, hP, hD0.self, va_S.rf⟩
    intro ls1 sv ws H locs hS
    have h9 := List.all_eq_true.mp hc1 q hq
    simp only [Bool.and_eq_true] at h9
    obtain ⟨q1, q2, q3⟩ := h9
    unfold hm_fl at q2
    simp only [Bool.and_eq_true] at q2
    obtain ⟨f1, f2, f3⟩ := q2
    have hpc : q.2.1 = 5 := by simpa using q1
    obtain ⟨s1, s2, sk, sf, sG, sw, sfr, sad, sP, sD, sS⟩ := hS
    have hGo : y_Go yGR ws := by
      rw [List.isEmpty_iff.mp f2, List.isEmpty_iff.mp f3] at sG
      exact y_Go_of sG
    have hpp : hm_P kc xb (z_ad xb ws) ws := ⟨sf f1, hGo, by rw [sad]; exact sw, rfl⟩
    have hx0 : ∀ k : Nat, env[k]? = ([x1.toInt, x2.toInt] : List Int)[k]? ∨ 2 ≤ k := fun k => by
      by_cases hk : k < 2
      · obtain ⟨r, rfl⟩ := he
        exact Or.inl (List.getElem?_append_left (by simpa using hk))
      · exact Or.inr (by omega)
    split at q3
    next hst =>
      rw [hst] at s2
      obtain ⟨_, sv1, rfl, ⟨w2, rfl, hw2⟩, e1⟩ := y_st1 s2
      obtain ⟨_, sv2, rfl, ⟨w1, rfl, hw1⟩, e2⟩ := y_st1 e1
      obtain ⟨_, sv3, rfl, ⟨b', hb1, rfl⟩, e3⟩ := y_st1 e2
      obtain ⟨_, sv4, rfl, ⟨w0, rfl, hw0⟩, e4⟩ := y_st1 e3
      obtain ⟨_, sv5, rfl, ⟨o', ho1, rfl⟩, e5⟩ := y_st1 e4
      obtain rfl : sv5 = [] := by
        cases sv5 with
        | nil => rfl
        | cons _ _ => exact e5.elim
      obtain ⟨lv, hlv, hz⟩ := id s1
      have hAA : ∀ q, va_A ws H.size q → va_A ws0 s.heap.size q := by
        intro q hq
        rcases hq with ⟨k, e1, hk⟩ | hq
        · exact sD.2 k (q, e1) hk
        · exact Or.inr (Nat.le_trans sS.1 hq)
      have hb2 : z_ad xb ws 1 = some b' := by rw [sad]; exact hb1
      obtain ⟨a9, e9, hws9, vs9, rfl, -⟩ := hpp.2.2.1 0 _ (show y_T yTYV 0 = some _ from rfl)
      have hab : a9 = b' := by
        have : z_ad xb ws 1 = some a9 := by show (ws[0]?).map (fun q => q.1) = _; rw [hws9]; rfl
        rw [hb2] at this
        exact (Option.some.inj this).symm
      subst hab
      have hM' := h2 a9 w1 w2 ws H.size hb2 hpp
      have hp : PreV s H y2.cls a9 (va_Pc [.ref a9, .int w1, .int w2] (z_pre EX zNT D vwCl kc ws H.size)) [.int w1, .int w2] := ⟨z_blind hE, va_recv (q := (y2.cls, _, _)) hK sP (by rw [hy2]; rfl) hws9, fun U hU hW => ⟨rfl, by rw [hU], by rw [hU]; exact sP, va_K.moved hW.alike hK, sD.weaken (fun _ _ _ _ => trivial), z_N_moved hW hN, z_exin hE hEx (fun q h => Or.inr h) sD sS hU hW⟩⟩
      rw [hpc]
      refine vx_calli (a := (Value.ref a9 :: [.int w1, .int w2]).toArray) (vx_runV (g := F0 m 5 ls1 (.int w2 :: .int w1 :: .ref a9 :: [.int w0, .ref o'])) ⟨hx, hb, hml, hown2, hts⟩ hM' ⟨callB_of 2 hts (z_good zTB_good hY.1) rfl rfl rfl (hts _ hY.2.1) (hts _ hlk) hY.2.2 ⟨by show d + 1 + 1 ≤ d + 1 + 1; omega, by show 8 + (3 + 11) + (100 * d + 100) ≤ 100 * (d + 1) + 100; omega⟩, hts _ hin, hts _ hsel⟩ hp rfl rfl hlv.1 rfl (lv_room (show (1 + (1 + 0) : Nat) ≤ 8 by decide)) d5 ⟨Nat.le_refl _, Nat.le_refl _⟩) sS (fun q _ h => hAA q h) hAA (fun q _ h => hAA q h) (fun E ce q9 u t H1 locs1 ht hvm hpx hBX hz1 hk1 hS2 hcell hcv hcl2 => ?_) (fun r u t H1 locs1 ht hvm hp9 hB9 hz1 hk1 hS2 => ?_)
      · obtain ⟨rfl, hP2, hD2⟩ := hBX
        refine z_catch (own := "HeldCoatsLaw") (name := "java/util/NoSuchElementException") hown2 ⟨0, 10, 13, 13⟩ (htab.trans rfl) (by decide) (by decide) (hts _ zw_1264) (va_Nw.use rfl (hDL _ (List.mem_cons_of_mem _ (List.mem_cons_of_mem _ (List.mem_cons_of_mem _ List.mem_cons_self))))) hcell hcv hcl2 ?_
        refine lv_astore (i := 4) (nL := 5) hx hb d13 hlv (by decide) rfl (fun ls' hls' => ?_)
        refine lv_iconst (v := 1) hx hb d15 (by decide) ?_
        refine vx_ret (XC := zXN) ?_
        exact W.zret (ty := .int) (v := 1) hx hb Bd.returns rfl (fun t' ht' hW' => ⟨⟨1, u, rfl, ⟨⟨by decide, by decide⟩, ⟨hpx.1.1, hpx.1.2.1, by rw [← sad]; exact hpx.1.2.2.1, hpx.1.2.2.2.trans sad⟩, fun r k => (hpx.2 r k).trans (sfr r k rfl)⟩, by rw [ht', ← ht]; exact hP2, hD2.weaken (fun _ _ _ h => hAA _ h)⟩, hS2.F ht'⟩) hS2.2.2 d16 Bd.notSynchronized
      · obtain ⟨hP2, hD2⟩ := hB9
        obtain ⟨_, ⟨u1, u2, u3, u4⟩, u5⟩ := hp9
        unfold rm_c2 at hc2
        split at hc2
        next es2 hes2 =>
          refine y_run_ok (l := l) (kc := kc) (D := D) (xb := xb) (TY := yTYV) (ad := z_ad xb u) (eff := ([] : yR)) (RC := yRC) (GR := yGR) (RI := w_R) hE w_R_RI y_prog (y_ct_ok (eff := ([] : yR)) (RC := yRC) w_R_RI (hm_all (l := l) (kc := kc) (D := D) (xb := xb) (ad := z_ad xb u) hE)) 100 false 0 (yL, cL, 5, some .int, tabL, 4, []) _ true hm_B3 8 hm_z8 es2 hes2 hM p e (z_rm (d + 1) 1 6) s m _ below meth c _ (va_A ws0 s.heap.size) s.heap u 1 6 [r.toInt] (hctx u 1 6 (by decide) (by decide) rfl) (fun h => by cases h) ⟨rfl, rfl, fun p q hp => ?_⟩ (fun q2 hq2 env2 he2 hB2 => ?_) ls1 _ u H1 locs1 ⟨⟨[], ⟨hlv.1, hlv.2.1, fun _ h => by cases h⟩, trivial⟩, ⟨⟨r, rfl, congrArg some (Int.add_zero _)⟩, ⟨w0, rfl, hw0⟩, ⟨o', by rw [u4, sad]; exact ho1, rfl⟩, trivial⟩, (fun _ h => by cases h), (fun _ => u1), y_Go_to u2, by rw [u4]; exact u3, y_fr_refl, rfl, by rw [← ht]; exact hP2, hD2.weaken (fun _ _ _ h => hAA _ h), hS2⟩
          · match p, hp with
            | 0, hp => cases hp; exact ⟨_, rfl, (z_any r).1, (z_any r).2, fun _ _ e => by cases e⟩
            | p + 1, hp => simp [hm_B3] at hp
          · intro ls3 sv3 ws3 H3 locs3 hS3
            have h9 := List.all_eq_true.mp hc2 q2 hq2
            simp only [Bool.and_eq_true] at h9
            obtain ⟨k1, k2, k3⟩ := h9
            unfold hm_fl at k2
            simp only [Bool.and_eq_true] at k2
            obtain ⟨g1, g2, g3⟩ := k2
            obtain ⟨t1, t2, tk, tf, tG, tw, tfr, tad, tP, tD, tS⟩ := hS3
            have hGo3 : y_Go yGR ws3 := by
              rw [List.isEmpty_iff.mp g2, List.isEmpty_iff.mp g3] at tG
              exact y_Go_of tG
            split at k3
            next hst3 =>
              rw [hst3] at t2
              obtain ⟨_, sv6, rfl, ⟨z0, rfl, hz0⟩, e6⟩ := y_st1 t2
              obtain rfl : sv6 = [] := by
                cases sv6 with
                | nil => rfl
                | cons _ _ => exact e6.elim
              have hz1 : (0 : Int) = z0.toInt := Option.some.inj hz0
              have hpc2 : q2.2.1 = 18 := by simpa using k1
              rw [hpc2]
              refine vx_ret (XC := zXN) ?_
              exact W.zret (ty := .int) (v := z0) hx hb Bd.returns rfl (fun t' ht' hW' => ⟨⟨z0, ws3, rfl, ⟨⟨by omega, by omega⟩, ⟨tf g1, hGo3, by rw [← sad, ← u4]; exact tw, tad.trans (u4.trans sad)⟩, fun r k => (tfr r k rfl).trans ((u5 r k).trans (sfr r k rfl))⟩, by rw [ht']; exact tP, tD⟩, tS.F ht'⟩) tS.2.2 d18 Bd.notSynchronized
            next => cases k3
        next => cases hc2
    next => cases q3
  next => cases hc1
end HM2
/-! ===== the law's cases of man and coat ===== -/
def rv_c1 (p0 p1 : Nat) : Bool := match y_run yP0 yTYV zTF rl_E yRC yGR (y_ct rl_CT yTYV yRC rl_E 40) 100 true 40 ym_law (fun _ _ _ => false) true (rl_B hl_B rl_L) p0 rl_z with
  | some es => es.all (fun q => q.2.1 == p1 && (hl_lc q.2.2.1 && (hm_fl q && (rl_L.all (fun p => hq_ad (hq_k q p.1.1 p.1.2) (hq_k q p.2.1.1 p.2.1.2) 0) && (match q.2.2.2.1 with
    | [.inr (.inl (some 226)), .inl (.inr (3, 0)), .inl (.inr (2, 0)), .inr (.inl (some 1))] => true
    | _ => false)))))
  | none => false
def rv_B : yB := rl_B (8, (0, 1, none) :: hl_B.2) rl_L
def rv_z : yS := (hl_zl, [.inl (.inr (7, 0))], rl_k 8 rl_L, (true, [], []))
def rv_c2 (p1 : Nat) : Bool := match y_run yP0 yTYV zTF rl_E yRC yGR (y_ct rl_CT yTYV yRC rl_E 40) 3000 true 40 ym_law (fun pc _ _ => pc == 1347) true rv_B (p1 + 3) rv_z with
  | some es => es.all (rl_end rl_L)
  | none => false
theorem rv_51 : rv_c1 381 395 = true := by decide +kernel
theorem rv_52 : rv_c2 395 = true := by decide +kernel
theorem rv_61 : rv_c1 421 435 = true := by decide +kernel
theorem rv_62 : rv_c2 435 = true := by decide +kernel
def rl_S0 (s : State) (b : Nat) (kc : Nat → ClassId) (D : va_G) (xs : Nat → Int32) (i : Nat) (ls : Array Slot) (ws : va_W) (H : Heap) (locs : List Loc) : Prop := hl_S s b kc D xs i ls ws H locs ∧ (rl_R rl_L ws ∧ rq_R kc ws)
/-- whatever kc tells of the NAMES -/
def rl_S (s : State) (b : Nat) (kc : Nat → ClassId) (D : va_G) (xs : Nat → Int32) (i : Nat) (ls : Array Slot) (ws : va_W) (H : Heap) (locs : List Loc) : Prop := ∃ kc1 : Nat → ClassId, (∀ k, k < 1000 → kc1 k = kc k) ∧ rl_S0 s b kc1 D xs i ls ws H locs
theorem rl_Sk {s : State} {b : Nat} {kc kc1 : Nat → ClassId} {D : va_G} {xs : Nat → Int32} {i : Nat} {ls : Array Slot} {ws : va_W} {H : Heap} {locs : List Loc} (hk : ∀ k, k < 1000 → kc1 k = kc k) (h : rl_S s b kc1 D xs i ls ws H locs) : rl_S s b kc D xs i ls ws H locs := by
  obtain ⟨kc2, h1, h2⟩ := h
  exact ⟨kc2, fun k hk9 => (h1 k hk9).trans (hk k hk9), h2⟩
theorem hl_Ck {EX : (Nat → Prop) → State → Heap → Prop} {p : Program} {s : State} {m : MethodId} {meth : Method} {c : Code} {b L : Nat} {xs : Nat → Int32} {kc kc1 : Nat → ClassId} {D : va_G} (h : hl_C EX p s m meth c b L xs kc D) (hk : ∀ k, k < 1000 → kc1 k = kc k) : hl_C EX p s m meth c b L xs kc1 D := by
  obtain ⟨h1, h2, h3⟩ := h
  refine ⟨h1, ?_, h3⟩
  have e : z_TY kc1 = z_TY kc := by
    unfold z_TY
    rw [hk 0 (by decide), hk 1 (by decide), hk 2 (by decide), hk 3 (by decide), hk 4 (by decide), hk 5 (by decide)]
  rw [e]
  exact h2
def rl_mc0 (p : Program) (l : Launch) (e : Env) (s : State) (m : MethodId) (below : List Frame) (meth : Method) (c : Code) (b L : Nat) (xs : Nat → Int32) (kc : Nat → ClassId) (D : va_G) (pc : Nat) : Prop := ∀ (i nc ns : Nat), i + 6 ≤ L → nc + 1 ≤ 600000 → ns + 6 ≤ 7000000 → (∀ nc' ns' : Nat, nc' ≤ nc + 1 → ns' ≤ ns + 6 → ∀ ls ws H locs, rl_S s b kc D xs i ls ws H locs → hl_W p l e s m below meth c b H locs nc' ns' (F0 m 1347 ls [])) → ∀ ls ws H locs, rl_S0 s b kc D xs i ls ws H locs → hl_W p l e s m below meth c b H locs nc ns (F0 m pc ls [])
section HV
variable {p : Program} {l : Launch} {e : Env} {s : State} {m : MethodId} {below : List Frame} {meth : Method} {c : Code} {b L : Nat} {xs : Nat → Int32} {kc : Nat → ClassId} {D : va_G} {EX : (Nat → Prop) → State → Heap → Prop}
set_option maxHeartbeats 4000000 in
theorem rv_thr (h : hl_C EX p s m meth c b L xs kc D) (hL : L ≤ 3072) {p0 p1 : Nat} (hc1 : rv_c1 p0 p1 = true) (hc2 : rv_c2 p1 = true) {yL : MethodName} {cL : ByteArray} {index d : Nat}
    (hM : ∀ (bx o : Nat) (x1 x2 : Int32) (ws0 : va_W) (sz : Nat), z_ad b ws0 1 = some bx → z_ad b ws0 226 = some o → hm_P kc b (z_ad b ws0) ws0 → vx_Met l yL (.codeWith yL cL 5 (some .int) [(0, 10, 13, 13)] :: zTB) (z_rm d 1 6) (va_Pc [.ref bx, .int x1, .int x2, .ref o] (z_pre EX zNT D vwCl kc ws0 sz)) (rm_Q kc D b (z_ad b ws0) ws0 sz 0 1) zXN 1 6 (va_A ws0 sz))
    (hcw : Cond.codeWith yL cL 5 (some .int) [(0, 10, 13, 13)] ∈ zTB) (hst : Cond.static yL ∈ zTB) (hlk : Cond.methodLink "HeldCoatsLaw" index yL ∈ zTB) (hini : Cond.initialized yL.cls ∈ zTB) (hsig : yL.cls ≠ "java/lang/invoke/MethodHandle" ∧ yL.cls ≠ "java/lang/invoke/VarHandle" ∧ (parseMethodDescriptor yL.desc).map (fun d => d.parameters.length) = some 4)
    (hd20 : d ≤ 40) (hd : decode code p1 = .ok (.invokestatic index, 3)) : rl_mc0 p l e s m below meth c b L xs kc D p0 := by
  intro i nc ns hi hnc hns kk ls ws H locs ⟨hS, hRel⟩
  obtain ⟨⟨hx, hb, hr, hml, hown, hts0, hX, hbl, hlocks, hgv⟩, hK, hN, hE, hEx⟩ := id h
  have hts : ∀ w ∈ zTB, w.before #[Value.ref b] s = true := fun w hw => hts0 w (List.mem_filter.mp hw).1
  have hown2 : s.vm.findClass "HeldCoatsLaw" = some m.cls := hown
  obtain ⟨env0, hp0, hB0, hk0⟩ := rl_mk hS.2.2.2.2.2.1 rl_L_t hRel.1 (hl_hB (i := i) (xs := xs) (by omega))
  unfold rv_c1 at hc1
  split at hc1
  next es hes =>
    refine y_run_ok (l := l) (kc := kc) (D := D) (xb := b) (TY := yTYV) (ad := z_ad b ws) (eff := rl_E) (RC := yRC) (GR := yGR) (RI := w_R) hE w_R_RI y_prog (y_ct_ok (eff := rl_E) (RC := yRC) w_R_RI (rl_all hE)) 100 true 40 ym_law _ true (rl_B hl_B rl_L) p0 rl_z es hes yo_law p e room_1 s m _ below meth c _ (zA0 s) s.heap ws nc ns env0 (hl_ctx h (by omega) (by omega)) (fun _ => y_SC_mono hp0 (rl_SC h hi hL)) hB0 (fun q hq env he0 hB => ?_) ls [] ws H locs ⟨y_l_mono hp0 hS.1, trivial, hk0, hS.2.2.2.1, y_Gs_mono hp0 hS.2.2.2.2.1, hS.2.2.2.2.2.1, y_fr_refl, hS.2.2.2.2.2.2.2⟩
    intro ls1 sv ws1 H1 locs1 hS1
    have h9 := List.all_eq_true.mp hc1 q hq
    simp only [Bool.and_eq_true] at h9
    obtain ⟨q1, q2, q3, q9, q4⟩ := h9
    have he : hl_env i xs <+: env := List.IsPrefix.trans hp0 he0
    unfold hm_fl at q3
    simp only [Bool.and_eq_true] at q3
    obtain ⟨f1, f2, f3⟩ := q3
    have hpc : q.2.1 = p1 := by simpa using q1
    obtain ⟨s1, s2, sk, sf, sG, sw, sfr, sad, sP, sD, sS⟩ := hS1
    have hGo : y_Go yGR ws1 := by
      rw [List.isEmpty_iff.mp f2, List.isEmpty_iff.mp f3] at sG
      exact y_Go_of sG
    have hRel1 : rl_R rl_L ws1 := rl_end_R q9 sk
    have hBy1 : rq_R kc ws1 := rq_fr sfr hRel.2
    have hpp : hm_P kc b (z_ad b ws1) ws1 := ⟨sf f1, hGo, by rw [sad]; exact sw, rfl⟩
    have hloc := hl_loc q2 he s1
    split at q4
    next hst4 =>
      rw [hst4] at s2
      obtain ⟨_, sv1, rfl, ⟨o, ho, rfl⟩, e1⟩ := y_st1 s2
      obtain ⟨_, sv2, rfl, ⟨x2, rfl, hx2⟩, e2⟩ := y_st1 e1
      obtain ⟨_, sv3, rfl, ⟨x1, rfl, hx1⟩, e3⟩ := y_st1 e2
      obtain ⟨_, sv4, rfl, ⟨b1, hb1, rfl⟩, e4⟩ := y_st1 e3
      obtain rfl : sv4 = [] := by
        cases sv4 with
        | nil => rfl
        | cons _ _ => exact e4.elim
      obtain ⟨lv, hlv, hz⟩ := id s1
      have hAA : ∀ q, va_A ws1 H1.size q → zA0 s q := by
        intro q hq
        rcases hq with ⟨k, e1, hk⟩ | hq
        · exact sD.2 k (q, e1) hk
        · exact Nat.le_trans sS.1 hq
      have hM' := hM b1 o x1 x2 ws1 H1.size (by rw [sad]; exact hb1) (by rw [sad]; exact ho) hpp
      have hp : PreS s H1 (va_Pc [.ref b1, .int x1, .int x2, .ref o] (z_pre EX zNT D vwCl kc ws1 H1.size)) [.ref b1, .int x1, .int x2, .ref o] := ⟨z_blind hE, fun U hU hW => ⟨rfl, by rw [hU], by rw [hU]; exact sP, va_K.moved hW.alike hK, sD.weaken (fun _ _ _ _ => trivial), z_N_moved hW hN, z_exin hE hEx (fun _ h => h) sD sS hU hW⟩⟩
      have hT : GoodIn zTB (va_wsS "HeldCoatsLaw" index yL (Cond.codeWith yL cL 5 (some .int) [(0, 10, 13, 13)] :: zTB)) := by
        have key : ∀ w ∈ va_wsS "HeldCoatsLaw" index yL (Cond.codeWith yL cL 5 (some .int) [(0, 10, 13, 13)] :: zTB), w ∈ zTB := by
          intro w hw
          unfold va_wsS at hw
          rcases List.mem_append.mp hw with h9 | h9
          · simp only [List.mem_cons, List.not_mem_nil, or_false] at h9
            rcases h9 with rfl | rfl | rfl
            · exact hlk
            · exact hst
            · exact hini
          · rcases List.mem_cons.mp h9 with rfl | h9
            · exact hcw
            · exact h9
        exact fun w hw => ⟨key w hw, good_of_word (zTB_good w (key w hw))⟩
      have cw : vx_CSW room_1 s #[Value.ref b] "HeldCoatsLaw" index yL cL 5 (some .int) [(0, 10, 13, 13)] (Cond.codeWith yL cL 5 (some .int) [(0, 10, 13, 13)] :: zTB) (z_rm d 1 6) 1 6 4 := vx_cwSW 4 hts hT rfl rfl rfl hsig ⟨Nat.le_trans (by show d + 1 + 1 ≤ 42; omega) (by decide : 42 ≤ room_1.frames), Nat.le_trans (by show 8 + (5 + 11) + (100 * d + 100) ≤ 4200; omega) (by decide : 4200 ≤ room_1.locals)⟩
      rw [hpc]
      refine vx_calli (a := [.ref b1, .int x1, .int x2, .ref o].toArray) (vx_runSX (g := F0 m p1 ls1 [.ref o, .int x2, .int x1, .ref b1]) (rest := []) ⟨hx, hb, hml, hown2, hts⟩ hM' cw hp rfl rfl hlv.1 rfl (Nat.zero_le _) hd ⟨by show nc + 1 ≤ 601024; omega, by show ns + 6 ≤ 7293034; omega⟩) sS (fun q _ h => hAA q h) hAA (fun q _ h => h.elim) (fun E ce q9 u t H1 locs1 ht hvm hpx _ _ _ _ _ _ _ => hpx.elim) (fun r u t H2 locs2 ht hvm hw hB9 hz1 hk1 hS2 => ?_)
      obtain ⟨⟨r1, r2⟩, ⟨u1, u2, u3, u4⟩, u5⟩ := hw
      have hRel2 : rl_R rl_L u := fun q hq => by
        obtain ⟨x, y1, y2⟩ := hRel1 q hq
        exact ⟨x, (u5 _ _).trans y1, (u5 _ _).trans y2⟩
      have hBy2 : rq_R kc u := rq_same (fun r k => u5 r k) hBy1
      have hwu : y_w kc (z_ad b u) yTYV u := by rw [u4]; exact u3
      obtain ⟨env9, hp9, hB9', hk9⟩ := rl_mk hwu rl_L_t hRel2 (y_B_push (hl_hB (i := i) (xs := xs) (by omega)) (q := (0, 1, none)) (v := r.toInt) ⟨r1, r2, fun _ _ e => by cases e⟩)
      unfold rv_c2 at hc2
      split at hc2
      next es2 hes2 =>
        have hpre : hl_env i xs <+: hl_env i xs ++ [r.toInt] := List.prefix_append _ _
        refine y_run_ok (l := l) (kc := kc) (D := D) (xb := b) (TY := yTYV) (ad := z_ad b u) (eff := rl_E) (RC := yRC) (GR := yGR) (RI := w_R) hE w_R_RI y_prog (y_ct_ok (eff := rl_E) (RC := yRC) w_R_RI (rl_all hE)) 3000 true 40 ym_law _ true rv_B (p1 + 3) rv_z es2 hes2 yo_law p e room_1 s m _ below meth c _ (zA0 s) s.heap u (nc + 1) (ns + 6) env9 (hl_ctx h (by omega) (by omega)) (fun _ => y_SC_mono (List.IsPrefix.trans hpre hp9) (rl_SC h hi hL)) hB9' (fun q2 hq2 env2 he2 hB2 => ?_) ls1 _ u H2 locs2 ⟨?_, ⟨⟨r, rfl, ?_⟩, trivial⟩, hk9, (fun _ => u1), y_Go_to u2, by rw [u4]; exact u3, y_fr_refl, rfl, by rw [← ht]; exact hB9.1, hB9.2.weaken (fun _ _ _ h => hAA _ h), hS2⟩
        · intro ls3 sv3 ws3 H3 locs3 hS3
          have h8 := List.all_eq_true.mp hc2 q2 hq2
          unfold rl_end at h8
          rw [Bool.and_eq_true] at h8
          have hR3 := rl_end_R h8.2 hS3.2.2.1
          obtain ⟨g1, rfl, g3⟩ := hl_back h8.1 (List.IsPrefix.trans (List.IsPrefix.trans hpre hp9) he2) (rl_up hS3)
          rw [g1]
          exact kk (nc + 1) (ns + 6) (Nat.le_refl _) (Nat.le_refl _) ls3 ws3 H3 locs3 ⟨kc, fun _ _ => rfl, g3, hR3, rq_fr hS3.2.2.2.2.2.2.1 hBy2⟩
        · rw [u4, sad]
          exact y_l_mono (List.IsPrefix.trans hpre hp9) hloc
        · exact y_e_mono hp9 ((show y_e (hl_env i xs ++ [r.toInt]) (.inr (7, 0)) = some (r.toInt + 0) from rfl).trans (congrArg some (Int.add_zero _)))
      next => cases hc2
    next => cases q4
  next => cases hc1
theorem rv_c5 (h : hl_C EX p s m meth c b L xs kc D) (hL : L ≤ 3072) (hthr : ∀ (A : Nat → Prop) (U : State) (H : Heap), EX A U H → zEx A U H) (hl : l.stackTraces = false) : rl_mc0 p l e s m below meth c b L xs kc D 381 :=
  rv_thr h hL rv_51 rv_52 (index := 45) (d := 31) (fun bx o x1 x2 ws0 sz g1 g2 g3 => rm_catches h.2.2.2.1 hthr yo_lman rfl (by decide) rfl rm_m1 rm_m2 (fun b9 w1 w2 ws9 sz9 k1 k2 => rm_throws h.2.2.2.1 hthr hl (show yP0 119 = some ym_X11_man from rfl) rm_ck5 rfl (Nat.le_refl 30) (fun k hk => by rcases hk with rfl | rfl <;> decide +kernel) k1 k2) ⟨zw_1268, zw_1, by decide +kernel⟩ zw_1265 zw_1266 zw_1267 (by decide +kernel) (by decide +kernel) (by decide +kernel) (by decide +kernel) (by decide +kernel) g1 g2 g3) zw_1263 zw_1262 zw_1261 zw_0 (by decide +kernel) (by decide) (by decide +kernel)
theorem rv_c6 (h : hl_C EX p s m meth c b L xs kc D) (hL : L ≤ 3072) (hthr : ∀ (A : Nat → Prop) (U : State) (H : Heap), EX A U H → zEx A U H) (hl : l.stackTraces = false) : rl_mc0 p l e s m below meth c b L xs kc D 421 :=
  rv_thr h hL rv_61 rv_62 (index := 51) (d := 31) (fun bx o x1 x2 ws0 sz g1 g2 g3 => rm_catches h.2.2.2.1 hthr yo_lcoat rfl (by decide) rfl rm_n1 rm_n2 (fun b9 w1 w2 ws9 sz9 k1 k2 => rm_throws h.2.2.2.1 hthr hl (show yP0 120 = some ym_X11_coat from rfl) rm_ck6 rfl (Nat.le_refl 30) (fun k hk => by rcases hk with rfl | rfl <;> decide +kernel) k1 k2) ⟨zw_1348, zw_1, by decide +kernel⟩ zw_1345 zw_1346 zw_1347 (by decide +kernel) (by decide +kernel) (by decide +kernel) (by decide +kernel) (by decide +kernel) g1 g2 g3) zw_1344 zw_1343 zw_1342 zw_0 (by decide +kernel) (by decide) (by decide +kernel)
end HV
