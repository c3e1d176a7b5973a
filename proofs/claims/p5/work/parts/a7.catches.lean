/-! ===== the law's own man, coat: what they catch ===== -/
def hm_z4 : yS := ([(0, .inr (.inl (some 1))), (1, .inl (.inr (0, 0))), (2, .inl (.inr (1, 0))), (3, .inr (.inl (some 226)))], [], [], (true, [], []))
def hm_l4 (zl : List (Nat × yV)) : Bool := match y_get zl 0, y_get zl 1, y_get zl 2, y_get zl 3 with
  | some (.inr (.inl (some 1))), some (.inl (.inr (0, 0))), some (.inl (.inr (1, 0))), some (.inr (.inl (some 226))) => true
  | _, _, _, _ => false
def hm_fl (q : yB × Nat × yS) : Bool := q.2.2.2.2.2.1 && (q.2.2.2.2.2.2.1.isEmpty && q.2.2.2.2.2.2.2.isEmpty)
def hm_c1 (M : yM) : Bool := match y_run yP0 yTYV zTF hl_E yRC yGR (y_ct hm_CT yTYV yRC hl_E 30) 100 false 0 M (fun _ _ _ => false) true hm_B2 0 hm_z4 with
  | some es => es.all (fun q => q.2.1 == 5 && (hm_fl q && (match q.2.2.2.1 with
    | [.inl (.inr (1, 0)), .inl (.inr (0, 0)), .inr (.inl (some 1)), .inl (.inl 0), .inr (.inl (some 226))] => true
    | _ => false)))
  | none => false
def hm_B3 : yB := (1, [hl_Q])
def hm_z8 : yS := ([], [.inl (.inr (0, 0)), .inl (.inl 0), .inr (.inl (some 226))], [], (true, [], []))
def hm_c2 (M : yM) : Bool := match y_run yP0 yTYV zTF hl_E yRC yGR (y_ct hm_CT yTYV yRC hl_E 30) 100 false 0 M (fun _ _ _ => false) true hm_B3 8 hm_z8 with
  | some es => es.all (fun q => q.2.1 == 18 && (hm_fl q && (match q.2.2.2.1 with
    | [.inl (.inl 0)] => true
    | _ => false)))
  | none => false
theorem hm_m1 : hm_c1 ym_lman = true := by decide +kernel
theorem hm_m2 : hm_c2 ym_lman = true := by decide +kernel
theorem hm_n1 : hm_c1 ym_lcoat = true := by decide +kernel
theorem hm_n2 : hm_c2 ym_lcoat = true := by decide +kernel
section HM2
variable {EX : (Nat → Prop) → State → Heap → Prop} {l : Launch} {kc : Nat → ClassId} {D : va_G} {xb : Nat}
set_option maxHeartbeats 4000000 in
theorem hm_catches (hE : z_EX EX) (hthr : ∀ (A : Nat → Prop) (U : State) (H : Heap), EX A U H → zEx A U H) {yL y2 : MethodName} {cL c2 : ByteArray} {idx d : Nat} {tabL : List (List zE)}
    (hM : y_Mok zTB zNT vwCl zTF yP0 (yL, cL, 5, some .int, tabL, 4, [])) (hyL : yL.cls = "HeldCoatsLaw") (hni : yL.name ≠ "<init>") (hy2 : y2.cls = "HeldCoats")
    (hc1 : hm_c1 (yL, cL, 5, some .int, tabL, 4, []) = true) (hc2 : hm_c2 (yL, cL, 5, some .int, tabL, 4, []) = true)
    (h2 : ∀ (b : Nat) (x1 x2 : Int32) (ws0 : va_W) (sz : Nat), z_ad xb ws0 1 = some b → hm_P kc xb (z_ad xb ws0) ws0 → vx_Met l y2 (.code y2 c2 3 (some .int) :: zTB) (z_rm d 1 6) (va_Pc [.ref b, .int x1, .int x2] (z_pre EX zNT D vwCl kc ws0 sz)) (hm_Q kc D xb (z_ad xb ws0) ws0 sz (-2147483648) 2147483647) (hm_X kc D xb (z_ad xb ws0) ws0 sz) 1 6 (va_A ws0 sz))
    (hY : z_Y zTB y2 c2 3 2 (some .int)) (hlk : Cond.methodLink "HeldCoatsLaw" idx y2 ∈ zTB) (hin : Cond.instanceMethod y2 ∈ zTB) (hsel : Cond.selects y2.cls y2 y2 ∈ zTB)
    (d5 : decode cL 5 = .ok (.invokevirtual idx, 3)) (d13 : decode cL 13 = .ok (.astore 4, 2)) (d15 : decode cL 15 = .ok (.iconst 1, 1)) (d16 : decode cL 16 = .ok (.ireturn, 1)) (d18 : decode cL 18 = .ok (.ireturn, 1))
    {b o : Nat} {x1 x2 : Int32} {ws0 : va_W} {sz : Nat} (hb0 : z_ad xb ws0 1 = some b) (ho0 : z_ad xb ws0 226 = some o) (hp0 : hm_P kc xb (z_ad xb ws0) ws0) :
    vx_Met l yL (.codeWith yL cL 5 (some .int) [(0, 10, 13, 13)] :: zTB) (z_rm (d + 1) 1 6) (va_Pc [.ref b, .int x1, .int x2, .ref o] (z_pre EX zNT D vwCl kc ws0 sz)) (hm_Q kc D xb (z_ad xb ws0) ws0 sz 0 1) zXN 1 6 (va_A ws0 sz) := by
  refine vx_ofWH (cc := cL) (maxL := 5) (ret := some .int) (hh := [(0, 10, 13, 13)]) hM.1 rfl ?_
  intro p e s m args below meth c s₁ Bd hml hv
  obtain ⟨rfl, hsz, hP, hK, hD0, hN, hEx⟩ := hv
  subst hsz
  have hx := Bd.exec
  have hb := Bd.bytes
  have hts0 := atoms_spec (ws := Cond.codeWith yL cL 5 (some .int) [(0, 10, 13, 13)] :: zTB) Bd.pre
  have hts : ∀ w ∈ zTB, w.before _ s = true := fun w hw => hts0 w (List.mem_cons_of_mem _ hw)
  have hown : s.vm.findClass yL.cls = some m.cls := findClass_of_methodNamed Bd.named
  have hown2 : s.vm.findClass "HeldCoatsLaw" = some m.cls := by rw [← hyL]; exact hown
  have htab : c.exceptionTable.toList = tableOf [(0, 10, 13, 13)] := vx_table (x := yL) Bd (hts0 _ List.mem_cons_self)
  obtain ⟨hU, hN2, hDL⟩ := hthr _ _ _ hEx
  obtain ⟨p1, p2, p3, p4⟩ := hp0
  have hctx : ∀ (ws : va_W) (nc ns : Nat), nc ≤ 1 → ns ≤ 6 → z_ad xb ws = z_ad xb ws → y_ctx EX zTB zNT vwCl kc D p (z_rm (d + 1) 1 6) s m #[.ref b, .int x1, .int x2, .ref o] meth c (va_A ws0 s.heap.size) s.heap xb ws (z_ad xb ws) nc ns false 0 (yL, cL, 5, some .int, tabL, 4, []) := fun ws nc ns g1 g2 _ => ⟨hx, hb, hml, hown, fun h => absurd h hni, hts, hK, hN, fun q h => Or.inr h, by show 0 + 1 ≤ d + 1 + 1; omega, by show 100 * 0 + 100 ≤ 100 * (d + 1) + 100; omega, g1, g2, rfl, hEx, rfl⟩
  have hle := lv_entry ([.ref b, .int x1, .int x2, .ref o]) (n := 5) (Nat.le_of_ble_eq_true rfl)
  rw [lg_entry_eq]
  generalize (lg_sl ([.ref b, .int x1, .int x2, .ref o]) ++ List.replicate (5 - (lg_sl ([Value.ref b, .int x1, .int x2, .ref o])).length) Slot.unset).toArray = ls at hle ⊢
  unfold hm_c1 at hc1
  split at hc1
  next es hes =>
    refine y_run_ok (l := l) (kc := kc) (D := D) (xb := xb) (TY := yTYV) (ad := z_ad xb ws0) (eff := hl_E) (RC := yRC) (GR := yGR) (RI := w_R) hE w_R_RI y_prog (y_ct_ok (eff := hl_E) (RC := yRC) w_R_RI (hm_all (l := l) (kc := kc) (D := D) (xb := xb) (ad := z_ad xb ws0) hE)) 100 false 0 (yL, cL, 5, some .int, tabL, 4, []) _ true hm_B2 0 hm_z4 es hes hM p e (z_rm (d + 1) 1 6) s m _ below meth c _ (va_A ws0 s.heap.size) s.heap ws0 0 0 [x1.toInt, x2.toInt] (hctx ws0 0 0 (by decide) (by decide) rfl) (fun h => by cases h) hm_B2_ok (fun q hq env he hB => ?_) ls [] ws0 s.heap [] ⟨⟨_, hle, ⟨rfl, b, hb0, rfl⟩, ⟨rfl, x1, rfl, congrArg some (Int.add_zero _)⟩, ⟨rfl, x2, rfl, congrArg some (Int.add_zero _)⟩, ⟨rfl, o, ho0, rfl⟩, trivial⟩, trivial, (fun _ h => by cases h), (fun _ => p1), y_Go_to p2, p3, y_fr_refl, rfl, hP, hD0.self, va_S.rf⟩
    intro ls1 sv ws H locs hS
    have h9 := List.all_eq_true.mp hc1 q hq
    simp only [Bool.and_eq_true] at h9
    obtain ⟨q1, q2, q3⟩ := h9
    unfold hm_fl at q2
    simp only [Bool.and_eq_true] at q2
    obtain ⟨f1, f2, f3⟩ := q2
    have hpc : q.2.1 = 5 := by simpa using q1
    obtain ⟨s1, s2, sk, sf, sG, sw, sfr, sad, sP, sD, sS⟩ := hS
    have hGo : y_Go yGR ws := by
      rw [List.isEmpty_iff.mp f2, List.isEmpty_iff.mp f3] at sG
      exact y_Go_of sG
    have hpp : hm_P kc xb (z_ad xb ws) ws := ⟨sf f1, hGo, by rw [sad]; exact sw, rfl⟩
    have hx0 : ∀ k : Nat, env[k]? = ([x1.toInt, x2.toInt] : List Int)[k]? ∨ 2 ≤ k := fun k => by
      by_cases hk : k < 2
      · obtain ⟨r, rfl⟩ := he
        exact Or.inl (List.getElem?_append_left (by simpa using hk))
      · exact Or.inr (by omega)
    split at q3
    next hst =>
      rw [hst] at s2
      obtain ⟨_, sv1, rfl, ⟨w2, rfl, hw2⟩, e1⟩ := y_st1 s2
      obtain ⟨_, sv2, rfl, ⟨w1, rfl, hw1⟩, e2⟩ := y_st1 e1
      obtain ⟨_, sv3, rfl, ⟨b', hb1, rfl⟩, e3⟩ := y_st1 e2
      obtain ⟨_, sv4, rfl, ⟨w0, rfl, hw0⟩, e4⟩ := y_st1 e3
      obtain ⟨_, sv5, rfl, ⟨o', ho1, rfl⟩, e5⟩ := y_st1 e4
      obtain rfl : sv5 = [] := by
        cases sv5 with
        | nil => rfl
        | cons _ _ => exact e5.elim
      obtain ⟨lv, hlv, hz⟩ := id s1
      have hAA : ∀ q, va_A ws H.size q → va_A ws0 s.heap.size q := by
        intro q hq
        rcases hq with ⟨k, e1, hk⟩ | hq
        · exact sD.2 k (q, e1) hk
        · exact Or.inr (Nat.le_trans sS.1 hq)
      have hb2 : z_ad xb ws 1 = some b' := by rw [sad]; exact hb1
      obtain ⟨a9, e9, hws9, vs9, rfl, -⟩ := hpp.2.2.1 0 _ (show y_T yTYV 0 = some _ from rfl)
      have hab : a9 = b' := by
        have : z_ad xb ws 1 = some a9 := by show (ws[0]?).map (fun q => q.1) = _; rw [hws9]; rfl
        rw [hb2] at this
        exact (Option.some.inj this).symm
      subst hab
      have hM' := h2 a9 w1 w2 ws H.size hb2 hpp
      have hp : PreV s H y2.cls a9 (va_Pc [.ref a9, .int w1, .int w2] (z_pre EX zNT D vwCl kc ws H.size)) [.int w1, .int w2] := ⟨z_blind hE, va_recv (q := (y2.cls, _, _)) hK sP (by rw [hy2]; rfl) hws9, fun U hU hW => ⟨rfl, by rw [hU], by rw [hU]; exact sP, va_K.moved hW.alike hK, sD.weaken (fun _ _ _ _ => trivial), z_N_moved hW hN, z_exin hE hEx (fun q h => Or.inr h) sD sS hU hW⟩⟩
      rw [hpc]
      refine vx_calli (a := (Value.ref a9 :: [.int w1, .int w2]).toArray) (vx_runV (g := F0 m 5 ls1 (.int w2 :: .int w1 :: .ref a9 :: [.int w0, .ref o'])) ⟨hx, hb, hml, hown2, hts⟩ hM' ⟨callB_of 2 hts (z_good zTB_good hY.1) rfl rfl rfl (hts _ hY.2.1) (hts _ hlk) hY.2.2 ⟨by show d + 1 + 1 ≤ d + 1 + 1; omega, by show 8 + (3 + 11) + (100 * d + 100) ≤ 100 * (d + 1) + 100; omega⟩, hts _ hin, hts _ hsel⟩ hp rfl rfl hlv.1 rfl (lv_room (show (1 + (1 + 0) : Nat) ≤ 8 by decide)) d5 ⟨Nat.le_refl _, Nat.le_refl _⟩) sS (fun q _ h => hAA q h) hAA (fun q _ h => hAA q h) (fun E ce q9 u t H1 locs1 ht hvm hpx hBX hz1 hk1 hS2 hcell hcv hcl2 => ?_) (fun r u t H1 locs1 ht hvm hp9 hB9 hz1 hk1 hS2 => ?_)
      · obtain ⟨rfl, hP2, hD2⟩ := hBX
        refine z_catch (own := "HeldCoatsLaw") (name := "java/util/NoSuchElementException") hown2 ⟨0, 10, 13, 13⟩ (htab.trans rfl) (by decide) (by decide) (hts _ zw_1264) (va_Nw.use rfl (hDL _ (List.mem_cons_of_mem _ (List.mem_cons_of_mem _ (List.mem_cons_of_mem _ List.mem_cons_self))))) hcell hcv hcl2 ?_
        refine lv_astore (i := 4) (nL := 5) hx hb d13 hlv (by decide) rfl (fun ls' hls' => ?_)
        refine lv_iconst (v := 1) hx hb d15 (by decide) ?_
        refine vx_ret (XC := zXN) ?_
        exact W.zret (ty := .int) (v := 1) hx hb Bd.returns rfl (fun t' ht' hW' => ⟨⟨1, u, rfl, ⟨⟨by decide, by decide⟩, hpx.1, hpx.2.1, by rw [← sad]; exact hpx.2.2.1, hpx.2.2.2.trans sad⟩, by rw [ht', ← ht]; exact hP2, hD2.weaken (fun _ _ _ h => hAA _ h)⟩, hS2.F ht'⟩) hS2.2.2 d16 Bd.notSynchronized
      · obtain ⟨hP2, hD2⟩ := hB9
        obtain ⟨_, u1, u2, u3, u4⟩ := hp9
        unfold hm_c2 at hc2
        split at hc2
        next es2 hes2 =>
          refine y_run_ok (l := l) (kc := kc) (D := D) (xb := xb) (TY := yTYV) (ad := z_ad xb u) (eff := hl_E) (RC := yRC) (GR := yGR) (RI := w_R) hE w_R_RI y_prog (y_ct_ok (eff := hl_E) (RC := yRC) w_R_RI (hm_all (l := l) (kc := kc) (D := D) (xb := xb) (ad := z_ad xb u) hE)) 100 false 0 (yL, cL, 5, some .int, tabL, 4, []) _ true hm_B3 8 hm_z8 es2 hes2 hM p e (z_rm (d + 1) 1 6) s m _ below meth c _ (va_A ws0 s.heap.size) s.heap u 1 6 [r.toInt] (hctx u 1 6 (by decide) (by decide) rfl) (fun h => by cases h) ⟨rfl, rfl, fun p q hp => ?_⟩ (fun q2 hq2 env2 he2 hB2 => ?_) ls1 _ u H1 locs1 ⟨⟨[], ⟨hlv.1, hlv.2.1, fun _ h => by cases h⟩, trivial⟩, ⟨⟨r, rfl, congrArg some (Int.add_zero _)⟩, ⟨w0, rfl, hw0⟩, ⟨o', by rw [u4, sad]; exact ho1, rfl⟩, trivial⟩, (fun _ h => by cases h), (fun _ => u1), y_Go_to u2, by rw [u4]; exact u3, y_fr_refl, rfl, by rw [← ht]; exact hP2, hD2.weaken (fun _ _ _ h => hAA _ h), hS2⟩
          · match p, hp with
            | 0, hp => cases hp; exact ⟨_, rfl, (z_any r).1, (z_any r).2, fun _ _ e => by cases e⟩
            | p + 1, hp => simp [hm_B3] at hp
          · intro ls3 sv3 ws3 H3 locs3 hS3
            have h9 := List.all_eq_true.mp hc2 q2 hq2
            simp only [Bool.and_eq_true] at h9
            obtain ⟨k1, k2, k3⟩ := h9
            unfold hm_fl at k2
            simp only [Bool.and_eq_true] at k2
            obtain ⟨g1, g2, g3⟩ := k2
            obtain ⟨t1, t2, tk, tf, tG, tw, tfr, tad, tP, tD, tS⟩ := hS3
            have hGo3 : y_Go yGR ws3 := by
              rw [List.isEmpty_iff.mp g2, List.isEmpty_iff.mp g3] at tG
              exact y_Go_of tG
            split at k3
            next hst3 =>
              rw [hst3] at t2
              obtain ⟨_, sv6, rfl, ⟨z0, rfl, hz0⟩, e6⟩ := y_st1 t2
              obtain rfl : sv6 = [] := by
                cases sv6 with
                | nil => rfl
                | cons _ _ => exact e6.elim
              have hz1 : (0 : Int) = z0.toInt := Option.some.inj hz0
              have hpc2 : q2.2.1 = 18 := by simpa using k1
              rw [hpc2]
              refine vx_ret (XC := zXN) ?_
              exact W.zret (ty := .int) (v := z0) hx hb Bd.returns rfl (fun t' ht' hW' => ⟨⟨z0, ws3, rfl, ⟨⟨by omega, by omega⟩, tf g1, hGo3, by rw [← sad, ← u4]; exact tw, tad.trans (u4.trans sad)⟩, by rw [ht']; exact tP, tD⟩, tS.F ht'⟩) tS.2.2 d18 Bd.notSynchronized
            next => cases k3
        next => cases hc2
    next => cases q3
  next => cases hc1
end HM2
