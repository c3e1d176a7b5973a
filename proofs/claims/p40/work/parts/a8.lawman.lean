/-! ===== the law's cases of man and coat ===== -/
def hv_c1 (p0 p1 : Nat) : Bool := match y_run yP0 yTY zTF hl_E yRC yGR (y_ct hl_CT yTY yRC hl_E 40) 100 true 40 ym_law (fun _ _ _ => false) true hl_B p0 hl_z with
  | some es => es.all (fun q => q.2.1 == p1 && (hl_lc q.2.2.1 && (hm_fl q && (match q.2.2.2.1 with
    | [.inr (.inl (some 226)), .inl (.inr (3, 0)), .inl (.inr (2, 0)), .inr (.inl (some 1))] => true
    | _ => false))))
  | none => false
def hv_B : yB := (8, (0, 1, none) :: hl_B.2)
def hv_z : yS := (hl_zl, [.inl (.inr (7, 0))], [], (true, [], []))
def hv_c2 (p1 : Nat) : Bool := match y_run yP0 yTY zTF hl_E yRC yGR (y_ct hl_CT yTY yRC hl_E 40) 3000 true 40 ym_law (fun pc _ _ => pc == 1347) true hv_B (p1 + 3) hv_z with
  | some es => es.all hl_end
  | none => false
theorem hv_51 : hv_c1 381 395 = true := by decide +kernel
theorem hv_52 : hv_c2 395 = true := by decide +kernel
theorem hv_61 : hv_c1 421 435 = true := by decide +kernel
theorem hv_62 : hv_c2 435 = true := by decide +kernel
theorem hl_loc {xs : Nat → Int32} {ad : Nat → Option Nat} {zl : List (Nat × yV)} (e2 : hl_lc zl = true) {i : Nat} {env : List Int} (he : hl_env i xs <+: env) {ls : Array Slot} (h1 : y_l env ad 7 zl ls) : y_l (hl_env i xs) ad 7 hl_zl ls := by
  unfold hl_lc at e2
  rw [Bool.and_eq_true] at e2
  obtain ⟨f1, f2⟩ := e2
  split at f1
  next g0 g1 g2 =>
    split at f2
    next g3 g4 =>
      obtain ⟨v0, a0, b0⟩ := y_l_at h1 g0
      obtain ⟨v1, a1, b1⟩ := y_l_at h1 g1
      obtain ⟨v2, a2, b2⟩ := y_l_at h1 g2
      obtain ⟨v3, a3, b3⟩ := y_l_at h1 g3
      obtain ⟨v4, a4, x4, rfl, b4⟩ := y_l_at h1 g4
      obtain ⟨lv, hlv, _⟩ := h1
      refine ⟨[(0, v0), (1, v1), (2, v2), (3, v3), (4, .int x4)], ⟨hlv.1, hlv.2.1, fun r hr => ?_⟩, ⟨rfl, b0⟩, ⟨rfl, b1⟩, ⟨rfl, b2⟩, ⟨rfl, b3⟩, ⟨rfl, x4, rfl, ?_⟩, trivial⟩
      · rcases List.mem_cons.mp hr with rfl | hr
        · exact a0
        rcases List.mem_cons.mp hr with rfl | hr
        · exact a1
        rcases List.mem_cons.mp hr with rfl | hr
        · exact a2
        rcases List.mem_cons.mp hr with rfl | hr
        · exact a3
        have := List.mem_singleton.mp hr
        subst this
        exact a4
      · have he0 : env[0]? = some (i : Int) := y_pre_get he rfl
        unfold y_e at b4
        dsimp only at b4
        rw [he0] at b4
        exact (show y_e (hl_env i xs) (.inr (0, 0)) = some ((i : Int) + 0) from rfl).trans b4
    next => cases f2
  next => cases f1
section HV
variable {p : Program} {l : Launch} {e : Env} {s : State} {m : MethodId} {below : List Frame} {meth : Method} {c : Code} {b L : Nat} {xs : Nat → Int32} {kc : Nat → ClassId} {D : va_G} {EX : (Nat → Prop) → State → Heap → Prop}
set_option maxHeartbeats 4000000 in
theorem hv_thr (h : hl_C EX p s m meth c b L xs kc D) (hL : L ≤ 3072) {p0 p1 : Nat} (hc1 : hv_c1 p0 p1 = true) (hc2 : hv_c2 p1 = true) {yL : MethodName} {cL : ByteArray} {index d : Nat}
    (hM : ∀ (bx o : Nat) (x1 x2 : Int32) (ws0 : va_W) (sz : Nat), z_ad b ws0 1 = some bx → z_ad b ws0 226 = some o → hm_P kc b (z_ad b ws0) ws0 → vx_Met l yL (.codeWith yL cL 5 (some .int) [(0, 10, 13, 13)] :: zTB) (z_rm d 1 6) (va_Pc [.ref bx, .int x1, .int x2, .ref o] (z_pre EX zNT D vwCl kc ws0 sz)) (hm_Q kc D b (z_ad b ws0) ws0 sz 0 1) zXN 1 6 (va_A ws0 sz))
    (hcw : Cond.codeWith yL cL 5 (some .int) [(0, 10, 13, 13)] ∈ zTB) (hst : Cond.static yL ∈ zTB) (hlk : Cond.methodLink "HeldCoatsLaw" index yL ∈ zTB) (hini : Cond.initialized yL.cls ∈ zTB) (hsig : yL.cls ≠ "java/lang/invoke/MethodHandle" ∧ yL.cls ≠ "java/lang/invoke/VarHandle" ∧ (parseMethodDescriptor yL.desc).map (fun d => d.parameters.length) = some 4)
    (hd20 : d ≤ 40) (hd : decode code p1 = .ok (.invokestatic index, 3)) : hl_mc p l e s m below meth c b L xs kc D p0 := by
  intro i nc ns hi hnc hns kk ls ws H locs hS
  obtain ⟨⟨hx, hb, hr, hml, hown, hts0, hX, hbl, hlocks, hgv⟩, hK, hN, hE, hEx⟩ := id h
  have hts : ∀ w ∈ zTB, w.before #[Value.ref b] s = true := fun w hw => hts0 w (List.mem_filter.mp hw).1
  have hown2 : s.vm.findClass "HeldCoatsLaw" = some m.cls := hown
  unfold hv_c1 at hc1
  split at hc1
  next es hes =>
    refine y_run_ok (l := l) (kc := kc) (D := D) (xb := b) (TY := yTY) (ad := z_ad b ws) (eff := hl_E) (RC := yRC) (GR := yGR) (RI := w_R) hE w_R_RI y_prog (y_ct_ok (eff := hl_E) (RC := yRC) w_R_RI (hl_all hE)) 100 true 40 ym_law _ true hl_B p0 hl_z es hes yo_law p e room_1 s m _ below meth c _ (zA0 s) s.heap ws nc ns (hl_env i xs) (hl_ctx h (by omega) (by omega)) (fun _ => hl_SC h hi hL) (hl_hB (by omega)) (fun q hq env he hB => ?_) ls [] ws H locs hS
    intro ls1 sv ws1 H1 locs1 hS1
    have h9 := List.all_eq_true.mp hc1 q hq
    simp only [Bool.and_eq_true] at h9
    obtain ⟨q1, q2, q3, q4⟩ := h9
    unfold hm_fl at q3
    simp only [Bool.and_eq_true] at q3
    obtain ⟨f1, f2, f3⟩ := q3
    have hpc : q.2.1 = p1 := by simpa using q1
    obtain ⟨s1, s2, sk, sf, sG, sw, sfr, sad, sP, sD, sS⟩ := hS1
    have hGo : y_Go yGR ws1 := by
      rw [List.isEmpty_iff.mp f2, List.isEmpty_iff.mp f3] at sG
      exact y_Go_of sG
    have hpp : hm_P kc b (z_ad b ws1) ws1 := ⟨sf f1, hGo, by rw [sad]; exact sw, rfl⟩
    have hloc := hl_loc q2 he s1
    split at q4
    next hst4 =>
      rw [hst4] at s2
      obtain ⟨_, sv1, rfl, ⟨o, ho, rfl⟩, e1⟩ := y_st1 s2
      obtain ⟨_, sv2, rfl, ⟨x2, rfl, hx2⟩, e2⟩ := y_st1 e1
      obtain ⟨_, sv3, rfl, ⟨x1, rfl, hx1⟩, e3⟩ := y_st1 e2
      obtain ⟨_, sv4, rfl, ⟨b1, hb1, rfl⟩, e4⟩ := y_st1 e3
      obtain rfl : sv4 = [] := by
        cases sv4 with
        | nil => rfl
        | cons _ _ => exact e4.elim
      obtain ⟨lv, hlv, hz⟩ := id s1
      have hAA : ∀ q, va_A ws1 H1.size q → zA0 s q := by
        intro q hq
        rcases hq with ⟨k, e1, hk⟩ | hq
        · exact sD.2 k (q, e1) hk
        · exact Nat.le_trans sS.1 hq
      have hM' := hM b1 o x1 x2 ws1 H1.size (by rw [sad]; exact hb1) (by rw [sad]; exact ho) hpp
      have hp : PreS s H1 (va_Pc [.ref b1, .int x1, .int x2, .ref o] (z_pre EX zNT D vwCl kc ws1 H1.size)) [.ref b1, .int x1, .int x2, .ref o] := ⟨z_blind hE, fun U hU hW => ⟨rfl, by rw [hU], by rw [hU]; exact sP, va_K.moved hW.alike hK, sD.weaken (fun _ _ _ _ => trivial), z_N_moved hW hN, z_exin hE hEx (fun _ h => h) sD sS hU hW⟩⟩
      have hT : GoodIn zTB (va_wsS "HeldCoatsLaw" index yL (Cond.codeWith yL cL 5 (some .int) [(0, 10, 13, 13)] :: zTB)) := by
        have key : ∀ w ∈ va_wsS "HeldCoatsLaw" index yL (Cond.codeWith yL cL 5 (some .int) [(0, 10, 13, 13)] :: zTB), w ∈ zTB := by
          intro w hw
          unfold va_wsS at hw
          rcases List.mem_append.mp hw with h9 | h9
          · simp only [List.mem_cons, List.not_mem_nil, or_false] at h9
            rcases h9 with rfl | rfl | rfl
            · exact hlk
            · exact hst
            · exact hini
          · rcases List.mem_cons.mp h9 with rfl | h9
            · exact hcw
            · exact h9
        exact fun w hw => ⟨key w hw, good_of_word (zTB_good w (key w hw))⟩
      have cw : vx_CSW room_1 s #[Value.ref b] "HeldCoatsLaw" index yL cL 5 (some .int) [(0, 10, 13, 13)] (Cond.codeWith yL cL 5 (some .int) [(0, 10, 13, 13)] :: zTB) (z_rm d 1 6) 1 6 4 := vx_cwSW 4 hts hT rfl rfl rfl hsig ⟨Nat.le_trans (by show d + 1 + 1 ≤ 42; omega) (by decide : 42 ≤ room_1.frames), Nat.le_trans (by show 8 + (5 + 11) + (100 * d + 100) ≤ 4200; omega) (by decide : 4200 ≤ room_1.locals)⟩
      rw [hpc]
      refine vx_calli (a := [.ref b1, .int x1, .int x2, .ref o].toArray) (vx_runSX (g := F0 m p1 ls1 [.ref o, .int x2, .int x1, .ref b1]) (rest := []) ⟨hx, hb, hml, hown2, hts⟩ hM' cw hp rfl rfl hlv.1 rfl (Nat.zero_le _) hd ⟨by show nc + 1 ≤ 601024; omega, by show ns + 6 ≤ 7293034; omega⟩) sS (fun q _ h => hAA q h) hAA (fun q _ h => h.elim) (fun E ce q9 u t H1 locs1 ht hvm hpx _ _ _ _ _ _ _ => hpx.elim) (fun r u t H2 locs2 ht hvm hw hB9 hz1 hk1 hS2 => ?_)
      obtain ⟨⟨r1, r2⟩, u1, u2, u3, u4⟩ := hw
      unfold hv_c2 at hc2
      split at hc2
      next es2 hes2 =>
        have hpre : hl_env i xs <+: hl_env i xs ++ [r.toInt] := List.prefix_append _ _
        refine y_run_ok (l := l) (kc := kc) (D := D) (xb := b) (TY := yTY) (ad := z_ad b u) (eff := hl_E) (RC := yRC) (GR := yGR) (RI := w_R) hE w_R_RI y_prog (y_ct_ok (eff := hl_E) (RC := yRC) w_R_RI (hl_all hE)) 3000 true 40 ym_law _ true hv_B (p1 + 3) hv_z es2 hes2 yo_law p e room_1 s m _ below meth c _ (zA0 s) s.heap u (nc + 1) (ns + 6) (hl_env i xs ++ [r.toInt]) (hl_ctx h (by omega) (by omega)) (fun _ => y_SC_mono hpre (hl_SC h hi hL)) (y_B_push (hl_hB (by omega)) ⟨r1, r2, fun _ _ e => by cases e⟩) (fun q2 hq2 env2 he2 hB2 => ?_) ls1 _ u H2 locs2 ⟨?_, ⟨⟨r, rfl, ?_⟩, trivial⟩, (fun _ h => by cases h), (fun _ => u1), y_Go_to u2, by rw [u4]; exact u3, y_fr_refl, rfl, by rw [← ht]; exact hB9.1, hB9.2.weaken (fun _ _ _ h => hAA _ h), hS2⟩
        · intro ls3 sv3 ws3 H3 locs3 hS3
          obtain ⟨g1, rfl, g3⟩ := hl_back (List.all_eq_true.mp hc2 q2 hq2) (List.IsPrefix.trans hpre he2) hS3
          rw [g1]
          exact kk (nc + 1) (ns + 6) (Nat.le_refl _) (Nat.le_refl _) ls3 ws3 H3 locs3 g3
        · rw [u4, sad]
          exact y_l_mono hpre hloc
        · exact (show y_e (hl_env i xs ++ [r.toInt]) (.inr (7, 0)) = some (r.toInt + 0) from rfl).trans (congrArg some (Int.add_zero _))
      next => cases hc2
    next => cases q4
  next => cases hc1
theorem hv_c5 (h : hl_C EX p s m meth c b L xs kc D) (hL : L ≤ 3072) (hthr : ∀ (A : Nat → Prop) (U : State) (H : Heap), EX A U H → zEx A U H) (hl : l.stackTraces = false) : hl_mc p l e s m below meth c b L xs kc D 381 :=
  hv_thr h hL hv_51 hv_52 (index := 45) (d := 31) (fun bx o x1 x2 ws0 sz g1 g2 g3 => hm_catches h.2.2.2.1 hthr yo_lman rfl (by decide) rfl hm_m1 hm_m2 (fun b9 w1 w2 ws9 sz9 k1 k2 => hm_throws h.2.2.2.1 hthr hl (show yP0 119 = some ym_X11_man from rfl) hm_ck5 rfl (Nat.le_refl 30) (fun k hk => by rcases hk with rfl | rfl <;> decide +kernel) k1 k2) ⟨zw_1268, zw_1, by decide +kernel⟩ zw_1265 zw_1266 zw_1267 (by decide +kernel) (by decide +kernel) (by decide +kernel) (by decide +kernel) (by decide +kernel) g1 g2 g3) zw_1263 zw_1262 zw_1261 zw_0 (by decide +kernel) (by decide) (by decide +kernel)
theorem hv_c6 (h : hl_C EX p s m meth c b L xs kc D) (hL : L ≤ 3072) (hthr : ∀ (A : Nat → Prop) (U : State) (H : Heap), EX A U H → zEx A U H) (hl : l.stackTraces = false) : hl_mc p l e s m below meth c b L xs kc D 421 :=
  hv_thr h hL hv_61 hv_62 (index := 51) (d := 31) (fun bx o x1 x2 ws0 sz g1 g2 g3 => hm_catches h.2.2.2.1 hthr yo_lcoat rfl (by decide) rfl hm_n1 hm_n2 (fun b9 w1 w2 ws9 sz9 k1 k2 => hm_throws h.2.2.2.1 hthr hl (show yP0 120 = some ym_X11_coat from rfl) hm_ck6 rfl (Nat.le_refl 30) (fun k hk => by rcases hk with rfl | rfl <;> decide +kernel) k1 k2) ⟨zw_1348, zw_1, by decide +kernel⟩ zw_1345 zw_1346 zw_1347 (by decide +kernel) (by decide +kernel) (by decide +kernel) (by decide +kernel) (by decide +kernel) g1 g2 g3) zw_1344 zw_1343 zw_1342 zw_0 (by decide +kernel) (by decide) (by decide +kernel)
end HV
