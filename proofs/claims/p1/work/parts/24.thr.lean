/-! ===== the two members that throw ===== -/
abbrev zNSE : String := "java/util/NoSuchElementException"
abbrev zXw : List Cond := vx_at0 "HeldCoats" 145 "java/util/NoSuchElementException" ["java/lang/RuntimeException", "java/lang/Exception"]
def zDL : List Cond := [.declares ⟨"java/lang/RuntimeException", "<init>", "()V"⟩, .declares ⟨"java/lang/Exception", "<init>", "()V"⟩, .declares ⟨"java/lang/Throwable", "<init>", "()V"⟩, .castable "java/util/NoSuchElementException" "java/util/NoSuchElementException"]
theorem zx_tbl : ∀ w ∈ zXw.filter goodWord, w ∈ lw_tbl := by decide +kernel
theorem zx_bad : ∀ w ∈ zXw.filter (fun w => !goodWord w), w ∈ zDL := by decide +kernel
theorem zx_ot : ∀ w ∈ Cond.classLink "HeldCoats" 143 "java/util/NoSuchElementException" :: Cond.initialized "java/util/NoSuchElementException" :: zXw, vx_ot w = true := by decide +kernel
theorem zDL_ot : ∀ w ∈ zDL, w.onTables = true := by decide +kernel
/-- what a throw reads outside the world -/
def zEx (A : Nat → Prop) (U : State) (H : Heap) : Prop := vx_Zq Bundle.tN "UNASSIGNED_STACK" Bundle.steD A U H ∧ vx_Zq Bundle.tN "SUPPRESSED_SENTINEL" Bundle.listD A U H ∧ ∀ w ∈ zDL, va_Nw w U
theorem zx_hat {args : Array Value} {s : State} (hts : ∀ w ∈ zTB, w.before args s = true) (h : ∀ w ∈ zDL, va_Nw w s) : ∀ w ∈ zXw, w.before args s = true := vx_hat (fun w hw => hts w (List.mem_filter.mpr ⟨zx_tbl w hw, (List.mem_filter.mp hw).2⟩)) zx_bad (fun w hw => va_Nw.use (zDL_ot w hw) (h w hw))
abbrev zXC (xb : Nat) (env : Nat → Int32) (kc : Nat → ClassId) (D : va_G) (ws0 : va_W) (sz : Nat) (w : zW) : String → State → State → Prop := vx_X (fun u : va_W => z_ok xb env kc ws0 w u) (fun E u t => E = "java/util/NoSuchElementException" ∧ z_post D vwCl ws0 sz u t) (va_A ws0 sz)
abbrev zQn : Array Value → State → Outcome → State → Prop := va_Qi (fun (_ : Int32) (_ : Unit) => False) (fun _ _ => True) (fun _ => False)
abbrev zXN : String → State → State → Prop := vx_X (fun (_ : Unit) => False) (fun _ _ _ => True) (fun _ => False)
section ZT
variable {EX : (Nat → Prop) → State → Heap → Prop} {l : Launch} {kc : Nat → ClassId} {D : va_G} {xb : Nat} {env : Nat → Int32}
set_option maxHeartbeats 4000000 in
theorem zt_throws (hE : z_EX EX) (hthr : ∀ (A : Nat → Prop) (U : State) (H : Heap), EX A U H → zEx A U H) (hl : l.stackTraces = false) {B : List (Int × Int)} (hB : z_B B env) {y : MethodName} {cc : ByteArray} {maxL na n d0 d : Nat} {ret : Option FieldType} {tab : List zE} {za : List zV} {w : zW} {zl : List (Nat × zV)}
    (hM : z_Mok zTB zNT vwCl zTF zDF zP (y, cc, maxL, ret, tab, 1, 6, na)) (hy : y.cls = "HeldCoats")
    (hrun : z_run zP B zTF zDF z_no n none d0 1 6 (y, cc, maxL, ret, tab, 1, 6, na) 0 (z_ent 0 za, [], w, 0, 0) = some (8, (zl, [.inl (.inl (some 0))], w, 0, 0))) (hL : (za.map z_cat).sum ≤ maxL) (hd : d0 ≤ d) (hd5 : 5 ≤ d)
    (d8 : decode cc 8 = .ok (.ifCond .ne 11, 3)) (d11 : decode cc 11 = .ok (.new 143, 3)) (d14 : decode cc 14 = .ok (.dup, 1)) (d15 : decode cc 15 = .ok (.invokespecial 145, 3)) (d18 : decode cc 18 = .ok (.athrow, 1))
    (av : List Value) (ws0 : va_W) (sz : Nat) (hav : z_L (z_v env (z_ad xb ws0)) za av) (hws : z_w xb env kc w ws0) :
    vx_Met l y (.code y cc maxL ret :: zTB) (z_rm d 1 6) (va_Pc av (z_pre EX zNT D vwCl kc ws0 sz)) zQn (zXC xb env kc D ws0 sz w) 1 6 (va_A ws0 sz) := by
  refine vx_ofW (cc := cc) (maxL := maxL) (ret := ret) hM.1 rfl ?_
  intro p e s m args below meth c s₁ Bd hml hnox hv
  obtain ⟨rfl, hsz, hP, hK, hD0, hN, hEx⟩ := hv
  subst hsz
  have hx := Bd.exec
  have hb := Bd.bytes
  have hts0 := atoms_spec (ws := Cond.code y cc maxL ret :: zTB) Bd.pre
  have hts : ∀ w ∈ zTB, w.before av.toArray s = true := fun w hw => hts0 w (List.mem_cons_of_mem _ hw)
  have hown : s.vm.findClass y.cls = some m.cls := findClass_of_methodNamed Bd.named
  have hname : y.name = "<init>" → meth.name = "<init>" := fun h => (name_of_methodNamed Bd.named Bd.method).1.trans h
  have hsum : (lg_sl av).length ≤ maxL := by rw [z_sl_len, ← z_cats hav]; exact hL
  obtain ⟨hU, hN2, hDL⟩ := hthr _ _ _ hEx
  rw [lg_entry_eq]
  refine z_run_ok hE hB z_prog z_no_ok n none d0 1 6 (y, cc, maxL, ret, tab, 1, 6, na) 0 _ 8 _ hrun hM p e _ s m av.toArray below meth c _ (va_A ws0 s.heap.size) s.heap (z_ad xb ws0) ⟨hx, hb, hml, hown, hname, hts, hK, hN, fun q h => Or.inr h, by show d0 + 1 ≤ d + 1; omega, by show 100 * d0 + 100 ≤ 100 * d + 100; omega, Nat.le_refl _, Nat.le_refl _, rfl, hEx, fun _ h => by cases h⟩ (fun _ h => by cases h) ?_ _ [] ws0 s.heap [] ⟨⟨_, lv_entry av hsum, z_ent_ok 0 hav⟩, trivial, hws, fun _ _ h => h, hP, hD0.self, va_S.rf⟩
  intro ls sv ws H locs ⟨g1, g2, g3, g6, hP1, hD1, hS1⟩
  obtain ⟨_, sv', rfl, ⟨x0, rfl, hx0⟩, g4⟩ := z_st1 g2
  obtain rfl : sv' = [] := by
    cases sv' with
    | nil => rfl
    | cons _ _ => exact g4.elim
  obtain rfl : x0 = 0 := hx0
  obtain ⟨lv, hlv, hz⟩ := id g1
  refine lv_if_ne (tgt := 19) hx hb d8 (by decide) (fun c9 => absurd rfl c9) (fun _ => ?_)
  exact vx_throw0 (own := "HeldCoats") (names := ["java/lang/RuntimeException", "java/lang/Exception"]) (A := va_A ws0 s.heap.size) hx hb hl (by rw [← hy]; exact hown) (by decide +kernel) (by decide +kernel) (hts _ zw_1269) (hts _ zw_23) (zx_hat hts hDL) zx_ot hU hN2 hS1 (hlv.1.trans hml.symm) d11 d14 d15 d18 (fun x hx9 => (hnox x hx9).elim) (by show 5 < d + 1; omega) (by show 0 + 81 ≤ 100 * d + 100; omega) (Nat.le_refl _) (Nat.le_refl _) Bd.notSynchronized (fun t hal hz1 hk1 => ⟨ws, ⟨g3, g6⟩, ⟨rfl, hP1.kept (fun j q hq => hk1 q.1 (hP1 j q hq).lt), hD1⟩, ⟨Nat.le_trans hS1.1 hz1, fun q hq hna => (hk1 q (Nat.lt_of_lt_of_le hq hS1.1)).trans (hS1.2.1 q hq hna)⟩⟩) (fun z hz1 => hS1.2.2 z hz1) (Nat.le_refl _) (Nat.le_refl _)
set_option maxHeartbeats 4000000 in
theorem zt_catches (hE : z_EX EX) (hthr : ∀ (A : Nat → Prop) (U : State) (H : Heap), EX A U H → zEx A U H) {B : List (Int × Int)} (hB : z_B B env) {yL y2 : MethodName} {cL c2 : ByteArray} {idx n d : Nat} {tabL : List zE} {w : zW} {zl : List (Nat × zV)} {fs : List zV} {T : u_T} {N : Nat}
    (hM : z_Mok zTB zNT vwCl zTF zDF zP (yL, cL, 5, some .int, tabL, 1, 6, 4)) (hyL : yL.cls = "HeldCoatsLaw") (hni : yL.name ≠ "<init>")
    (hrun : z_run zP B zTF zDF z_no n none 0 1 6 (yL, cL, 5, some .int, tabL, 1, 6, 4) 0 (z_ent 0 ztb, [], w, 0, 0) = some (5, (zl, [.inl (.inr (2, 0)), .inl (.inr (1, 0)), .inr (.inl (some 1)), .inl (.inl (some 0)), .inr (.inl (some 226))], w, 0, 0)))
    (hw0 : w[0]? = some (.inl (11, fs))) (hcl : vwCl[11]? = some (y2.cls, T, N))
    (h2 : ∀ (av : List Value) (ws0 : va_W) (sz : Nat), z_L (z_v env (z_ad xb ws0)) zta av → z_w xb env kc w ws0 → vx_Met l y2 (.code y2 c2 3 (some .int) :: zTB) (z_rm d 1 6) (va_Pc av (z_pre EX zNT D vwCl kc ws0 sz)) zQn (zXC xb env kc D ws0 sz w) 1 6 (va_A ws0 sz))
    (hY : z_Y zTB y2 c2 3 2 (some .int)) (hlk : Cond.methodLink "HeldCoatsLaw" idx y2 ∈ zTB) (hin : Cond.instanceMethod y2 ∈ zTB) (hsel : Cond.selects y2.cls y2 y2 ∈ zTB)
    (d5 : decode cL 5 = .ok (.invokevirtual idx, 3)) (d13 : decode cL 13 = .ok (.astore 4, 2)) (d15 : decode cL 15 = .ok (.iconst 1, 1)) (d16 : decode cL 16 = .ok (.ireturn, 1))
    (av : List Value) (ws0 : va_W) (sz : Nat) (hav : z_L (z_v env (z_ad xb ws0)) ztb av) (hws : z_w xb env kc w ws0) :
    vx_Met l yL (.codeWith yL cL 5 (some .int) [(0, 10, 13, 13)] :: zTB) (z_rm (d + 1) 1 6) (va_Pc av (z_pre EX zNT D vwCl kc ws0 sz)) (z_Qc xb env kc D vwCl ws0 sz w (some (.inl (.inl (some 1))))) zXN 1 6 (va_A ws0 sz) := by
  refine vx_ofWH (cc := cL) (maxL := 5) (ret := some .int) (hh := [(0, 10, 13, 13)]) hM.1 rfl ?_
  intro p e s m args below meth c s₁ Bd hml hv
  obtain ⟨rfl, hsz, hP, hK, hD0, hN, hEx⟩ := hv
  subst hsz
  have hx := Bd.exec
  have hb := Bd.bytes
  have hts0 := atoms_spec (ws := Cond.codeWith yL cL 5 (some .int) [(0, 10, 13, 13)] :: zTB) Bd.pre
  have hts : ∀ w ∈ zTB, w.before av.toArray s = true := fun w hw => hts0 w (List.mem_cons_of_mem _ hw)
  have hown : s.vm.findClass yL.cls = some m.cls := findClass_of_methodNamed Bd.named
  have hown2 : s.vm.findClass "HeldCoatsLaw" = some m.cls := by rw [← hyL]; exact hown
  have hsum : (lg_sl av).length ≤ 5 := by rw [z_sl_len, ← z_cats hav]; decide
  have htab : c.exceptionTable.toList = tableOf [(0, 10, 13, 13)] := vx_table (x := yL) Bd (hts0 _ List.mem_cons_self)
  obtain ⟨hU, hN2, hDL⟩ := hthr _ _ _ hEx
  rw [lg_entry_eq]
  refine z_run_ok hE hB z_prog z_no_ok n none 0 1 6 (yL, cL, 5, some .int, tabL, 1, 6, 4) 0 _ 5 _ hrun hM p e _ s m av.toArray below meth c _ (va_A ws0 s.heap.size) s.heap (z_ad xb ws0) ⟨hx, hb, hml, hown, fun h => absurd h hni, hts, hK, hN, fun q h => Or.inr h, by show 0 + 1 ≤ d + 1 + 1; omega, by show 100 * 0 + 100 ≤ 100 * (d + 1) + 100; omega, Nat.le_refl _, Nat.le_refl _, rfl, hEx, fun _ h => by cases h⟩ (fun _ h => by cases h) ?_ _ [] ws0 s.heap [] ⟨⟨_, lv_entry av hsum, z_ent_ok 0 hav⟩, trivial, hws, fun _ _ h => h, hP, hD0.self, va_S.rf⟩
  intro ls sv ws H locs ⟨h1, hst, h3, h6, hP1, hD1, hS1⟩
  obtain ⟨_, sv1, rfl, ⟨x2, rfl, hx2⟩, e1⟩ := z_st1 hst
  obtain ⟨_, sv2, rfl, ⟨x1, rfl, hx1⟩, e2⟩ := z_st1 e1
  obtain ⟨_, sv3, rfl, ⟨b, hb1, rfl⟩, e3⟩ := z_st1 e2
  have hsum3 : (sv3.map fun v => v.category).sum ≤ 8 := by rw [← z_cats e3]; decide
  obtain ⟨b', _, hws', hb', vs, rfl, hvs⟩ := z_w_get h3 hw0
  obtain rfl : b = b' := Option.some.inj (hb1.symm.trans hb')
  obtain ⟨lv, hlv, hz⟩ := id h1
  have hAA : ∀ q, va_A ws H.size q → va_A ws0 s.heap.size q := by
    intro q hq
    rcases hq with ⟨k, e1, hk⟩ | hq
    · exact hD1.2 k (q, e1) hk
    · exact Or.inr (Nat.le_trans hS1.1 hq)
  have hM' := h2 [.ref b, .int x1, .int x2] ws H.size ⟨⟨b, hb1, rfl⟩, ⟨x1, rfl, hx1⟩, ⟨x2, rfl, hx2⟩, trivial⟩ h3
  have hp : PreV s H y2.cls b (va_Pc [.ref b, .int x1, .int x2] (z_pre EX zNT D vwCl kc ws H.size)) [.int x1, .int x2] := ⟨z_blind hE, va_recv (q := (y2.cls, T, N)) hK hP1 hcl hws', fun U hU hW => ⟨rfl, by rw [hU], by rw [hU]; exact hP1, va_K.moved hW.alike hK, hD1.weaken (fun _ _ _ _ => trivial), z_N_moved hW hN, z_exin hE hEx (fun q h => Or.inr h) hD1 hS1 hU hW⟩⟩
  refine vx_calli (a := (Value.ref b :: [.int x1, .int x2]).toArray) (vx_runV (g := F0 m 5 ls (.int x2 :: .int x1 :: .ref b :: sv3)) ⟨hx, hb, hml, hown2, hts⟩ hM' ⟨callB_of 2 hts (z_good zTB_good hY.1) rfl rfl rfl (hts _ hY.2.1) (hts _ hlk) hY.2.2 ⟨by show d + 1 + 1 ≤ d + 1 + 1; omega, by show 8 + (3 + 11) + (100 * d + 100) ≤ 100 * (d + 1) + 100; omega⟩, hts _ hin, hts _ hsel⟩ hp rfl rfl hlv.1 rfl (lv_room hsum3) d5 ⟨Nat.le_refl _, Nat.le_refl _⟩) hS1 (fun q _ h => h.elim) hAA (fun q _ h => hAA q h) (fun E ce q9 u t H1 locs1 ht hvm hpx hBX hz1 hk1 hS2 hcell hcv hcl2 => ?_) (fun r u t H1 locs1 ht hvm hp9 _ _ _ _ => hp9.elim)
  obtain ⟨rfl, hP2, hD2⟩ := hBX
  refine z_catch (own := "HeldCoatsLaw") (name := "java/util/NoSuchElementException") hown2 ⟨0, 10, 13, 13⟩ (htab.trans rfl) (by decide) (by decide) (hts _ zw_1264) (va_Nw.use rfl (hDL _ (List.mem_cons_of_mem _ (List.mem_cons_of_mem _ (List.mem_cons_of_mem _ List.mem_cons_self))))) hcell hcv hcl2 ?_
  refine lv_astore (i := 4) (nL := 5) hx hb d13 hlv (by decide) rfl (fun ls' hls' => ?_)
  refine lv_iconst (v := 1) hx hb d15 (by decide) ?_
  refine vx_ret (XC := zXN) ?_
  exact W.zret (ty := .int) (v := 1) hx hb Bd.returns rfl (fun t' ht' hW' => ⟨⟨1, u, rfl, ⟨rfl, hpx.1, fun i a hi => hpx.2 i a (h6 i a hi)⟩, by rw [ht', ← ht]; exact hP2, hD2.weaken (fun _ _ _ h => hAA _ h)⟩, hS2.F ht'⟩) hS2.2.2 d16 Bd.notSynchronized
end ZT
section ZTL
variable {p : Program} {l : Launch} {e : Env} {s : State} {m : MethodId} {below : List Frame} {meth : Method} {c : Code} {b : Nat} {xs : Nat → Int32} {kc : Nat → ClassId} {D : va_G} {EX : (Nat → Prop) → State → Heap → Prop}
set_option maxHeartbeats 4000000 in
theorem zl_thr (h : zq_C EX p s m meth c b 6 xs kc D) {yL : MethodName} {cL : ByteArray} {index d pc : Nat}
    (hM : ∀ (av : List Value) (ws0 : va_W) (sz : Nat), z_L (z_v xs (z_ad b ws0)) ztb av → z_w b xs kc zw0 ws0 → vx_Met l yL (.codeWith yL cL 5 (some .int) [(0, 10, 13, 13)] :: zTB) (z_rm d 1 6) (va_Pc av (z_pre EX zNT D vwCl kc ws0 sz)) (z_Qc b xs kc D vwCl ws0 sz zw0 (some (.inl (.inl (some 1))))) zXN 1 6 (va_A ws0 sz))
    (hcw : Cond.codeWith yL cL 5 (some .int) [(0, 10, 13, 13)] ∈ zTB) (hst : Cond.static yL ∈ zTB) (hlk : Cond.methodLink "HeldCoatsLaw" index yL ∈ zTB) (hini : Cond.initialized yL.cls ∈ zTB) (hsig : yL.cls ≠ "java/lang/invoke/MethodHandle" ∧ yL.cls ≠ "java/lang/invoke/VarHandle" ∧ (parseMethodDescriptor yL.desc).map (fun d => d.parameters.length) = some 4)
    (hd20 : d ≤ 12) (hd : decode code pc = .ok (.invokestatic index, 3)) (kk : zLG p l e s m below meth c b xs kc D (pc + 3) (zl0, [.inl (.inl (some 1))], zw0, 227, 6204)) : zLG p l e s m below meth c b xs kc D pc (zl0, ztc, zw0, 226, 6198) := by
  obtain ⟨⟨hx, hb, hr, hml, hown, hts0, hX, hbl, hlocks, hgv⟩, hK, hN, hE, hEx⟩ := id h
  have hts : ∀ w ∈ zTB, w.before #[Value.ref b] s = true := fun w hw => hts0 w (List.mem_filter.mp hw).1
  have hown2 : s.vm.findClass "HeldCoatsLaw" = some m.cls := hown
  intro ls sv ws H locs ⟨h1, h2, h3, h6, hP, hD, hS⟩
  obtain ⟨_, sv1, rfl, ⟨o, ho, rfl⟩, e1⟩ := z_st1 h2
  obtain ⟨_, sv2, rfl, ⟨x2, rfl, hx2⟩, e2⟩ := z_st1 e1
  obtain ⟨_, sv3, rfl, ⟨x1, rfl, hx1⟩, e3⟩ := z_st1 e2
  obtain ⟨_, sv4, rfl, ⟨b1, hb1, rfl⟩, e4⟩ := z_st1 e3
  obtain rfl : sv4 = [] := by
    cases sv4 with
    | nil => rfl
    | cons _ _ => exact e4.elim
  obtain ⟨lv, hlv, hz⟩ := id h1
  have hAA : ∀ q, va_A ws H.size q → zA0 s q := by
    intro q hq
    rcases hq with ⟨k, e1, hk⟩ | hq
    · exact hD.2 k (q, e1) hk
    · exact Nat.le_trans hS.1 hq
  have hM' := hM [.ref b1, .int x1, .int x2, .ref o] ws H.size ⟨⟨b1, hb1, rfl⟩, ⟨x1, rfl, hx1⟩, ⟨x2, rfl, hx2⟩, ⟨o, ho, rfl⟩, trivial⟩ h3
  have hp : PreS s H (va_Pc [.ref b1, .int x1, .int x2, .ref o] (z_pre EX zNT D vwCl kc ws H.size)) [.ref b1, .int x1, .int x2, .ref o] := ⟨z_blind hE, fun U hU hW => ⟨rfl, by rw [hU], by rw [hU]; exact hP, va_K.moved hW.alike hK, hD.weaken (fun _ _ _ _ => trivial), z_N_moved hW hN, z_exin hE hEx (fun _ h => h) hD hS hU hW⟩⟩
  have hT : GoodIn zTB (va_wsS "HeldCoatsLaw" index yL (Cond.codeWith yL cL 5 (some .int) [(0, 10, 13, 13)] :: zTB)) := by
    have key : ∀ w ∈ va_wsS "HeldCoatsLaw" index yL (Cond.codeWith yL cL 5 (some .int) [(0, 10, 13, 13)] :: zTB), w ∈ zTB := by
      intro w hw
      unfold va_wsS at hw
      rcases List.mem_append.mp hw with h9 | h9
      · simp only [List.mem_cons, List.not_mem_nil, or_false] at h9
        rcases h9 with rfl | rfl | rfl
        · exact hlk
        · exact hst
        · exact hini
      · rcases List.mem_cons.mp h9 with rfl | h9
        · exact hcw
        · exact h9
    exact fun w hw => ⟨key w hw, good_of_word (zTB_good w (key w hw))⟩
  have cw : vx_CSW room_1 s #[Value.ref b] "HeldCoatsLaw" index yL cL 5 (some .int) [(0, 10, 13, 13)] (Cond.codeWith yL cL 5 (some .int) [(0, 10, 13, 13)] :: zTB) (z_rm d 1 6) 1 6 4 := vx_cwSW 4 hts hT rfl rfl rfl hsig ⟨Nat.le_trans (by show d + 1 + 1 ≤ 21; omega) (by decide : 21 ≤ room_1.frames), Nat.le_trans (by show 8 + (5 + 11) + (100 * d + 100) ≤ 2100; omega) (by decide : 2100 ≤ room_1.locals)⟩
  refine vx_calli (a := [.ref b1, .int x1, .int x2, .ref o].toArray) (vx_runSX (g := F0 m pc ls [.ref o, .int x2, .int x1, .ref b1]) (rest := []) ⟨hx, hb, hml, hown2, hts⟩ hM' cw hp rfl rfl hlv.1 rfl (Nat.zero_le _) hd ⟨by decide, by decide⟩) hS (fun q _ h => hAA q h) hAA (fun q _ h => h.elim) (fun E ce q9 u t H1 locs1 ht hvm hpx _ _ _ _ _ _ _ => hpx.elim) (fun r u t H1 locs1 ht hvm hw hB hz1 hk1 hS1 => ?_)
  obtain ⟨hw1, hw2⟩ := hw
  obtain rfl : r = 1 := hw1
  exact kk ls _ u H1 locs1 ⟨z_l_mono hw2.2 h1, ⟨⟨1, rfl, rfl⟩, trivial⟩, hw2.1, fun i a hi => hw2.2 i a (h6 i a hi), by rw [← ht]; exact hB.1, hB.2.weaken (fun _ _ _ h => hAA _ h), hS1⟩
theorem zl_c5 (h : zq_C EX p s m meth c b 6 xs kc D) (hthr : ∀ (A : Nat → Prop) (U : State) (H : Heap), EX A U H → zEx A U H) (hl : l.stackTraces = false) : zLG p l e s m below meth c b xs kc D 381 zs0 := by
  have hE := h.2.2.2.1
  have hz := z_any (xs 1)
  have hBf := zl_B (xs := xs) (z_any _).1 (z_any _).2
  have hL : ((zta).map z_cat).sum ≤ 3 := by decide
  have hY : z_Y zTB ⟨"HeldCoats", "man", "(II)I"⟩ prog_1_method_7_code 3 2 (some .int) := ⟨zw_1268, zw_1, by decide +kernel⟩
  refine z_run_ok hE hBf z_prog z_no_ok 40 (some (.inl 6)) 20 600000 7000000 zm_law 381 zs0 395 _ (z_is_ok zr_tp5) zo_law p e room_1 s m _ below meth c _ _ _ _ (zl_ctx h (some (.inl 6)) (fun _ q => (Sum.inl.inj (Option.some.inj q)).symm) zt_law) (fun _ q => by cases q) ?_
  have go : ∀ {B : List (Int × Int)}, z_B B xs → z_is (z_run zP B zTF zDF z_no 100 none 10 1 6 zm_X11_man 0 (z_ent 0 zta, [], zw0, 0, 0)) 8 (z_ent 0 zta, [.inl (.inl (some 0))], zw0, 0, 0) = true → zLG p l e s m below meth c b xs kc D (395 + 3) (zl0, [.inl (.inl (some 1))], zw0, 227, 6204) → zLG p l e s m below meth c b xs kc D 395 (zl0, ztc, zw0, 226, 6198) := by
    intro B hB hm kk
    refine zl_thr h (index := 45) (d := 11) (fun av ws0 sz hav hws => zt_catches hE hthr hBf zo_L_man rfl (by decide) (z_is_ok zr_tl5) rfl rfl (fun av ws0 sz hav hws => zt_throws hE hthr hl hB zo_X11_man rfl (z_is_ok hm) hL (Nat.le_refl 10) (by decide) (by decide +kernel) (by decide +kernel) (by decide +kernel) (by decide +kernel) (by decide +kernel) av ws0 sz hav hws) hY zw_1265 zw_1266 zw_1267 (by decide +kernel) (by decide +kernel) (by decide +kernel) (by decide +kernel) av ws0 sz hav hws) zw_1263 zw_1262 zw_1261 zw_0 (by decide +kernel) (by decide) (by decide +kernel) kk
  by_cases h0 : (xs 1).toInt ≤ -1
  · exact go (zl_B (lo := -2147483648) (hi := -1) (by omega) (by omega)) zr_tm5_0 (zl_one h (zl_B (lo := -2147483648) (hi := -1) (by omega) (by omega)) z_no_ok zr_tb5_0)
  · exact go (zl_B (lo := 0) (hi := 2147483647) (by omega) (by omega)) zr_tm5_1 (zl_one h (zl_B (lo := 0) (hi := 2147483647) (by omega) (by omega)) z_no_ok zr_tb5_1)
theorem zl_c6 (h : zq_C EX p s m meth c b 6 xs kc D) (hthr : ∀ (A : Nat → Prop) (U : State) (H : Heap), EX A U H → zEx A U H) (hl : l.stackTraces = false) : zLG p l e s m below meth c b xs kc D 449 zs0 := by
  have hE := h.2.2.2.1
  have hz := z_any (xs 1)
  have hBf := zl_B (xs := xs) (z_any _).1 (z_any _).2
  have hL : ((zta).map z_cat).sum ≤ 3 := by decide
  have hY : z_Y zTB ⟨"HeldCoats", "coat", "(II)I"⟩ prog_1_method_8_code 3 2 (some .int) := ⟨zw_1348, zw_1, by decide +kernel⟩
  refine z_run_ok hE hBf z_prog z_no_ok 40 (some (.inl 6)) 20 600000 7000000 zm_law 449 zs0 463 _ (z_is_ok zr_tp6) zo_law p e room_1 s m _ below meth c _ _ _ _ (zl_ctx h (some (.inl 6)) (fun _ q => (Sum.inl.inj (Option.some.inj q)).symm) zt_law) (fun _ q => by cases q) ?_
  have go : ∀ {B : List (Int × Int)}, z_B B xs → z_is (z_run zP B zTF zDF z_no 100 none 10 1 6 zm_X11_coat 0 (z_ent 0 zta, [], zw0, 0, 0)) 8 (z_ent 0 zta, [.inl (.inl (some 0))], zw0, 0, 0) = true → zLG p l e s m below meth c b xs kc D (463 + 3) (zl0, [.inl (.inl (some 1))], zw0, 227, 6204) → zLG p l e s m below meth c b xs kc D 463 (zl0, ztc, zw0, 226, 6198) := by
    intro B hB hm kk
    refine zl_thr h (index := 54) (d := 11) (fun av ws0 sz hav hws => zt_catches hE hthr hBf zo_L_coat rfl (by decide) (z_is_ok zr_tl6) rfl rfl (fun av ws0 sz hav hws => zt_throws hE hthr hl hB zo_X11_coat rfl (z_is_ok hm) hL (Nat.le_refl 10) (by decide) (by decide +kernel) (by decide +kernel) (by decide +kernel) (by decide +kernel) (by decide +kernel) av ws0 sz hav hws) hY zw_1345 zw_1346 zw_1347 (by decide +kernel) (by decide +kernel) (by decide +kernel) (by decide +kernel) av ws0 sz hav hws) zw_1344 zw_1343 zw_1342 zw_0 (by decide +kernel) (by decide) (by decide +kernel) kk
  by_cases h0 : (xs 1).toInt ≤ -1
  · exact go (zl_B (lo := -2147483648) (hi := -1) (by omega) (by omega)) zr_tm6_0 (zl_one h (zl_B (lo := -2147483648) (hi := -1) (by omega) (by omega)) z_no_ok zr_tb6_0)
  · exact go (zl_B (lo := 0) (hi := 2147483647) (by omega) (by omega)) zr_tm6_1 (zl_one h (zl_B (lo := 0) (hi := 2147483647) (by omega) (by omega)) z_no_ok zr_tb6_1)
end ZTL
