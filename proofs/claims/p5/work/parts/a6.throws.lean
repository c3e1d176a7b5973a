/-! ===== the two members that throw ===== -/
abbrev zNSE : String := "java/util/NoSuchElementException"
abbrev zXw : List Cond := vx_at0 "HeldCoats" 145 "java/util/NoSuchElementException" ["java/lang/RuntimeException", "java/lang/Exception"]
def zDL : List Cond := [.declares ⟨"java/lang/RuntimeException", "<init>", "()V"⟩, .declares ⟨"java/lang/Exception", "<init>", "()V"⟩, .declares ⟨"java/lang/Throwable", "<init>", "()V"⟩, .castable "java/util/NoSuchElementException" "java/util/NoSuchElementException"]
theorem zx_tbl : ∀ w ∈ zXw.filter goodWord, w ∈ lw_tbl := by decide +kernel
theorem zx_bad : ∀ w ∈ zXw.filter (fun w => !goodWord w), w ∈ zDL := by decide +kernel
theorem zx_ot : ∀ w ∈ Cond.classLink "HeldCoats" 143 "java/util/NoSuchElementException" :: Cond.initialized "java/util/NoSuchElementException" :: zXw, vx_ot w = true := by decide +kernel
theorem zDL_ot : ∀ w ∈ zDL, w.onTables = true := by decide +kernel
/-- what a throw reads outside the world -/
def zEx (A : Nat → Prop) (U : State) (H : Heap) : Prop := vx_Zq Bundle.tN "UNASSIGNED_STACK" Bundle.steD A U H ∧ vx_Zq Bundle.tN "SUPPRESSED_SENTINEL" Bundle.listD A U H ∧ ∀ w ∈ zDL, va_Nw w U
theorem zx_hat {args : Array Value} {s : State} (hts : ∀ w ∈ zTB, w.before args s = true) (h : ∀ w ∈ zDL, va_Nw w s) : ∀ w ∈ zXw, w.before args s = true := vx_hat (fun w hw => hts w (List.mem_filter.mpr ⟨zx_tbl w hw, (List.mem_filter.mp hw).2⟩)) zx_bad (fun w hw => va_Nw.use (zDL_ot w hw) (h w hw))
abbrev zXN : String → State → State → Prop := vx_X (fun (_ : Unit) => False) (fun _ _ _ => True) (fun _ => False)
def hm_P (kc : Nat → ClassId) (xb : Nat) (ad : Nat → Option Nat) (u : va_W) : Prop := w_R u ∧ y_Go yGR u ∧ y_w kc ad yTYV u ∧ z_ad xb u = ad
abbrev hm_Q (kc : Nat → ClassId) (D : va_G) (xb : Nat) (ad : Nat → Option Nat) (ws0 : va_W) (sz : Nat) (lo hi : Int) : Array Value → State → Outcome → State → Prop := va_Qi (fun (r : Int32) (u : va_W) => (lo ≤ r.toInt ∧ r.toInt ≤ hi) ∧ hm_P kc xb ad u) (z_post D vwCl ws0 sz) (va_A ws0 sz)
abbrev hm_X (kc : Nat → ClassId) (D : va_G) (xb : Nat) (ad : Nat → Option Nat) (ws0 : va_W) (sz : Nat) : String → State → State → Prop := vx_X (fun u : va_W => hm_P kc xb ad u) (fun E u t => E = "java/util/NoSuchElementException" ∧ z_post D vwCl ws0 sz u t) (va_A ws0 sz)
def hm_B2 : yB := (2, [hl_Q, hl_Q])
def hm_z2 : yS := ([(0, .inr (.inl (some 1))), (1, .inl (.inr (0, 0))), (2, .inl (.inr (1, 0)))], [], [], (true, [], []))
def hm_ck (jm n2 : Nat) : Bool := match yP0 jm with
  | some M => match y_run yP0 yTYV zTF hl_E yRC yGR (y_ct hm_CT yTYV yRC hl_E 30) 2000 false 30 M (fun _ _ _ => false) true hm_B2 0 hm_z2 with
    | some es => es.all (fun q => q.2.2.2.2.2.1 && (q.2.2.2.2.2.2.1.isEmpty && (q.2.2.2.2.2.2.2.isEmpty && ((match y_find M.2.2.2.2.1 q.2.1, q.2.2.2.1 with
      | some (.ireturn, _), [.inl _] => true
      | _, _ => false) || ((q.2.1 == 11 || q.2.1 == n2) && q.2.2.2.1.isEmpty)))))
    | none => false
  | none => false
theorem hm_ck5 : hm_ck 119 143 = true := by decide +kernel
theorem hm_ck6 : hm_ck 120 106 = true := by decide +kernel
section HM
variable {EX : (Nat → Prop) → State → Heap → Prop} {l : Launch} {kc : Nat → ClassId} {D : va_G} {xb : Nat}
theorem hm_B2_ok {x1 x2 : Int32} : y_B hm_B2 [x1.toInt, x2.toInt] := by
  refine ⟨rfl, rfl, fun p q hp => ?_⟩
  have hq : ∀ x : Int32, y_b [x1.toInt, x2.toInt] hl_Q x.toInt := fun x => ⟨(z_any x).1, (z_any x).2, fun _ _ e => by cases e⟩
  match p, hp with
  | 0, hp => cases hp; exact ⟨_, rfl, hq _⟩
  | 1, hp => cases hp; exact ⟨_, rfl, hq _⟩
  | p + 2, hp => simp [hm_B2] at hp
set_option maxHeartbeats 4000000 in
theorem hm_throws (hE : z_EX EX) (hthr : ∀ (A : Nat → Prop) (U : State) (H : Heap), EX A U H → zEx A U H) (hl : l.stackTraces = false) {jm n2 : Nat} {y : MethodName} {cc : ByteArray} {tab : List (List zE)} {na : Nat} {sp : List Nat} {d : Nat}
    (hP0 : yP0 jm = some (y, cc, 3, some .int, tab, na, sp)) (hck : hm_ck jm n2 = true) (hy : y.cls = "HeldCoats") (hd : 30 ≤ d)
    (d11 : ∀ k, k = 11 ∨ k = n2 → decode cc k = .ok (.new 143, 3) ∧ decode cc (k + 3) = .ok (.dup, 1) ∧ decode cc (k + 4) = .ok (.invokespecial 145, 3) ∧ decode cc (k + 7) = .ok (.athrow, 1))
    {b : Nat} {x1 x2 : Int32} {ws0 : va_W} {sz : Nat} (hb0 : z_ad xb ws0 1 = some b) (hp0 : hm_P kc xb (z_ad xb ws0) ws0) :
    vx_Met l y (.code y cc 3 (some .int) :: zTB) (z_rm d 1 6) (va_Pc [.ref b, .int x1, .int x2] (z_pre EX zNT D vwCl kc ws0 sz)) (hm_Q kc D xb (z_ad xb ws0) ws0 sz (-2147483648) 2147483647) (hm_X kc D xb (z_ad xb ws0) ws0 sz) 1 6 (va_A ws0 sz) := by
  have hM : y_Mok zTB zNT vwCl zTF yP0 (y, cc, 3, some .int, tab, na, sp) := y_prog.2 _ _ hP0
  refine vx_ofW (cc := cc) (maxL := 3) (ret := some .int) hM.1 rfl ?_
  intro p e s m args below meth c s₁ Bd hml hnox hv
  obtain ⟨rfl, hsz, hP, hK, hD0, hN, hEx⟩ := hv
  subst hsz
  have hx := Bd.exec
  have hb := Bd.bytes
  have hts0 := atoms_spec (ws := Cond.code y cc 3 (some .int) :: zTB) Bd.pre
  have hts : ∀ w ∈ zTB, w.before _ s = true := fun w hw => hts0 w (List.mem_cons_of_mem _ hw)
  have hown : s.vm.findClass y.cls = some m.cls := findClass_of_methodNamed Bd.named
  have hname : y.name = "<init>" → meth.name = "<init>" := fun h => (name_of_methodNamed Bd.named Bd.method).1.trans h
  obtain ⟨hU, hN2, hDL⟩ := hthr _ _ _ hEx
  obtain ⟨p1, p2, p3, p4⟩ := hp0
  unfold hm_ck at hck
  rw [hP0] at hck
  dsimp only at hck
  split at hck
  next es hes =>
    have hle := lv_entry ([.ref b, .int x1, .int x2]) (n := 3) (Nat.le_of_ble_eq_true rfl)
    rw [lg_entry_eq]
    refine y_run_ok (l := l) (kc := kc) (D := D) (xb := xb) (TY := yTYV) (ad := z_ad xb ws0) (eff := hl_E) (RC := yRC) (GR := yGR) (RI := w_R) hE w_R_RI y_prog (y_ct_ok (eff := hl_E) (RC := yRC) w_R_RI (hm_all (l := l) (kc := kc) (D := D) (xb := xb) (ad := z_ad xb ws0) hE)) 2000 false 30 (y, cc, 3, some .int, tab, na, sp) _ true hm_B2 0 hm_z2 es hes hM p e (z_rm d 1 6) s m _ below meth c _ (va_A ws0 s.heap.size) s.heap ws0 0 0 [x1.toInt, x2.toInt] ⟨hx, hb, hml, hown, hname, hts, hK, hN, fun q h => Or.inr h, by show 30 + 1 ≤ d + 1; omega, by show 100 * 30 + 100 ≤ 100 * d + 100; omega, Nat.zero_le _, Nat.zero_le _, rfl, hEx, rfl⟩ (fun h => by cases h) hm_B2_ok (fun q hq env he hB => ?_) _ [] ws0 s.heap [] ⟨⟨_, hle, ⟨rfl, b, hb0, rfl⟩, ⟨rfl, x1, rfl, congrArg some (Int.add_zero _)⟩, ⟨rfl, x2, rfl, congrArg some (Int.add_zero _)⟩, trivial⟩, trivial, (fun _ h => by cases h), (fun _ => p1), y_Go_to p2, p3, y_fr_refl, rfl, hP, hD0.self, va_S.rf⟩
    intro ls sv ws H locs hS
    have h9 := List.all_eq_true.mp hck q hq
    simp only [Bool.and_eq_true, Bool.or_eq_true] at h9
    obtain ⟨q1, q2, q3, q4⟩ := h9
    obtain ⟨s1, s2, sk, sf, sG, sw, sfr, sad, sP, sD, sS⟩ := hS
    have hGo : y_Go yGR ws := by
      rw [List.isEmpty_iff.mp q2, List.isEmpty_iff.mp q3] at sG
      exact y_Go_of sG
    have hpp : hm_P kc xb (z_ad xb ws0) ws := ⟨sf q1, hGo, sw, sad⟩
    rcases q4 with q4 | q4
    · split at q4
      next inf t hfi hst =>
        rw [hst] at s2
        obtain ⟨_, sv', rfl, ⟨x0, rfl, _⟩, g4⟩ := y_st1 s2
        obtain rfl : sv' = [] := by
          cases sv' with
          | nil => rfl
          | cons _ _ => exact g4.elim
        obtain ⟨row, h8, h9⟩ := y_find_in hfi
        have hdec : decode cc q.2.1 = .ok (.ireturn, 1) := (hM.2 row h8 _ h9).1
        refine vx_ret ?_
        refine W.widen (k := 1) (n := 6) (by decide) (by decide) ?_
        exact W.zret (ty := .int) (v := x0) hx hb Bd.returns rfl (fun t' ht' hW' => ⟨⟨x0, ws, rfl, ⟨z_any x0, hpp⟩, by rw [ht']; exact sP, sD⟩, sS.F ht'⟩) sS.2.2 hdec Bd.notSynchronized
      next => cases q4
    · obtain ⟨q5, q6⟩ := q4
      rw [List.isEmpty_iff.mp q6] at s2
      obtain rfl : sv = [] := by
        cases sv with
        | nil => rfl
        | cons _ _ => exact s2.elim
      obtain ⟨lv, hlv, hz⟩ := id s1
      have hpc : q.2.1 = 11 ∨ q.2.1 = n2 := by
        rcases q5 with q5 | q5
        · exact Or.inl (by simpa using q5)
        · exact Or.inr (by simpa using q5)
      obtain ⟨e1, e2, e3, e4⟩ := d11 q.2.1 hpc
      exact vx_throw0 (own := "HeldCoats") (names := ["java/lang/RuntimeException", "java/lang/Exception"]) (A := va_A ws0 s.heap.size) hx hb hl (by rw [← hy]; exact hown) (by decide +kernel) (by decide +kernel) (hts _ zw_1269) (hts _ zw_23) (zx_hat hts hDL) zx_ot hU hN2 sS (hlv.1.trans hml.symm) e1 e2 e3 e4 (fun x hx9 => (hnox x hx9).elim) (by show 5 < d + 1; omega) (by show 0 + 81 ≤ 100 * d + 100; omega) (Nat.le_refl _) (Nat.le_refl _) Bd.notSynchronized (fun t hal hz1 hk1 => ⟨ws, hpp, ⟨rfl, sP.kept (fun j q hq => hk1 q.1 (sP j q hq).lt), sD⟩, ⟨Nat.le_trans sS.1 hz1, fun q hq hna => (hk1 q (Nat.lt_of_lt_of_le hq sS.1)).trans (sS.2.1 q hq hna)⟩⟩) (fun z hz1 => sS.2.2 z hz1) (Nat.le_refl _) (Nat.le_refl _)
  next => cases hck
end HM
