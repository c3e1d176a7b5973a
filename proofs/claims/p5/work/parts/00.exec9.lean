/-! ===== from one set of signs to a wider one; a counted loop ===== -/
def z_leL {α β : Type} (g : α → β → Bool) : List α → List β → Bool
  | [], [] => true
  | a :: as, b :: bs => g a b && z_leL g as bs
  | _, _ => false
def z_leV (f : zI → zI → Bool) (a b : zV) : Bool := match a, b with
  | .inl t, .inl u => f t u
  | .inr (.inl i), .inr (.inl j) => i == j
  | .inr (.inr o), .inr (.inr o') => o == o'
  | _, _ => false
def z_leC (f : zI → zI → Bool) (a b : zC) : Bool := match a, b with
  | .inl (ci, fs), .inl (cj, gs) => ci == cj && z_leL (z_leV f) fs gs
  | .inr (.inl (k, es)), .inr (.inl (k', es')) => k == k' && z_leL f es es'
  | .inr (.inr (.inl es)), .inr (.inr (.inl es')) => es == es'
  | .inr (.inr (.inr (k, es))), .inr (.inr (.inr (k', es'))) => k == k' && es == es'
  | _, _ => false
def z_leS (f : zI → zI → Bool) (a b : zS) : Bool := z_leL (fun x y => x.1 == y.1 && z_leV f x.2 y.2) a.1 b.1 && z_leL (z_leV f) a.2.1 b.2.1 && z_leL (z_leC f) a.2.2.1 b.2.2.1 && a.2.2.2.1 == b.2.2.2.1 && a.2.2.2.2 == b.2.2.2.2
theorem z_leL_ok {α β γ : Type} {g : α → β → Bool} {R0 : α → γ → Prop} {S0 : β → γ → Prop} (h : ∀ a b x, g a b = true → R0 a x → S0 b x) : ∀ {as : List α} {bs : List β} {xs : List γ}, z_leL g as bs = true → z_L R0 as xs → z_L S0 bs xs
  | [], [], [], _, _ => trivial
  | a :: as, b :: bs, x :: xs, hg, hr => by
    unfold z_leL at hg
    rw [Bool.and_eq_true] at hg
    exact ⟨h a b x hg.1 hr.1, z_leL_ok h hg.2 hr.2⟩
  | [], [], _ :: _, _, hr => hr.elim
  | _ :: _, _ :: _, [], _, hr => hr.elim
  | [], _ :: _, _, hg, _ => by simp [z_leL] at hg
  | _ :: _, [], _, hg, _ => by simp [z_leL] at hg
theorem z_leL_len {α β : Type} {g : α → β → Bool} : ∀ {as : List α} {bs : List β}, z_leL g as bs = true → as.length = bs.length
  | [], [], _ => rfl
  | _ :: _, _ :: _, h => by
    unfold z_leL at h
    rw [Bool.and_eq_true] at h
    exact congrArg (· + 1) (z_leL_len h.2)
  | [], _ :: _, h => by simp [z_leL] at h
  | _ :: _, [], h => by simp [z_leL] at h
theorem z_leL_get {α β : Type} {g : α → β → Bool} : ∀ {as : List α} {bs : List β}, z_leL g as bs = true → ∀ {j : Nat} {b : β}, bs[j]? = some b → ∃ a, as[j]? = some a ∧ g a b = true
  | [], [], _, j, b, e => by simp at e
  | a :: as, b :: bs, h, 0, b', e => by
    unfold z_leL at h
    rw [Bool.and_eq_true] at h
    simp only [List.getElem?_cons_zero, Option.some.injEq] at e ⊢
    subst e
    exact ⟨a, rfl, h.1⟩
  | a :: as, b :: bs, h, j + 1, b', e => by
    unfold z_leL at h
    rw [Bool.and_eq_true] at h
    simp only [List.getElem?_cons_succ] at e ⊢
    exact z_leL_get h.2 e
  | [], _ :: _, h, _, _, _ => by simp [z_leL] at h
  | _ :: _, [], h, _, _, _ => by simp [z_leL] at h
theorem z_leV_ok {env env' : Nat → Int32} {ad : Nat → Option Nat} {f : zI → zI → Bool} (hf : ∀ t u x, f t u = true → z_i env t x → z_i env' u x) (a b : zV) (x : Value) (h : z_leV f a b = true) (hv : z_v env ad a x) : z_v env' ad b x := by
  unfold z_leV at h
  split at h
  next => obtain ⟨y, rfl, hy⟩ := hv; exact ⟨y, rfl, hf _ _ _ h hy⟩
  next i j =>
    have : i = j := by simpa using h
    subst this
    cases i with
    | none => exact hv
    | some i => exact hv
  next =>
    rw [beq_iff_eq] at h
    subst h
    exact hv
  next => cases h
theorem z_leC_ok {env env' : Nat → Int32} {kc : Nat → ClassId} {ad : Nat → Option Nat} {f : zI → zI → Bool} (hf : ∀ t u x, f t u = true → z_i env t x → z_i env' u x) (a b : zC) (q : va_E) (h : z_leC f a b = true) (hc : z_c env kc ad a q) : z_c env' kc ad b q := by
  unfold z_leC at h
  split at h
  next ci fs cj gs =>
    rw [Bool.and_eq_true, beq_iff_eq] at h
    obtain ⟨rfl, h2⟩ := h
    obtain ⟨vs, rfl, hvs⟩ := hc
    exact ⟨vs, rfl, z_leL_ok (z_leV_ok hf) h2 hvs⟩
  next k es k' es' =>
    rw [Bool.and_eq_true, beq_iff_eq] at h
    obtain ⟨rfl, h2⟩ := h
    obtain ⟨g, rfl, hg⟩ := hc
    refine ⟨g, by rw [z_leL_len h2], fun j y hj => ?_⟩
    obtain ⟨t, ht, hty⟩ := z_leL_get h2 hj
    exact hf _ _ _ hty (hg j t ht)
  next =>
    rw [beq_iff_eq] at h
    subst h
    exact hc
  next k es k' es' =>
    rw [Bool.and_eq_true, beq_iff_eq, beq_iff_eq] at h
    obtain ⟨rfl, rfl⟩ := h
    exact hc
  next => cases h
theorem z_leS_ok {xb : Nat} {env env' : Nat → Int32} {kc : Nat → ClassId} {D : va_G} {cl : List vw_C} {A : Nat → Prop} {H0 : Heap} {ad0 : Nat → Option Nat} {nL : Nat} {f : zI → zI → Bool} (hf : ∀ t u x, f t u = true → z_i env t x → z_i env' u x) {a b : zS} (h : z_leS f a b = true) {ls : Array Slot} {sv : List Value} {ws : va_W} {H : Heap} {locs : List Loc} (hs : z_S xb env kc D cl A H0 ad0 nL a ls sv ws H locs) : z_S xb env' kc D cl A H0 ad0 nL b ls sv ws H locs := by
  unfold z_leS at h
  simp only [Bool.and_eq_true] at h
  obtain ⟨⟨⟨⟨h1, h2⟩, h3⟩, _⟩, _⟩ := h
  obtain ⟨⟨lv, g1, g2⟩, g3, g4, g5⟩ := hs
  refine ⟨⟨lv, g1, z_leL_ok (fun a b x hab hr => ?_) h1 g2⟩, z_leL_ok (z_leV_ok hf) h2 g3, z_leL_ok (fun a b x hab hr => z_leC_ok hf a b x.2 hab hr) h3 g4, g5⟩
  rw [Bool.and_eq_true, beq_iff_eq] at hab
  exact ⟨hab.1.symm.trans hr.1, z_leV_ok hf _ _ _ hab.2 hr.2⟩
theorem z_leS_n {f : zI → zI → Bool} {a b : zS} (h : z_leS f a b = true) : a.2.2.2.1 = b.2.2.2.1 ∧ a.2.2.2.2 = b.2.2.2.2 := by
  unfold z_leS at h
  simp only [Bool.and_eq_true, beq_iff_eq] at h
  exact ⟨h.1.2, h.2⟩
/-- the number 6 counts the loop's rounds -/
def z_not6 (t : zI) : Bool := match t with
  | .inr (i, _) => i != 6
  | _ => true
def z_fin1 (t u : zI) : Bool := decide (u = .inl none) || (decide (t = u) && z_not6 t) || (decide (t = .inl (some 1)) && decide (u = .inr (6, 0)))
def z_fback (t u : zI) : Bool := decide (u = .inl none) || (decide (t = u) && z_not6 t) || (decide (t = .inr (6, 1)) && decide (u = .inr (6, 0)))
def z_fout (t u : zI) : Bool := decide (u = .inl none) || (decide (t = u) && z_not6 t) || (decide (t = .inr (6, 0)) && decide (u = .inr (1, 0)))
def z_ek (env : Nat → Int32) (k : Nat) : Nat → Int32 := fun i => if i = 6 then Int32.ofNat k else env i
theorem z_not6_ok {env env' : Nat → Int32} (he : ∀ i, i ≠ 6 → env' i = env i) {t : zI} {x : Int32} (h : z_not6 t = true) (hx : z_i env t x) : z_i env' t x := by
  match t, h, hx with
  | .inl (some _), _, hx => exact hx
  | .inl none, _, _ => trivial
  | .inr (i, c), h, hx =>
    have hi : i ≠ 6 := by simpa [z_not6] using h
    show x = env' i + c
    rw [he i hi]
    exact hx
theorem z_fout_ok (env : Nat → Int32) (k : Nat) (hk : Int32.ofNat k = env 1) (t u : zI) (x : Int32) (h : z_fout t u = true) (hx : z_i (z_ek env k) t x) : z_i env u x := by
  simp only [z_fout, Bool.or_eq_true, Bool.and_eq_true, decide_eq_true_eq] at h
  rcases h with (rfl | ⟨rfl, h⟩) | ⟨rfl, rfl⟩
  · trivial
  · exact z_not6_ok (fun i hi => by simp [z_ek, hi]) h hx
  · show x = env 1 + 0
    rw [← hk]
    exact hx
theorem z_fin1_ok (env : Nat → Int32) (t u : zI) (x : Int32) (h : z_fin1 t u = true) (hx : z_i env t x) : z_i (z_ek env 1) u x := by
  simp only [z_fin1, Bool.or_eq_true, Bool.and_eq_true, decide_eq_true_eq] at h
  rcases h with (rfl | ⟨rfl, h⟩) | ⟨rfl, rfl⟩
  · trivial
  · exact z_not6_ok (fun i hi => by simp [z_ek, hi]) h hx
  · show x = z_ek env 1 6 + 0
    rw [show x = 1 from hx]
    rfl
theorem z_fback_ok (env : Nat → Int32) (k : Nat) (t u : zI) (x : Int32) (h : z_fback t u = true) (hx : z_i (z_ek env k) t x) : z_i (z_ek env (k + 1)) u x := by
  simp only [z_fback, Bool.or_eq_true, Bool.and_eq_true, decide_eq_true_eq] at h
  rcases h with (rfl | ⟨rfl, h⟩) | ⟨rfl, rfl⟩
  · trivial
  · exact z_not6_ok (fun i hi => by simp [z_ek, hi]) h hx
  · show x = Int32.ofNat (k + 1) + 0
    rw [show x = Int32.ofNat k + 1 from hx, Int32.add_zero]
    exact (nI_1 k)
section ZW
variable {p : Program} {l : Launch} {e : Env} {R : Room} {s : State} {m : MethodId} {args : Array Value} {below : List Frame} {meth : Method} {c : Code} {Q : State → Prop} {cc : ByteArray}
variable {xb : Nat} {env : Nat → Int32} {kc : Nat → ClassId} {D : va_G} {cl : List vw_C} {A : Nat → Prop} {H0 : Heap} {ad0 : Nat → Option Nat} {nL : Nat}
variable {zl : List (Nat × zV)} {st : List zV} {w : zW} {nc ns pc : Nat}
theorem z_wide {env' : Nat → Int32} {f : zI → zI → Bool} (hf : ∀ t u x, f t u = true → z_i env t x → z_i env' u x) {a b : zS} (h : z_leS f a b = true) (kk : z_G p l e R s m args below meth c Q xb env' kc D cl A H0 ad0 nL pc b) : z_G p l e R s m args below meth c Q xb env kc D cl A H0 ad0 nL pc a := by
  intro ls sv ws H locs hs
  rw [(z_leS_n h).1, (z_leS_n h).2]
  exact kk ls sv ws H locs (z_leS_ok hf h hs)
theorem z_geenv (hx : p.tables.exec = Jvm.exec) (hb : c.code = cc) {i j tgt : Nat} {off : Int} (hd : decode cc pc = .ok (.if_icmp .ge off, 3)) (ht : (pc : Int) + off = (tgt : Int)) (kt : env j ≤ env i → z_G p l e R s m args below meth c Q xb env kc D cl A H0 ad0 nL tgt (zl, st, w, nc, ns)) (kf : ¬ env j ≤ env i → z_G p l e R s m args below meth c Q xb env kc D cl A H0 ad0 nL (pc + 3) (zl, st, w, nc, ns)) : z_G p l e R s m args below meth c Q xb env kc D cl A H0 ad0 nL pc (zl, .inl (.inr (j, 0)) :: .inl (.inr (i, 0)) :: st, w, nc, ns) := by
  intro ls sv ws H locs ⟨h1, h2, h3⟩
  obtain ⟨_, sv', rfl, ⟨b, rfl, hy⟩, h4⟩ := z_st1 h2
  obtain ⟨_, sv'', rfl, ⟨a, rfl, ha⟩, h5⟩ := z_st1 h4
  obtain rfl : b = env j := hy.trans (Int32.add_zero _)
  obtain rfl : a = env i := ha.trans (Int32.add_zero _)
  exact lv_icmp_ge hx hb hd ht (fun h => kt h ls _ ws H locs ⟨h1, h5, h3⟩) (fun h => kf h ls _ ws H locs ⟨h1, h5, h3⟩)
end ZW
def z_no : Nat → List zV → zW → Option (Option zV × zW) := fun _ _ _ => none
theorem z_no_ok {EX : (Nat → Prop) → State → Heap → Prop} {l : Launch} {TB : List Cond} {NT : List (String × Nat × MethodName × String)} {kc : Nat → ClassId} {D : va_G} {cl : List vw_C} {xb : Nat} {env : Nat → Int32} {P : List zM} : z_spok EX l TB NT kc D cl xb env z_no P := fun _ _ _ _ _ _ _ _ _ _ _ _ _ _ _ h => by cases h
set_option maxHeartbeats 4000000 in
/-- a method whose loop runs while the number 6 is below the number 1 -/
theorem z_counted {EX : (Nat → Prop) → State → Heap → Prop} (hE : z_EX EX) {l : Launch} {TB : List Cond} {NT : List (String × Nat × MethodName × String)} {cl : List vw_C} {kc : Nat → ClassId} {D : va_G} {xb : Nat} {env : Nat → Int32} {b0 b2 b3 b4 b5 : Int × Int} {TF : Nat → Nat → FieldType} {DF : Nat → List zV} {P : List zM} {n0 n1 nb nx d d0 q tgt pcr na : Nat} {off : Int} {y : MethodName} {cc : ByteArray} {maxL : Nat} {ret : Option FieldType} {tab : List zE} {inf : List Nat} {za : List zV} {w : zW} {zl0 : List (Nat × zV)} {st0 : List zV} {w0 : zW} {x0 y0 : zI} {z1 zb zx : zS} {zlh : List (Nat × zV)} {sth : List zV} {wh : zW} {zlr : List (Nat × zV)} {str : List zV} {wr : zW} {rz : Option zV}
    (hB : z_B [b0, (1, 60), b2, b3, b4, b5] env) (hall : z_all TB NT cl TF DF P) (hM : z_Mok TB NT cl TF DF P (y, cc, maxL, ret, tab, 0, 0, na)) (hd : d0 ≤ d)
    (hq : z_find tab q = some (.if_icmp .ge off, inf)) (ht : z_tgt q off = some tgt)
    (r0 : z_run P [b0, (1, 60), b2, b3, b4, b5] TF DF z_no n0 none d0 0 0 (y, cc, maxL, ret, tab, 0, 0, na) 0 (z_ent 0 za, [], w, 0, 0) = some (q, (zl0, .inl y0 :: .inl x0 :: st0, w0, 0, 0))) (c0 : z_cond [b0, (1, 60), b2, b3, b4, b5] .ge x0 y0 = some false)
    (r1 : z_run P [b0, (1, 60), b2, b3, b4, b5] TF DF z_no n1 none d0 0 0 (y, cc, maxL, ret, tab, 0, 0, na) (q + 3) (zl0, st0, w0, 0, 0) = some (q, z1)) (e1 : z_leS z_fin1 z1 (zlh, .inl (.inr (1, 0)) :: .inl (.inr (6, 0)) :: sth, wh, 0, 0) = true)
    (rb : z_run P [b0, (1, 60), b2, b3, b4, b5, (1, 59)] TF DF z_no nb none d0 0 0 (y, cc, maxL, ret, tab, 0, 0, na) (q + 3) (zlh, sth, wh, 0, 0) = some (q, zb)) (eb : z_leS z_fback zb (zlh, .inl (.inr (1, 0)) :: .inl (.inr (6, 0)) :: sth, wh, 0, 0) = true)
    (rx : z_run P [b0, (1, 60), b2, b3, b4, b5, (1, 60)] TF DF z_no nx none d0 0 0 (y, cc, maxL, ret, tab, 0, 0, na) tgt (zlh, sth, wh, 0, 0) = some (pcr, zx)) (ex : z_leS z_fout zx (zlr, str, wr, 0, 0) = true) (hres : z_res tab ret pcr str = some rz) (hL : (za.map z_cat).sum ≤ maxL) : z_Met EX l TB NT kc D cl xb env y cc maxL ret (z_rm d 0 0) za w rz wr 0 0 := by
  intro av ws0 sz hav hws
  refine Met.ofW (cc := cc) (maxL := maxL) (ret := ret) hM.1 rfl ?_
  intro p e s m args below meth c s₁ Bd hml hv
  obtain ⟨rfl, hsz, hP, hK, hD0, hN, hEx⟩ := hv
  subst hsz
  have hts0 := atoms_spec (ws := Cond.code y cc maxL ret :: TB) Bd.pre
  have hts : ∀ w ∈ TB, w.before av.toArray s = true := fun w hw => hts0 w (List.mem_cons_of_mem _ hw)
  have hown : s.vm.findClass y.cls = some m.cls := findClass_of_methodNamed Bd.named
  have hname : y.name = "<init>" → meth.name = "<init>" := fun h => (name_of_methodNamed Bd.named Bd.method).1.trans h
  have hsum : (lg_sl av).length ≤ maxL := by rw [z_sl_len, ← z_cats hav]; exact hL
  have hctx : ∀ env' : Nat → Int32, z_ctx EX TB NT cl kc D p (headSpec (Cond.code y cc maxL ret :: TB) (z_rm d 0 0)).room s m av.toArray meth c (va_A ws0 s.heap.size) s.heap xb env' none d0 0 0 (y, cc, maxL, ret, tab, 0, 0, na) := fun env' => ⟨Bd.exec, Bd.bytes, hml, hown, hname, hts, hK, hN, fun q h => Or.inr h, by show d0 + 1 ≤ d + 1; omega, by show 100 * d0 + 100 ≤ 100 * d + 100; omega, Nat.le_refl _, Nat.le_refl _, rfl, hEx, fun _ h => by cases h⟩
  have hdq := (hM.2 _ (z_find_in hq)).1
  dsimp only at hdq
  have htq := z_tgt_ok ht
  rw [lg_entry_eq]
  -- the end
  have hend : ∀ k, Int32.ofNat k = env 1 → z_G p l e (headSpec (Cond.code y cc maxL ret :: TB) (z_rm d 0 0)).room s m av.toArray below meth c (MQ below (z_Qc xb env kc D cl ws0 s.heap.size wr rz) av.toArray s 0 0 (va_A ws0 s.heap.size)) xb (z_ek env k) kc D cl (va_A ws0 s.heap.size) s.heap (z_ad xb ws0) maxL pcr zx := by
    intro k hk
    refine z_wide (z_fout_ok env k hk) ex ?_
    unfold z_res at hres
    split at hres
    next hf =>
      split at hres
      next ty t =>
        split at hres
        next hfit =>
          cases hres
          exact z_iret Bd.exec Bd.bytes Bd.returns Bd.notSynchronized hfit (Nat.le_refl _) (Nat.le_refl _) (hM.2 _ (z_find_in hf)).1
        next => cases hres
      next => cases hres
    next hf =>
      split at hres
      next =>
        cases hres
        exact z_vret Bd.exec Bd.bytes Bd.returns Bd.notSynchronized (Nat.le_refl _) (Nat.le_refl _) (hM.2 _ (z_find_in hf)).1
      next => cases hres
    next hf =>
      split at hres
      next =>
        cases hres
        exact z_aret Bd.exec Bd.bytes Bd.returns Bd.notSynchronized (Nat.le_refl _) (Nat.le_refl _) (hM.2 _ (z_find_in hf)).1
      next => cases hres
    next => cases hres
  obtain ⟨hn1, hn2⟩ := hB 1 1 60 rfl
  have hBk : ∀ (k : Nat) (hi : Int), 1 ≤ k → (k : Int) ≤ hi → k ≤ 60 → z_B [b0, (1, 60), b2, b3, b4, b5, (1, hi)] (z_ek env k) := by
    intro k hi h1 h2 h3 i lo hi' hg
    match i, hg with
    | 0, hg => exact hB 0 lo hi' hg
    | 1, hg => exact hB 1 lo hi' hg
    | 2, hg => exact hB 2 lo hi' hg
    | 3, hg => exact hB 3 lo hi' hg
    | 4, hg => exact hB 4 lo hi' hg
    | 5, hg => exact hB 5 lo hi' hg
    | 6, hg =>
      cases hg
      show 1 ≤ (Int32.ofNat k).toInt ∧ (Int32.ofNat k).toInt ≤ hi
      rw [show (Int32.ofNat k).toInt = (k : Int) from nI_toInt (by omega)]
      omega
    | i + 7, hg => simp at hg
  have hloop : ∀ (j k : Nat), 1 ≤ k → (k : Int) + j = (env 1).toInt → z_G p l e (headSpec (Cond.code y cc maxL ret :: TB) (z_rm d 0 0)).room s m av.toArray below meth c (MQ below (z_Qc xb env kc D cl ws0 s.heap.size wr rz) av.toArray s 0 0 (va_A ws0 s.heap.size)) xb (z_ek env k) kc D cl (va_A ws0 s.heap.size) s.heap (z_ad xb ws0) maxL q (zlh, .inl (.inr (1, 0)) :: .inl (.inr (6, 0)) :: sth, wh, 0, 0) := by
    intro j
    induction j with
    | zero =>
      intro k h1 h2
      refine z_geenv Bd.exec Bd.bytes hdq htq (fun _ => ?_) (fun hno => ?_)
      · refine z_run_ok hE (hBk k 60 h1 (by omega) (by omega)) hall z_no_ok nx none d0 0 0 _ tgt _ pcr zx rx hM p e _ s m _ below meth c _ _ _ _ (hctx _) (fun _ h => by cases h) (hend k ?_)
        rw [← Int32.toInt_inj, show (Int32.ofNat k).toInt = (k : Int) from nI_toInt (by omega)]
        omega
      · refine absurd ?_ hno
        rw [Int32.le_iff_toInt_le]
        show (env 1).toInt ≤ (Int32.ofNat k).toInt
        rw [show (Int32.ofNat k).toInt = (k : Int) from nI_toInt (by omega)]
        omega
    | succ j ih =>
      intro k h1 h2
      refine z_geenv Bd.exec Bd.bytes hdq htq (fun hyes => ?_) (fun _ => ?_)
      · rw [Int32.le_iff_toInt_le] at hyes
        have hyes : (env 1).toInt ≤ (Int32.ofNat k).toInt := hyes
        rw [show (Int32.ofNat k).toInt = (k : Int) from nI_toInt (by omega)] at hyes
        omega
      · exact z_run_ok hE (hBk k 59 h1 (by omega) (by omega)) hall z_no_ok nb none d0 0 0 _ (q + 3) _ q zb rb hM p e _ s m _ below meth c _ _ _ _ (hctx _) (fun _ h => by cases h) (z_wide (z_fback_ok env k) eb (ih (k + 1) (by omega) (by omega)))
  have h1 := hloop ((env 1).toInt.toNat - 1) 1 (Nat.le_refl _) (by omega)
  have h2 : z_G p l e (headSpec (Cond.code y cc maxL ret :: TB) (z_rm d 0 0)).room s m av.toArray below meth c (MQ below (z_Qc xb env kc D cl ws0 s.heap.size wr rz) av.toArray s 0 0 (va_A ws0 s.heap.size)) xb env kc D cl (va_A ws0 s.heap.size) s.heap (z_ad xb ws0) maxL q z1 := z_wide (z_fin1_ok env) e1 h1
  have h3 := z_run_ok hE (l := l) (kc := kc) (D := D) (xb := xb) hB hall z_no_ok n1 none d0 0 0 _ (q + 3) _ q z1 r1 hM p e _ s m _ below meth c _ _ _ _ (hctx env) (fun _ h => by cases h) h2
  have h4 := z_icmp Bd.exec Bd.bytes hB hdq htq c0 h3
  exact z_run_ok hE hB hall z_no_ok n0 none d0 0 0 _ 0 _ q _ r0 hM p e _ s m _ below meth c _ _ _ _ (hctx env) (fun _ h => by cases h) h4 _ [] ws0 s.heap [] ⟨⟨_, lv_entry av hsum, z_ent_ok 0 hav⟩, trivial, hws, fun _ _ h => h, hP, hD0.self, va_S.rf⟩

/-- what of a state is left when the count is over -/
def z_o6 (t : zI) : zI := match t with
  | .inr (i, c) => if i = 6 then (if c = 0 then .inr (1, 0) else .inl none) else .inr (i, c)
  | t => t
def z_o6V (v : zV) : zV := match v with
  | .inl t => .inl (z_o6 t)
  | v => v
def z_o6C (c : zC) : zC := match c with
  | .inl (ci, fs) => .inl (ci, fs.map z_o6V)
  | .inr (.inl (k, es)) => .inr (.inl (k, es.map z_o6))
  | c => c
/-- the counted loop of a method: what it answers, the cells then -/
def z_cnt (P : List zM) (b0 b2 b3 b4 b5 : Int × Int) (TF : Nat → Nat → FieldType) (DF : Nat → List zV) (n d0 q : Nat) (M : zM) (za : List zV) (w : zW) (zlh : List (Nat × zV)) (sth : List zV) (wh : zW) : Option (Option zV × zW) :=
  match z_find M.2.2.2.2.1 q with
  | some (.if_icmp .ge off, _) => match z_tgt q off with
    | some tgt => match z_run P [b0, (1, 60), b2, b3, b4, b5] TF DF z_no n none d0 0 0 M 0 (z_ent 0 za, [], w, 0, 0) with
      | some (q0, (zl0, .inl y0 :: .inl x0 :: st0, w0, 0, 0)) => if q0 = q ∧ z_cond [b0, (1, 60), b2, b3, b4, b5] .ge x0 y0 = some false ∧ M.2.2.2.2.2.1 = 0 ∧ M.2.2.2.2.2.2.1 = 0 ∧ (za.map z_cat).sum ≤ M.2.2.1 then
          match z_run P [b0, (1, 60), b2, b3, b4, b5] TF DF z_no n none d0 0 0 M (q + 3) (zl0, st0, w0, 0, 0) with
          | some (q1, z1) => if q1 = q ∧ z_leS z_fin1 z1 (zlh, .inl (.inr (1, 0)) :: .inl (.inr (6, 0)) :: sth, wh, 0, 0) = true then
              match z_run P [b0, (1, 60), b2, b3, b4, b5, (1, 59)] TF DF z_no n none d0 0 0 M (q + 3) (zlh, sth, wh, 0, 0) with
              | some (q2, zb) => if q2 = q ∧ z_leS z_fback zb (zlh, .inl (.inr (1, 0)) :: .inl (.inr (6, 0)) :: sth, wh, 0, 0) = true then
                  match z_run P [b0, (1, 60), b2, b3, b4, b5, (1, 60)] TF DF z_no n none d0 0 0 M tgt (zlh, sth, wh, 0, 0) with
                  | some (pcr, zx) => if z_leS z_fout zx (zx.1.map (fun a => (a.1, z_o6V a.2)), zx.2.1.map z_o6V, zx.2.2.1.map z_o6C, 0, 0) = true then match z_res M.2.2.2.2.1 M.2.2.2.1 pcr (zx.2.1.map z_o6V) with
                      | some rz => some (rz, zx.2.2.1.map z_o6C)
                      | none => none
                    else none
                  | none => none
                else none
              | none => none
            else none
          | none => none
        else none
      | _ => none
    | none => none
  | _ => none
theorem z_cnt_ok {EX : (Nat → Prop) → State → Heap → Prop} (hE : z_EX EX) {l : Launch} {TB : List Cond} {NT : List (String × Nat × MethodName × String)} {cl : List vw_C} {kc : Nat → ClassId} {D : va_G} {xb : Nat} {env : Nat → Int32} {b0 b2 b3 b4 b5 : Int × Int} {TF : Nat → Nat → FieldType} {DF : Nat → List zV} {P : List zM} {n d d0 q mc ms na : Nat} {y : MethodName} {cc : ByteArray} {maxL : Nat} {ret : Option FieldType} {tab : List zE} {za : List zV} {w : zW} {zlh : List (Nat × zV)} {sth : List zV} {wh : zW} {rz : Option zV} {wr : zW}
    (hB : z_B [b0, (1, 60), b2, b3, b4, b5] env) (hall : z_all TB NT cl TF DF P) (hM : z_Mok TB NT cl TF DF P (y, cc, maxL, ret, tab, mc, ms, na)) (hd : d0 ≤ d) (h : z_cnt P b0 b2 b3 b4 b5 TF DF n d0 q (y, cc, maxL, ret, tab, mc, ms, na) za w zlh sth wh = some (rz, wr)) : z_Met EX l TB NT kc D cl xb env y cc maxL ret (z_rm d mc ms) za w rz wr mc ms := by
  unfold z_cnt at h
  dsimp only at h
  split at h
  next off inf hq =>
    split at h
    next tgt ht =>
      split at h
      next q0 zl0 y0 x0 st0 w0 r0 =>
        split at h
        next hc =>
          obtain ⟨rfl, c0, rfl, rfl, hL⟩ := hc
          split at h
          next q1 z1 r1 =>
            split at h
            next hc1 =>
              obtain ⟨rfl, e1⟩ := hc1
              split at h
              next q2 zb rb =>
                split at h
                next hc2 =>
                  obtain ⟨rfl, eb⟩ := hc2
                  split at h
                  next pcr zx rx =>
                    split at h
                    next ex =>
                      split at h
                      next rz' hres =>
                        cases h
                        exact z_counted hE hB hall hM hd hq ht r0 c0 r1 e1 rb eb rx ex hres hL
                      next => cases h
                    next => cases h
                  next => cases h
                next => cases h
              next => cases h
            next => cases h
          next => cases h
        next => cases h
      next => cases h
    next => cases h
  next => cases h
/-! ===== like worlds ===== -/
def z_dC : DecidableEq zC := fun a b => match a, b with
  | .inl x, .inl y => if h : x = y then isTrue (by rw [h]) else isFalse (fun q => h (Sum.inl.inj q))
  | .inr x, .inr y => if h : x = y then isTrue (by rw [h]) else isFalse (fun q => h (Sum.inr.inj q))
  | .inl _, .inr _ => isFalse (fun q => by cases q)
  | .inr _, .inl _ => isFalse (fun q => by cases q)
def z_eqW (a b : zW) : Bool := @decide (a = b) (@instDecidableEqList zC z_dC a b)
theorem z_eqW_ok {a b : zW} (h : z_eqW a b = true) : a = b := @of_decide_eq_true (a = b) (@instDecidableEqList zC z_dC a b) h
def z_is (r : Option (Nat × zS)) (pc : Nat) (z : zS) : Bool := match r with
  | some (pc', (zl, st, w, nc, ns)) => decide (pc' = pc) && decide (zl = z.1) && decide (st = z.2.1) && z_eqW w z.2.2.1 && decide (nc = z.2.2.2.1) && decide (ns = z.2.2.2.2)
  | none => false
theorem z_is_ok {r : Option (Nat × zS)} {pc : Nat} {z : zS} (h : z_is r pc z = true) : r = some (pc, z) := by
  unfold z_is at h
  split at h
  next =>
    simp only [Bool.and_eq_true, decide_eq_true_eq] at h
    obtain ⟨⟨⟨⟨⟨rfl, rfl⟩, rfl⟩, hw⟩, rfl⟩, rfl⟩ := h
    rw [z_eqW_ok hw]
  next => cases h
/-! ===== long runs in pieces ===== -/
def z_Rch (P : List zM) (B : List (Int × Int)) (TF : Nat → Nat → FieldType) (DF : Nat → List zV) (sp : Nat → List zV → zW → Option (Option zV × zW)) (d C S : Nat) (M : zM) : List (Nat × Nat × zS) → Nat → zS → Nat → zS → Prop
  | [], pc, z, pc', z' => pc = pc' ∧ z = z'
  | q :: r, pc, z, pc', z' => z_is (z_run P B TF DF sp q.1 none d C S M pc z) q.2.1 q.2.2 = true ∧ z_Rch P B TF DF sp d C S M r q.2.1 q.2.2 pc' z'
theorem z_rch_ok {EX : (Nat → Prop) → State → Heap → Prop} {l : Launch} {TB : List Cond} {NT : List (String × Nat × MethodName × String)} {cl : List vw_C} {kc : Nat → ClassId} {D : va_G} {xb : Nat} {env : Nat → Int32} {B : List (Int × Int)} {TF : Nat → Nat → FieldType} {DF : Nat → List zV} {sp : Nat → List zV → zW → Option (Option zV × zW)} {P : List zM} {d C S pc pc' : Nat} {M : zM} {z z' : zS} {rs : List (Nat × Nat × zS)}
    (hH : ∀ n, z_H EX l TB NT cl kc D xb env B TF DF sp P n) (hM : z_Mok TB NT cl TF DF P M) (hr : z_Rch P B TF DF sp d C S M rs pc z pc' z') (p : Program) (e : Env) (R : Room) (s : State) (m : MethodId) (args : Array Value) (below : List Frame) (meth : Method) (c : Code) (Q : State → Prop) (A : Nat → Prop) (H0 : Heap) (ad0 : Nat → Option Nat) (hctx : z_ctx EX TB NT cl kc D p R s m args meth c A H0 xb env none d C S M)
    (kk : z_G p l e R s m args below meth c Q xb env kc D cl A H0 ad0 M.2.2.1 pc' z') : z_G p l e R s m args below meth c Q xb env kc D cl A H0 ad0 M.2.2.1 pc z := by
  induction rs generalizing pc z with
  | nil =>
    obtain ⟨rfl, rfl⟩ := hr
    exact kk
  | cons q r ih => exact hH q.1 none d C S M _ _ _ _ (z_is_ok hr.1) hM p e R s m args below meth c Q A H0 ad0 hctx (fun _ h => by cases h) (ih hr.2)
set_option maxHeartbeats 4000000 in
theorem z_meetsR {EX : (Nat → Prop) → State → Heap → Prop} {l : Launch} {TB : List Cond} {NT : List (String × Nat × MethodName × String)} {cl : List vw_C} {kc : Nat → ClassId} {D : va_G} {xb : Nat} {env : Nat → Int32} {B : List (Int × Int)} {TF : Nat → Nat → FieldType} {DF : Nat → List zV} {sp : Nat → List zV → zW → Option (Option zV × zW)} {P : List zM} {d0 d pcr mc ms na : Nat} {y : MethodName} {cc : ByteArray} {maxL : Nat} {ret : Option FieldType} {tab : List zE} {za : List zV} {w : zW} {zr : zS} {rz : Option zV} {rs : List (Nat × Nat × zS)}
    (hH : ∀ n, z_H EX l TB NT cl kc D xb env B TF DF sp P n) (hM : z_Mok TB NT cl TF DF P (y, cc, maxL, ret, tab, mc, ms, na)) (hd : d0 ≤ d) (hrun : z_Rch P B TF DF sp d0 mc ms (y, cc, maxL, ret, tab, mc, ms, na) rs 0 (z_ent 0 za, [], w, 0, 0) pcr zr) (hres : z_res tab ret pcr zr.2.1 = some rz) (h1 : zr.2.2.2.1 ≤ mc) (h2 : zr.2.2.2.2 ≤ ms) (hL : (za.map z_cat).sum ≤ maxL) : z_Met EX l TB NT kc D cl xb env y cc maxL ret (z_rm d mc ms) za w rz zr.2.2.1 mc ms := by
  intro av ws0 sz hav hws
  refine Met.ofW (cc := cc) (maxL := maxL) (ret := ret) hM.1 rfl ?_
  intro p e s m args below meth c s₁ Bd hml hv
  obtain ⟨rfl, hsz, hP, hK, hD0, hN, hEx⟩ := hv
  subst hsz
  have hts0 := atoms_spec (ws := Cond.code y cc maxL ret :: TB) Bd.pre
  have hts : ∀ w ∈ TB, w.before av.toArray s = true := fun w hw => hts0 w (List.mem_cons_of_mem _ hw)
  have hown : s.vm.findClass y.cls = some m.cls := findClass_of_methodNamed Bd.named
  have hname : y.name = "<init>" → meth.name = "<init>" := fun h => (name_of_methodNamed Bd.named Bd.method).1.trans h
  have hsum : (lg_sl av).length ≤ maxL := by rw [z_sl_len, ← z_cats hav]; exact hL
  rw [lg_entry_eq]
  refine z_rch_ok hH hM hrun p e _ s m av.toArray below meth c _ (va_A ws0 s.heap.size) s.heap (z_ad xb ws0) ⟨Bd.exec, Bd.bytes, hml, hown, hname, hts, hK, hN, fun q h => Or.inr h, by show d0 + 1 ≤ d + 1; omega, by show 100 * d0 + 100 ≤ 100 * d + 100; omega, Nat.le_refl _, Nat.le_refl _, rfl, hEx, fun _ h => by cases h⟩ ?_ _ [] ws0 s.heap [] ⟨⟨_, lv_entry av hsum, z_ent_ok 0 hav⟩, trivial, hws, fun _ _ h => h, hP, hD0.self, va_S.rf⟩
  obtain ⟨zl, st, w', nc, ns⟩ := zr
  dsimp only at hres h1 h2 ⊢
  unfold z_res at hres
  split at hres
  next hf =>
    split at hres
    next ty t =>
      split at hres
      next hfit =>
        cases hres
        exact z_iret Bd.exec Bd.bytes Bd.returns Bd.notSynchronized hfit h1 h2 (hM.2 _ (z_find_in hf)).1
      next => cases hres
    next => cases hres
  next hf =>
    split at hres
    next =>
      cases hres
      exact z_vret Bd.exec Bd.bytes Bd.returns Bd.notSynchronized h1 h2 (hM.2 _ (z_find_in hf)).1
    next => cases hres
  next hf =>
    split at hres
    next =>
      cases hres
      exact z_aret Bd.exec Bd.bytes Bd.returns Bd.notSynchronized h1 h2 (hM.2 _ (z_find_in hf)).1
    next => cases hres
  next => cases hres
/-- one call's answer, given -/
def z_s1 (j0 : Nat) (za0 : List zV) (w0 : zW) (rz : Option zV) (w2 : zW) (j : Nat) (za : List zV) (w : zW) : Option (Option zV × zW) := if j = j0 ∧ za = za0 ∧ z_eqW w w0 = true then some (rz, w2) else none
theorem z_s1_ok {EX : (Nat → Prop) → State → Heap → Prop} {l : Launch} {TB : List Cond} {NT : List (String × Nat × MethodName × String)} {cl : List vw_C} {kc : Nat → ClassId} {D : va_G} {xb : Nat} {env : Nat → Int32} {B : List (Int × Int)} {TF : Nat → Nat → FieldType} {DF : Nat → List zV} {sp : Nat → List zV → zW → Option (Option zV × zW)} {P : List zM} {j0 pcr mc ms na : Nat} {y : MethodName} {cc : ByteArray} {maxL : Nat} {ret : Option FieldType} {tab : List zE} {za : List zV} {w : zW} {zr : zS} {rz : Option zV} (rs : List (Nat × Nat × zS))
    (hH : ∀ n, z_H EX l TB NT cl kc D xb env B TF DF sp P n) (hj : P[j0]? = some (y, cc, maxL, ret, tab, mc, ms, na)) (hM : z_Mok TB NT cl TF DF P (y, cc, maxL, ret, tab, mc, ms, na)) (hrun : z_Rch P B TF DF sp 10 mc ms (y, cc, maxL, ret, tab, mc, ms, na) rs 0 (z_ent 0 za, [], w, 0, 0) pcr zr) (hres : z_res tab ret pcr zr.2.1 = some rz) (h1 : zr.2.2.2.1 ≤ mc) (h2 : zr.2.2.2.2 ≤ ms) (hL : (za.map z_cat).sum ≤ maxL) : z_spok EX l TB NT kc D cl xb env (z_s1 j0 za w rz zr.2.2.1) P := by
  intro j za9 w9 rz9 w29 y9 cc9 maxL9 ret9 tab9 mc9 ms9 na9 d hd h hj9
  unfold z_s1 at h
  split at h
  next hc =>
    obtain ⟨rfl, rfl, hw9⟩ := hc
    obtain rfl := z_eqW_ok hw9
    cases h
    cases Option.some.inj (hj.symm.trans hj9)
    exact z_meetsR hH hM hd hrun hres h1 h2 hL
  next => cases h
