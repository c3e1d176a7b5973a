/-! ===== the law's own frame ===== -/
abbrev zA0 (s : State) : Nat → Prop := fun q => s.heap.size ≤ q
abbrev zad0 : Nat → Option Nat := fun _ => none
/-- the law stands on its start, the tables' classes and rows -/
def zq_C (EX : (Nat → Prop) → State → Heap → Prop) (p : Program) (s : State) (m : MethodId) (meth : Method) (c : Code) (b L : Nat) (xs : Nat → Int32) (kc : Nat → ClassId) (D : va_G) : Prop := lw_At p s m meth c b L xs ∧ va_K D vwCl (z_TY kc) s ∧ z_N zNT s ∧ z_EX EX ∧ EX (zA0 s) s s.heap
abbrev zLG (p : Program) (l : Launch) (e : Env) (s : State) (m : MethodId) (below : List Frame) (meth : Method) (c : Code) (b : Nat) (xs : Nat → Int32) (kc : Nat → ClassId) (D : va_G) (pc : Nat) (z : zS) : Prop := z_G p l e room_1 s m #[Value.ref b] below meth c (lw_Z below #[Value.ref b] s) b xs kc D vwCl (zA0 s) s.heap zad0 7 pc z
section ZLAW
variable {p : Program} {l : Launch} {e : Env} {s : State} {m : MethodId} {below : List Frame} {meth : Method} {c : Code} {b L : Nat} {xs : Nat → Int32} {kc : Nat → ClassId} {D : va_G} {EX : (Nat → Prop) → State → Heap → Prop}
theorem zl_ctx (h : zq_C EX p s m meth c b L xs kc D) (Ls : Option (Nat ⊕ List Int32)) (hLs : ∀ L', Ls = some (.inl L') → L' = L) (tab : List zE) : z_ctx EX zTB zNT vwCl kc D p room_1 s m #[Value.ref b] meth c (zA0 s) s.heap b xs Ls 20 600000 7000000 (x, code, 7, ret, tab, 600000, 7000000, 1) := by
  obtain ⟨⟨hx, hb, hr, hml, hown, hts, hX, hbl, hlocks, hgv⟩, hK, hN, hE, hEx⟩ := h
  refine ⟨hx, hb, hml, hown, fun h => absurd (show x.name = "<init>" from h) (by decide), fun w hw => hts w (List.mem_filter.mp hw).1, hK, hN, fun _ h => h, by decide, by decide, by decide, by decide, rfl, hEx, fun L' hL' => ?_⟩
  obtain rfl := hLs L' hL'
  exact ⟨hX, hbl, Nat.not_le.mpr hbl, rfl⟩
theorem zl_ret (h : zq_C EX p s m meth c b L xs kc D) {pc nc ns : Nat} {zl : List (Nat × zV)} {w : zW} (hd : decode code pc = .ok (.ireturn, 1)) (h1 : nc ≤ 600000) (h2 : ns ≤ 7000000) : zLG p l e s m below meth c b xs kc D pc (zl, [.inl (.inl (some 1))], w, nc, ns) := by
  obtain ⟨⟨hx, hb, hr, hml, hown, hts, hX, hbl, hlocks, hgv⟩, hK, hN, hE, hEx⟩ := h
  intro ls sv ws H locs ⟨_, g2, g3, g6, hP, hD, hS⟩
  obtain ⟨_, sv', rfl, ⟨x0, rfl, hx1⟩, g4⟩ := z_st1 g2
  obtain rfl : sv' = [] := by
    cases sv' with
    | nil => rfl
    | cons _ _ => exact g4.elim
  obtain rfl : x0 = 1 := hx1
  refine va_forget (fun q hq => hS.2.2 q hq) ?_
  refine W.widen (k := 600002) (n := 7302232) (by dsimp only; omega) (by dsimp only; omega) ?_
  exact lw_ret hx hb hr hlocks hd
theorem zl_one (h : zq_C EX p s m meth c b L xs kc D) {sp : Nat → List zV → zW → Option (Option zV × zW)} {B : List (Int × Int)} {n pc : Nat} {z : zS} (hB : z_B B xs) (hsp : z_spok EX l zTB zNT kc D vwCl b xs sp zP) (ho : z_one sp B L n pc z = true) : zLG p l e s m below meth c b xs kc D pc z := by
  unfold z_one at ho
  split at ho
  next pc' zl v w nc ns hrun =>
    simp only [Bool.and_eq_true, decide_eq_true_eq, beq_iff_eq] at ho
    obtain ⟨⟨⟨hv, hf⟩, h1⟩, h2⟩ := ho
    subst hv
    split at hf
    next inf hfind => exact z_run_ok h.2.2.2.1 hB z_prog hsp n (some (.inl L)) 20 600000 7000000 zm_law pc z pc' _ hrun zo_law p e room_1 s m _ below meth c _ _ _ _ (zl_ctx h (some (.inl L)) (fun _ q => (Sum.inl.inj (Option.some.inj q)).symm) zt_law) (fun _ q => by cases q) (zl_ret h (zo_law.2 _ (z_find_in hfind)).1 h1 h2)
    next => cases hf
  next => cases ho
theorem zl_B {lo hi : Int} (h1 : lo ≤ (xs 1).toInt) (h2 : (xs 1).toInt ≤ hi) : z_B [(-2147483648, 2147483647), (lo, hi), (-2147483648, 2147483647), (-2147483648, 2147483647), (-2147483648, 2147483647), (-2147483648, 2147483647)] xs := by
  intro i lo' hi' hg
  match i, hg with
  | 0, hg => cases hg; exact z_any _
  | 1, hg => cases hg; exact ⟨h1, h2⟩
  | 2, hg => cases hg; exact z_any _
  | 3, hg => cases hg; exact z_any _
  | 4, hg => cases hg; exact z_any _
  | 5, hg => cases hg; exact z_any _
  | i + 6, hg => simp at hg
theorem zl_D (hE : z_EX EX) (h1 : 1 ≤ (xs 1).toInt) (h2 : (xs 1).toInt ≤ 60) : z_spok EX l zTB zNT kc D vwCl b xs zspD zP := by
  have hB : z_B [zBf, (1, 60), zBf, zBf, zBf, zBf] xs := zl_B h1 h2
  intro j za w rz w2 y cc maxL ret tab mc ms na d hd h hj
  unfold zspD at h
  split at h
  next hc =>
    obtain ⟨rfl, rfl, hw9⟩ := hc
    obtain rfl := z_eqW_ok hw9
    have e9 := Option.some.inj (zq_j0.symm.trans hj)
    rw [e9] at h
    exact z_cnt_ok hE hB z_prog (e9 ▸ zo_X9_passDays) hd h
  next =>
    split at h
    next hc =>
      obtain ⟨rfl, rfl, hw9⟩ := hc
      obtain rfl := z_eqW_ok hw9
      have e9 := Option.some.inj (zq_j1.symm.trans hj)
      rw [e9] at h
      exact z_cnt_ok hE hB z_prog (e9 ▸ zo_X12_goesOn) hd h
    next =>
      split at h
      next hc =>
        obtain ⟨rfl, rfl, hw9⟩ := hc
        obtain rfl := z_eqW_ok hw9
        have e9 := Option.some.inj (zq_j2.symm.trans hj)
        rw [e9] at h
        exact z_cnt_ok hE hB z_prog (e9 ▸ zo_X1_daysRuledOtherwise) hd h
      next =>
        split at h
        next hc =>
          obtain ⟨rfl, rfl, hw9⟩ := hc
          obtain rfl := z_eqW_ok hw9
          have e9 := Option.some.inj (zq_j3.symm.trans hj)
          rw [e9] at h
          exact z_cnt_ok hE hB z_prog (e9 ▸ zo_X12_word) hd h
        next => cases h
theorem z_swall {R : Room} {args : Array Value} {Q : State → Prop} {cc : ByteArray} {env : Nat → Int32} {xb : Nat} {cl : List vw_C} {A : Nat → Prop} {H0 : Heap} {ad0 : Nat → Option Nat} {nL pc nc ns len : Nat} {zl : List (Nat × zV)} {st : List zV} {w : zW} {t : zI} (hx : p.tables.exec = Jvm.exec) (hb : c.code = cc) {dflt hi : Int} {offs : Array Int} (hd : decode cc pc = .ok (.tableswitch dflt 0 hi offs, len)) (hh : hi + 1 = (offs.size : Int)) (hdf : ∃ tgt : Nat, (pc : Int) + dflt = tgt ∧ z_G p l e R s m args below meth c Q xb env kc D cl A H0 ad0 nL tgt (zl, st, w, nc, ns)) (hof : ∀ off ∈ offs.toList, ∃ tgt : Nat, (pc : Int) + off = tgt ∧ z_G p l e R s m args below meth c Q xb env kc D cl A H0 ad0 nL tgt (zl, st, w, nc, ns)) : z_G p l e R s m args below meth c Q xb env kc D cl A H0 ad0 nL pc (zl, .inl t :: st, w, nc, ns) := by
  intro ls sv ws H locs ⟨h1, h2, h3⟩
  obtain ⟨_, sv', rfl, ⟨x0, rfl, hx1⟩, h4⟩ := z_st1 h2
  by_cases ho : x0.toInt < 0 ∨ hi < x0.toInt
  · obtain ⟨tgt, ht, kk⟩ := hdf
    exact lv_tableOut hx hb hd ho ht (kk ls sv' ws H locs ⟨h1, h4, h3⟩)
  · have hi2 : (x0.toInt - 0).toNat < offs.size := by omega
    have hg : offs[(x0.toInt - 0).toNat]? = some offs[(x0.toInt - 0).toNat] := Array.getElem?_eq_getElem hi2
    obtain ⟨tgt, ht, kk⟩ := hof offs[(x0.toInt - 0).toNat] (Array.getElem_mem_toList hi2)
    exact lv_tableIn hx hb hd (by omega) (by omega) hg ht (kk ls sv' ws H locs ⟨h1, h4, h3⟩)
end ZLAW
