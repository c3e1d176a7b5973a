/-! ===== the law's loop ===== -/
theorem hl_add {a b : Int32} {u v : Int} (ha : a.toInt = u) (hb : b.toInt = v) (h1 : -2147483648 ≤ u + v) (h2 : u + v ≤ 2147483647) : (a + b).toInt = u + v := by
  rw [Int32.toInt_add, ha, hb, show (2 : Nat) ^ 32 = 4294967296 from rfl, Int.bmod_def]
  split <;> omega
theorem hl_sub {a b : Int32} {u v : Int} (ha : a.toInt = u) (hb : b.toInt = v) (h1 : -2147483648 ≤ u - v) (h2 : u - v ≤ 2147483647) : (a - b).toInt = u - v := by
  rw [Int32.toInt_sub, ha, hb, show (2 : Nat) ^ 32 = 4294967296 from rfl, Int.bmod_def]
  split <;> omega
section HLH
variable {p : Program} {l : Launch} {e : Env} {s : State} {m : MethodId} {below : List Frame} {meth : Method} {c : Code} {b L : Nat} {xs : Nat → Int32} {kc : Nat → ClassId} {D : va_G} {EX : (Nat → Prop) → State → Heap → Prop}
def hl_offs : Array Int := #[180, 253, 278, 291, 304, 341, 381, 421, 446, 483, 520, 557, 582, 607, 620, 657, 670, 731, 744, 769, 794, 819, 856, 893, 918, 931, 956, 993, 1006, 1019, 1032, 1045, 1058, 1095, 1144, 1169, 1194, 1207, 1232, 1257, 1282]
theorem hl_unl {i : Nat} {ls : Array Slot} {ws : va_W} {H : Heap} {locs : List Loc} (hS : hl_S s b kc D xs i ls ws H locs) : ∃ (v1 v2 v3 : Value) (x4 : Int32), lv_has ls 7 [(0, .ref b), (1, v1), (2, v2), (3, v3), (4, .int x4)] ∧ x4.toInt = (i : Int) ∧ y_v (hl_env i xs) (z_ad b ws) (.inr (.inl (some 1))) v1 ∧ y_v (hl_env i xs) (z_ad b ws) (.inr (.inl (some 210))) v2 ∧ y_v (hl_env i xs) (z_ad b ws) (.inr (.inl (some 226))) v3 := by
  obtain ⟨⟨lv, hlv, hz⟩, _⟩ := hS
  match lv, hz with
  | [(n0, v0), (n1, v1), (n2, v2), (n3, v3), (n4, v4)], ⟨⟨e0, a, ha, hv0⟩, ⟨e1, b1⟩, ⟨e2, b2⟩, ⟨e3, b3⟩, ⟨e4, x4, hv4, b4⟩, _⟩ =>
    dsimp only at e0 e1 e2 e3 e4 hv0 hv4
    subst e0 e1 e2 e3 e4 hv0 hv4
    obtain rfl : b = a := Option.some.inj ha
    refine ⟨v1, v2, v3, x4, hlv, ?_, b1, b2, b3⟩
    have : (i : Int) + 0 = x4.toInt := Option.some.inj b4
    omega
  | [], h => exact h.elim
  | [_], h => exact h.2.elim
  | [_, _], h => exact h.2.2.elim
  | [_, _, _], h => exact h.2.2.2.elim
  | [_, _, _, _], h => exact h.2.2.2.2.elim
  | _ :: _ :: _ :: _ :: _ :: _ :: _, h => exact h.2.2.2.2.2.elim
set_option maxHeartbeats 2000000 in
/-- the loop's head: the end, or a case -/
theorem hl_head (h : hl_C EX p s m meth c b L xs kc D) (hL : L ≤ 3072) {i nc ns : Nat} {ls : Array Slot} {ws : va_W} {H : Heap} {locs : List Loc} (hgo : i + 6 ≤ L → hl_W p l e s m below meth c b H locs nc ns (F0 m 1347 ls []) ∧ ∀ off ∈ hl_offs.toList, ∃ tgt : Nat, ((40 : Nat) : Int) + off = tgt ∧ hl_W p l e s m below meth c b H locs nc ns (F0 m tgt ls [])) (hnc : nc ≤ 601024) (hns : ns ≤ 7293034) (hi9 : i ≤ 3072) (hS : hl_S s b kc D xs i ls ws H locs) : hl_W p l e s m below meth c b H locs nc ns (F0 m 23 ls []) := by
  obtain ⟨hx, hb, hr, hml, hown, hts, hX, hbl, hlocks, hgv⟩ := id h.1
  obtain ⟨v1, v2, v3, x4, hl, hx4, -⟩ := hl_unl hS
  have hSS := hS.2.2.2.2.2.2.2.2.2.2
  refine lv_iload hx hb (show decode code 23 = .ok (.iload 4, 2) by decide +kernel) (lv_at hl 4 rfl) ?_
  refine lv_aload_n hx hb (show decode code 25 = .ok (.aload_n 0, 1) by decide +kernel) rfl (lv_at hl 0 rfl) ?_
  refine va_slen hx hb hX hbl (Nat.not_le.mpr hbl) hSS (show decode code 26 = .ok (.arraylength, 1) by decide +kernel) ?_
  refine lv_bipush (v := 6) hx hb (show decode code 27 = .ok (.bipush 6, 2) by decide +kernel) (by decide) ?_
  refine lv_isub hx hb (show decode code 29 = .ok (.isub, 1) by decide +kernel) ?_
  have hLi : (Int32.ofNat L - 6).toInt = (L : Int) - 6 := hl_sub (y_on (by omega)) (by decide) (by show -2147483648 ≤ (L : Int) - 6; omega) (by show (L : Int) - 6 ≤ 2147483647; omega)
  refine lv_icmp_gt (tgt := 1353) hx hb (show decode code 30 = .ok (.if_icmp .gt 1323, 3) by decide +kernel) (by decide) (fun _ => ?_) (fun hc => ?_)
  · refine lv_iconst (v := 1) hx hb (show decode code 1353 = .ok (.iconst 1, 1) by decide +kernel) (by decide) ?_
    refine va_forget (fun q hq => hSS.2.2 q hq) ?_
    refine W.widen (k := 601024) (n := 7293034) (by omega) (by omega) ?_
    exact lw_ret hx hb hr hlocks (show decode code 1354 = .ok (.ireturn, 1) by decide +kernel)
  · rw [Int32.lt_iff_toInt_lt, hLi, hx4] at hc
    have hi : i + 6 ≤ L := by omega
    obtain ⟨hdf, hof⟩ := hgo hi
    refine lv_aload_n hx hb (show decode code 33 = .ok (.aload_n 0, 1) by decide +kernel) rfl (lv_at hl 0 rfl) ?_
    refine lv_iload hx hb (show decode code 34 = .ok (.iload 4, 2) by decide +kernel) (lv_at hl 4 rfl) ?_
    have hin : vp_in x4 L := by
      intro q
      have h2 : x4.toNatClampNeg = x4.toInt.toNat := rfl
      rcases q with q | q
      · rw [Int32.lt_iff_toInt_lt] at q
        have : (0 : Int32).toInt = 0 := by decide
        omega
      · omega
    refine va_sld hx hb hX hbl (Nat.not_le.mpr hbl) hSS hin (show decode code 36 = .ok (.iaload, 1) by decide +kernel) ?_
    refine lv_bipush (v := 63) hx hb (show decode code 37 = .ok (.bipush 63, 2) by decide +kernel) (by decide) ?_
    refine lv_iand hx hb (show decode code 39 = .ok (.iand, 1) by decide +kernel) ?_
    have hd : decode code 40 = .ok (.tableswitch 1307 0 40 hl_offs, 180) := by decide +kernel
    generalize xs x4.toNatClampNeg &&& 63 = x0
    by_cases ho : x0.toInt < 0 ∨ 40 < x0.toInt
    · exact lv_tableOut (tgt := 1347) hx hb hd ho (by decide) hdf
    · have hsz : hl_offs.size = 41 := rfl
      have hi2 : (x0.toInt - 0).toNat < hl_offs.size := by omega
      obtain ⟨tgt, ht, kk⟩ := hof hl_offs[(x0.toInt - 0).toNat] (Array.getElem_mem_toList hi2)
      exact lv_tableIn hx hb hd (by omega) (by omega) (Array.getElem?_eq_getElem hi2) ht kk
/-- the loop's step -/
theorem hl_next (h : hl_C EX p s m meth c b L xs kc D) (hL : L ≤ 3072) {i nc ns : Nat} (hi : i + 6 ≤ L) (kk : ∀ ls ws H locs, hl_S s b kc D xs (i + 6) ls ws H locs → hl_W p l e s m below meth c b H locs nc ns (F0 m 23 ls [])) {ls : Array Slot} {ws : va_W} {H : Heap} {locs : List Loc} (hS : hl_S s b kc D xs i ls ws H locs) : hl_W p l e s m below meth c b H locs nc ns (F0 m 1347 ls []) := by
  obtain ⟨hx, hb, hr, hml, hown, hts, hX, hbl, hlocks, hgv⟩ := id h.1
  obtain ⟨v1, v2, v3, x4, hl, hx4, b1, b2, b3⟩ := hl_unl hS
  obtain ⟨_, _, hk, hf, hG, hw, hfr, had, hP, hD, hSS⟩ := hS
  refine lv_iinc (k := 4) hx hb (show decode code 1347 = .ok (.iinc 4 6, 3) by decide +kernel) hl rfl rfl (by decide) rfl (fun ls' hl' => ?_)
  refine lv_goto (tgt := 23) hx hb (show decode code 1350 = .ok (.goto (-1327), 3) by decide +kernel) (by decide) ?_
  refine kk ls' ws H locs ⟨⟨[(0, .ref b), (1, v1), (2, v2), (3, v3), (4, .int (x4 + Int32.ofInt 6))], ⟨hl'.1, hl'.2.1, fun q hq => ?_⟩, ⟨rfl, b, rfl, rfl⟩, ⟨rfl, b1⟩, ⟨rfl, b2⟩, ⟨rfl, b3⟩, ⟨rfl, _, rfl, ?_⟩, trivial⟩, trivial, (fun _ h => by cases h), hf, y_Go_to (y_Go_of hG), hw, y_fr_refl, rfl, hP, hD, hSS⟩
  · refine hl'.2.2 q ?_
    have hv : ∀ (n : Nat) (v : Value), n < 4 → (n, v) ∈ [((0 : Nat), Value.ref b), (1, v1), (2, v2), (3, v3), (4, .int x4)] → (n, v) ∈ List.filter (fun q : Nat × Value => !(q.1 == 4) && !(q.1 + 1 == 4 && q.2.category == 2)) [((0 : Nat), Value.ref b), (1, v1), (2, v2), (3, v3), (4, .int x4)] := by
      intro n v hn hm
      refine List.mem_filter.mpr ⟨hm, ?_⟩
      have hc3 : n = 3 → v.category = 1 := by
        intro h3
        subst h3
        simp at hm
        subst hm
        obtain ⟨a, _, ha⟩ := b3
        rw [ha]
        rfl
      by_cases h3 : n = 3
      · subst h3
        have := hc3 rfl
        simp [this]
      · simp
        omega
    rcases List.mem_cons.mp hq with rfl | hq
    · exact List.mem_cons_of_mem _ (hv _ _ (by decide) (by simp))
    rcases List.mem_cons.mp hq with rfl | hq
    · exact List.mem_cons_of_mem _ (hv _ _ (by decide) (by simp))
    rcases List.mem_cons.mp hq with rfl | hq
    · exact List.mem_cons_of_mem _ (hv _ _ (by decide) (by simp))
    rcases List.mem_cons.mp hq with rfl | hq
    · exact List.mem_cons_of_mem _ (hv _ _ (by decide) (by simp))
    have := List.mem_singleton.mp hq
    subst this
    exact List.mem_cons_self
  · have h9 := hl_add hx4 (show (Int32.ofInt 6).toInt = 6 by decide) (by omega) (by omega)
    show some (((i + 6 : Nat) : Int) + 0) = _
    rw [h9]
    exact congrArg some (by omega)
end HLH
