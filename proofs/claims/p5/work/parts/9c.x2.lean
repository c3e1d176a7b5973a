/-! ===== the exact walk: instructions ===== -/
theorem x_oi {n : Int} (h : -2147483648 ≤ n ∧ n ≤ 2147483647) : (Int32.ofInt n).toInt = n := y_oi h.1 h.2
theorem x_add32 {x y : Int32} (h : -2147483648 ≤ x.toInt + y.toInt ∧ x.toInt + y.toInt ≤ 2147483647) : (x + y).toInt = x.toInt + y.toInt := by
  rw [Int32.toInt_add]
  exact Int.bmod_eq_of_le (by omega) (by omega)
theorem x_sub32 {x y : Int32} (h : -2147483648 ≤ x.toInt - y.toInt ∧ x.toInt - y.toInt ≤ 2147483647) : (x - y).toInt = x.toInt - y.toInt := by
  rw [Int32.toInt_sub]
  exact Int.bmod_eq_of_le (by omega) (by omega)
theorem x_mul32 {x y : Int32} (h : -2147483648 ≤ x.toInt * y.toInt ∧ x.toInt * y.toInt ≤ 2147483647) : (x * y).toInt = x.toInt * y.toInt := by
  rw [Int32.toInt_mul]
  exact Int.bmod_eq_of_le (by omega) (by omega)
theorem x_add64 {x y : Int64} (h : -9223372036854775808 ≤ x.toInt + y.toInt ∧ x.toInt + y.toInt ≤ 9223372036854775807) : (x + y).toInt = x.toInt + y.toInt := by
  rw [Int64.toInt_add]
  exact Int.bmod_eq_of_le (by omega) (by omega)
theorem x_mul64 {x y : Int64} (h : -9223372036854775808 ≤ x.toInt * y.toInt ∧ x.toInt * y.toInt ≤ 9223372036854775807) : (x * y).toInt = x.toInt * y.toInt := by
  rw [Int64.toInt_mul]
  exact Int.bmod_eq_of_le (by omega) (by omega)
/-- a sum that fits, or whatever comes out -/
def x_ex (z : Int) (k : Int → Prop) : Prop := ((-2147483648 ≤ z ∧ z ≤ 2147483647) ∧ k z) ∨ ∀ w, -2147483648 ≤ w → w ≤ 2147483647 → k w
def x_exl (z : Int) (k : Int → Prop) : Prop := ((-9223372036854775808 ≤ z ∧ z ≤ 9223372036854775807) ∧ k z) ∨ ∀ w, -9223372036854775808 ≤ w → w ≤ 9223372036854775807 → k w
theorem x_ex_ok {z : Int} {k : Int → Prop} {x : Int32} (h : x_ex z k) (hx : -2147483648 ≤ z ∧ z ≤ 2147483647 → x.toInt = z) : k x.toInt := by
  rcases h with ⟨h1, h2⟩ | h
  · rw [hx h1]; exact h2
  · exact h _ (z_any x).1 (z_any x).2
theorem x_exl_ok {z : Int} {k : Int → Prop} {x : Int64} (h : x_exl z k) (hx : -9223372036854775808 ≤ z ∧ z ≤ 9223372036854775807 → x.toInt = z) : k x.toInt := by
  rcases h with ⟨h1, h2⟩ | h
  · rw [hx h1]; exact h2
  · exact h _ (x_lb x).1 (x_lb x).2
section XI
variable {p : Program} {l : Launch} {e : Env} {R : Room} {s : State} {m : MethodId} {args : Array Value} {below : List Frame} {meth : Method} {c : Code} {Q : State → Prop}
variable {xb : Nat} {kc : Nat → ClassId} {D : va_G} {cl : List vw_C} {A : Nat → Prop} {H0 : Heap} {TY : List (List yC)} {ws0 : va_W} {nc ns : Nat}
variable {EX : (Nat → Prop) → State → Heap → Prop} {TB : List Cond} {NT : List (String × Nat × MethodName × String)} {TF : Nat → Nat → FieldType} {P : Nat → Option yM} {M : yM} {d : Nat}
variable {pc : Nat} {lv : List (Nat × xV)} {sv : List xV} {I L : xF} {inf : List Nat}
theorem x_en (hC : x_C EX TB NT cl kc D xb TF P p R s m args meth c A H0 ws0 nc ns M d) {Ins : Instr} (hf : y_find M.2.2.2.2.1 pc = some (Ins, inf)) : y_en TB NT cl TF P M.1 M.2.1 (pc, Ins, inf) := by
  obtain ⟨row, h8, h9⟩ := y_find_in hf
  exact hC.2.1.2 row h8 _ h9
theorem x_iconst (hC : x_C EX TB NT cl kc D xb TF P p R s m args meth c A H0 ws0 nc ns M d) {n : Int} (hf : y_find M.2.2.2.2.1 pc = some (.iconst n, inf)) (hn : -2147483648 ≤ n ∧ n ≤ 2147483647) (kk : (x_G p l e R s m args below meth c Q xb kc D cl A H0 M.2.2.1 TY ws0 nc ns (pc + 1) (lv) (.inl n :: sv) (I) (L))) : (x_G p l e R s m args below meth c Q xb kc D cl A H0 M.2.2.1 TY ws0 nc ns (pc) (lv) (sv) (I) (L)) := fun ls stk ws H locs ⟨h1, h2, h3⟩ => lv_iconst hC.1.1 hC.1.2.1 (x_en hC hf).1 rfl (kk ls _ ws H locs ⟨h1, ⟨⟨_, rfl, x_oi hn⟩, h2⟩, h3⟩)
theorem x_bipush (hC : x_C EX TB NT cl kc D xb TF P p R s m args meth c A H0 ws0 nc ns M d) {n : Int} (hf : y_find M.2.2.2.2.1 pc = some (.bipush n, inf)) (hn : -128 ≤ n ∧ n ≤ 127) (kk : (x_G p l e R s m args below meth c Q xb kc D cl A H0 M.2.2.1 TY ws0 nc ns (pc + 2) (lv) (.inl n :: sv) (I) (L))) : (x_G p l e R s m args below meth c Q xb kc D cl A H0 M.2.2.1 TY ws0 nc ns (pc) (lv) (sv) (I) (L)) := fun ls stk ws H locs ⟨h1, h2, h3⟩ => lv_bipush hC.1.1 hC.1.2.1 (x_en hC hf).1 rfl (kk ls _ ws H locs ⟨h1, ⟨⟨_, rfl, y_oi8 hn.1 hn.2⟩, h2⟩, h3⟩)
theorem x_sipush (hC : x_C EX TB NT cl kc D xb TF P p R s m args meth c A H0 ws0 nc ns M d) {n : Int} (hf : y_find M.2.2.2.2.1 pc = some (.sipush n, inf)) (hn : -32768 ≤ n ∧ n ≤ 32767) (kk : (x_G p l e R s m args below meth c Q xb kc D cl A H0 M.2.2.1 TY ws0 nc ns (pc + 3) (lv) (.inl n :: sv) (I) (L))) : (x_G p l e R s m args below meth c Q xb kc D cl A H0 M.2.2.1 TY ws0 nc ns (pc) (lv) (sv) (I) (L)) := fun ls stk ws H locs ⟨h1, h2, h3⟩ => lv_sipush hC.1.1 hC.1.2.1 (x_en hC hf).1 rfl (kk ls _ ws H locs ⟨h1, ⟨⟨_, rfl, y_oi16 hn.1 hn.2⟩, h2⟩, h3⟩)
theorem x_lconst (hC : x_C EX TB NT cl kc D xb TF P p R s m args meth c A H0 ws0 nc ns M d) {n : Fin 2} (hf : y_find M.2.2.2.2.1 pc = some (.lconst n, inf)) {z : Int} (hz : ((n : Nat) : Int) = z) (kk : (x_G p l e R s m args below meth c Q xb kc D cl A H0 M.2.2.1 TY ws0 nc ns (pc + 1) (lv) (.inr (.inl z) :: sv) (I) (L))) : (x_G p l e R s m args below meth c Q xb kc D cl A H0 M.2.2.1 TY ws0 nc ns (pc) (lv) (sv) (I) (L)) := fun ls stk ws H locs ⟨h1, h2, h3⟩ => lv_lconst hC.1.1 hC.1.2.1 (x_en hC hf).1 rfl (kk ls _ ws H locs ⟨h1, ⟨⟨_, rfl, (z_lc_ok n _ rfl).trans hz⟩, h2⟩, h3⟩)
theorem x_ldc2 (hC : x_C EX TB NT cl kc D xb TF P p R s m args meth c A H0 ws0 nc ns M d) {idx : Nat} {v : Int64} {z : Int} (hf : y_find M.2.2.2.2.1 pc = some (.ldc2_w idx, inf)) (hw : Cond.constantLong M.1.cls idx v ∈ TB) (hz : v.toInt = z) (kk : (x_G p l e R s m args below meth c Q xb kc D cl A H0 M.2.2.1 TY ws0 nc ns (pc + 3) (lv) (.inr (.inl z) :: sv) (I) (L))) : (x_G p l e R s m args below meth c Q xb kc D cl A H0 M.2.2.1 TY ws0 nc ns (pc) (lv) (sv) (I) (L)) := fun ls stk ws H locs ⟨h1, h2, h3⟩ => lv_ldc2 hC.1.1 hC.1.2.1 hC.1.2.2.2.1 (hC.1.2.2.2.2.2.1 _ hw) (x_en hC hf).1 (kk ls _ ws H locs ⟨h1, ⟨⟨_, rfl, hz⟩, h2⟩, h3⟩)
theorem x_iload (hC : x_C EX TB NT cl kc D xb TF P p R s m args meth c A H0 ws0 nc ns M d) {i : Nat} {z : Int} (hf : y_find M.2.2.2.2.1 pc = some (.iload i, inf)) (hg : x_get lv i = some (.inl z)) (kk : (x_G p l e R s m args below meth c Q xb kc D cl A H0 M.2.2.1 TY ws0 nc ns (pc + 2) (lv) (.inl z :: sv) (I) (L))) : (x_G p l e R s m args below meth c Q xb kc D cl A H0 M.2.2.1 TY ws0 nc ns (pc) (lv) (sv) (I) (L)) := by
  intro ls stk ws H locs ⟨h1, h2, h3⟩
  obtain ⟨x, hx1, y, rfl, hx2⟩ := x_l_at h1 hg
  exact lv_iload hC.1.1 hC.1.2.1 (x_en hC hf).1 hx1 (kk ls _ ws H locs ⟨h1, ⟨⟨_, rfl, hx2⟩, h2⟩, h3⟩)
theorem x_iload_n (hC : x_C EX TB NT cl kc D xb TF P p R s m args meth c A H0 ws0 nc ns M d) {k : Fin 4} {z : Int} (hf : y_find M.2.2.2.2.1 pc = some (.iload_n k, inf)) (hg : x_get lv (k : Nat) = some (.inl z)) (kk : (x_G p l e R s m args below meth c Q xb kc D cl A H0 M.2.2.1 TY ws0 nc ns (pc + 1) (lv) (.inl z :: sv) (I) (L))) : (x_G p l e R s m args below meth c Q xb kc D cl A H0 M.2.2.1 TY ws0 nc ns (pc) (lv) (sv) (I) (L)) := by
  intro ls stk ws H locs ⟨h1, h2, h3⟩
  obtain ⟨x, hx1, y, rfl, hx2⟩ := x_l_at h1 hg
  exact lv_iload_n hC.1.1 hC.1.2.1 (x_en hC hf).1 rfl hx1 (kk ls _ ws H locs ⟨h1, ⟨⟨_, rfl, hx2⟩, h2⟩, h3⟩)
theorem x_lload_n (hC : x_C EX TB NT cl kc D xb TF P p R s m args meth c A H0 ws0 nc ns M d) {k : Fin 4} {z : Int} (hf : y_find M.2.2.2.2.1 pc = some (.lload_n k, inf)) (hg : x_get lv (k : Nat) = some (.inr (.inl z))) (kk : (x_G p l e R s m args below meth c Q xb kc D cl A H0 M.2.2.1 TY ws0 nc ns (pc + 1) (lv) (.inr (.inl z) :: sv) (I) (L))) : (x_G p l e R s m args below meth c Q xb kc D cl A H0 M.2.2.1 TY ws0 nc ns (pc) (lv) (sv) (I) (L)) := by
  intro ls stk ws H locs ⟨h1, h2, h3⟩
  obtain ⟨x, hx1, y, rfl, hx2⟩ := x_l_at h1 hg
  exact lv_lload_n hC.1.1 hC.1.2.1 (x_en hC hf).1 rfl hx1 (kk ls _ ws H locs ⟨h1, ⟨⟨_, rfl, hx2⟩, h2⟩, h3⟩)
theorem x_aload_n (hC : x_C EX TB NT cl kc D xb TF P p R s m args meth c A H0 ws0 nc ns M d) {k : Fin 4} {r : Nat} (hf : y_find M.2.2.2.2.1 pc = some (.aload_n k, inf)) (hg : x_get lv (k : Nat) = some (.inr (.inr (some r)))) (kk : (x_G p l e R s m args below meth c Q xb kc D cl A H0 M.2.2.1 TY ws0 nc ns (pc + 1) (lv) (.inr (.inr (some r)) :: sv) (I) (L))) : (x_G p l e R s m args below meth c Q xb kc D cl A H0 M.2.2.1 TY ws0 nc ns (pc) (lv) (sv) (I) (L)) := by
  intro ls stk ws H locs ⟨h1, h2, h3⟩
  obtain ⟨x, hx1, y, hx2, rfl⟩ := x_l_at h1 hg
  exact lv_aload_n hC.1.1 hC.1.2.1 (x_en hC hf).1 rfl hx1 (kk ls _ ws H locs ⟨h1, ⟨⟨_, hx2, rfl⟩, h2⟩, h3⟩)
theorem x_istore (hC : x_C EX TB NT cl kc D xb TF P p R s m args meth c A H0 ws0 nc ns M d) {i : Nat} {z : Int} (hf : y_find M.2.2.2.2.1 pc = some (.istore i, inf)) (hn : i < M.2.2.1) (kk : (x_G p l e R s m args below meth c Q xb kc D cl A H0 M.2.2.1 TY ws0 nc ns (pc + 2) (x_put lv i (.inl z)) (sv) (I) (L))) : (x_G p l e R s m args below meth c Q xb kc D cl A H0 M.2.2.1 TY ws0 nc ns (pc) (lv) (.inl z :: sv) (I) (L)) := by
  intro ls stk ws H locs ⟨⟨vs, hl, hz⟩, h2, h3⟩
  obtain ⟨x, sv', rfl, ⟨y, rfl, hy⟩, h4⟩ := x_st1 h2
  exact lv_istore hC.1.1 hC.1.2.1 (x_en hC hf).1 hl hn rfl (fun ls' hl' => kk ls' _ ws H locs ⟨⟨_, hl', x_put_ok hz ⟨y, rfl, hy⟩⟩, h4, h3⟩)
theorem x_istore_n (hC : x_C EX TB NT cl kc D xb TF P p R s m args meth c A H0 ws0 nc ns M d) {k : Fin 4} {z : Int} (hf : y_find M.2.2.2.2.1 pc = some (.istore_n k, inf)) (hn : (k : Nat) < M.2.2.1) (kk : (x_G p l e R s m args below meth c Q xb kc D cl A H0 M.2.2.1 TY ws0 nc ns (pc + 1) (x_put lv (k : Nat) (.inl z)) (sv) (I) (L))) : (x_G p l e R s m args below meth c Q xb kc D cl A H0 M.2.2.1 TY ws0 nc ns (pc) (lv) (.inl z :: sv) (I) (L)) := by
  intro ls stk ws H locs ⟨⟨vs, hl, hz⟩, h2, h3⟩
  obtain ⟨x, sv', rfl, ⟨y, rfl, hy⟩, h4⟩ := x_st1 h2
  exact lv_istore_n hC.1.1 hC.1.2.1 (x_en hC hf).1 rfl hl hn rfl (fun ls' hl' => kk ls' _ ws H locs ⟨⟨_, hl', x_put_ok hz ⟨y, rfl, hy⟩⟩, h4, h3⟩)
theorem x_iinc (hC : x_C EX TB NT cl kc D xb TF P p R s m args meth c A H0 ws0 nc ns M d) {i : Nat} {n z : Int} (hf : y_find M.2.2.2.2.1 pc = some (.iinc i n, inf)) (hn : i < M.2.2.1) (hr : -32768 ≤ n ∧ n ≤ 32767) (hg : x_get lv i = some (.inl z)) (kk : x_ex (z + n) (fun w => (x_G p l e R s m args below meth c Q xb kc D cl A H0 M.2.2.1 TY ws0 nc ns (pc + 3) (x_put lv i (.inl w)) (sv) (I) (L)))) : (x_G p l e R s m args below meth c Q xb kc D cl A H0 M.2.2.1 TY ws0 nc ns (pc) (lv) (sv) (I) (L)) := by
  intro ls stk ws H locs ⟨⟨vs, hl, hz⟩, h2, h3⟩
  obtain ⟨x, hx1, y, rfl, hx2⟩ := x_get_in hz hg
  obtain ⟨k, hk⟩ := List.getElem?_of_mem hx1
  have hv : (Int32.ofInt n).toInt = n := y_oi (by omega) (by omega)
  have k9 := x_ex_ok (x := y + Int32.ofInt n) kk (fun h => by rw [x_add32 (by rw [hx2, hv]; exact h), hx2, hv])
  exact lv_iinc hC.1.1 hC.1.2.1 (x_en hC hf).1 hl hk rfl hn rfl (fun ls' hl' => k9 ls' stk ws H locs ⟨⟨_, hl', x_put_ok hz ⟨_, rfl, rfl⟩⟩, h2, h3⟩)
theorem x_dup (hC : x_C EX TB NT cl kc D xb TF P p R s m args meth c A H0 ws0 nc ns M d) {t : xV} (hf : y_find M.2.2.2.2.1 pc = some (.dup, inf)) (ht : x_cat t = 1) (kk : (x_G p l e R s m args below meth c Q xb kc D cl A H0 M.2.2.1 TY ws0 nc ns (pc + 1) (lv) (t :: t :: sv) (I) (L))) : (x_G p l e R s m args below meth c Q xb kc D cl A H0 M.2.2.1 TY ws0 nc ns (pc) (lv) (t :: sv) (I) (L)) := by
  intro ls stk ws H locs ⟨h1, h2, h3⟩
  obtain ⟨x, sv', rfl, hv, h4⟩ := x_st1 h2
  exact lv_dup hC.1.1 hC.1.2.1 (x_en hC hf).1 (by rw [← x_v_cat hv]; exact ht) (kk ls _ ws H locs ⟨h1, ⟨hv, hv, h4⟩, h3⟩)
theorem x_dup2 (hC : x_C EX TB NT cl kc D xb TF P p R s m args meth c A H0 ws0 nc ns M d) {t u : xV} (hf : y_find M.2.2.2.2.1 pc = some (.dup2, inf)) (ht : x_cat t = 1) (hu : x_cat u = 1) (kk : (x_G p l e R s m args below meth c Q xb kc D cl A H0 M.2.2.1 TY ws0 nc ns (pc + 1) (lv) (t :: u :: t :: u :: sv) (I) (L))) : (x_G p l e R s m args below meth c Q xb kc D cl A H0 M.2.2.1 TY ws0 nc ns (pc) (lv) (t :: u :: sv) (I) (L)) := by
  intro ls stk ws H locs ⟨h1, h2, h3⟩
  obtain ⟨x, sv', rfl, hv, h4⟩ := x_st1 h2
  obtain ⟨y, sv'', rfl, hu', h5⟩ := x_st1 h4
  exact lv_dup2_11 hC.1.1 hC.1.2.1 (x_en hC hf).1 (by rw [← x_v_cat hv]; exact ht) (by rw [← x_v_cat hu']; exact hu) (kk ls _ ws H locs ⟨h1, ⟨hv, hu', hv, hu', h5⟩, h3⟩)
theorem x_pop (hC : x_C EX TB NT cl kc D xb TF P p R s m args meth c A H0 ws0 nc ns M d) {t : xV} (hf : y_find M.2.2.2.2.1 pc = some (.pop, inf)) (ht : x_cat t = 1) (kk : (x_G p l e R s m args below meth c Q xb kc D cl A H0 M.2.2.1 TY ws0 nc ns (pc + 1) (lv) (sv) (I) (L))) : (x_G p l e R s m args below meth c Q xb kc D cl A H0 M.2.2.1 TY ws0 nc ns (pc) (lv) (t :: sv) (I) (L)) := by
  intro ls stk ws H locs ⟨h1, h2, h3⟩
  obtain ⟨x, sv', rfl, hv, h4⟩ := x_st1 h2
  exact lv_pop hC.1.1 hC.1.2.1 (x_en hC hf).1 (by rw [← x_v_cat hv]; exact ht) (kk ls _ ws H locs ⟨h1, h4, h3⟩)
theorem x_goto (hC : x_C EX TB NT cl kc D xb TF P p R s m args meth c A H0 ws0 nc ns M d) {off : Int} {tgt : Nat} (hf : y_find M.2.2.2.2.1 pc = some (.goto off, inf)) (ht : (pc : Int) + off = (tgt : Int)) (kk : (x_G p l e R s m args below meth c Q xb kc D cl A H0 M.2.2.1 TY ws0 nc ns (tgt) (lv) (sv) (I) (L))) : (x_G p l e R s m args below meth c Q xb kc D cl A H0 M.2.2.1 TY ws0 nc ns (pc) (lv) (sv) (I) (L)) := fun ls stk ws H locs h => lv_goto hC.1.1 hC.1.2.1 (x_en hC hf).1 ht (kk ls stk ws H locs h)
theorem x_i2l (hC : x_C EX TB NT cl kc D xb TF P p R s m args meth c A H0 ws0 nc ns M d) {z : Int} (hf : y_find M.2.2.2.2.1 pc = some (.i2l, inf)) (kk : (x_G p l e R s m args below meth c Q xb kc D cl A H0 M.2.2.1 TY ws0 nc ns (pc + 1) (lv) (.inr (.inl z) :: sv) (I) (L))) : (x_G p l e R s m args below meth c Q xb kc D cl A H0 M.2.2.1 TY ws0 nc ns (pc) (lv) (.inl z :: sv) (I) (L)) := by
  intro ls stk ws H locs ⟨h1, h2, h3⟩
  obtain ⟨x, sv', rfl, ⟨y, rfl, hy⟩, h4⟩ := x_st1 h2
  exact lv_i2l hC.1.1 hC.1.2.1 (x_en hC hf).1 rfl (kk ls _ ws H locs ⟨h1, ⟨⟨_, rfl, by rw [Int32.toInt_toInt64]; exact hy⟩, h4⟩, h3⟩)
theorem x_b8 (y : Int32) : -128 ≤ (y.toInt8.toInt32).toInt ∧ (y.toInt8.toInt32).toInt ≤ 127 ∧ (y.toInt8.toInt32).toInt % 256 = y.toInt % 256 := by
  have e : (y.toInt8.toInt32).toInt = y.toInt.bmod 256 := by
    rw [Int8.toInt_toInt32, Int32.toInt_toInt8]
  rw [e, Int.bmod_def]
  split <;> omega
theorem x_i2b (hC : x_C EX TB NT cl kc D xb TF P p R s m args meth c A H0 ws0 nc ns M d) {z : Int} (hf : y_find M.2.2.2.2.1 pc = some (.i2b, inf)) (kk : ∀ w, -128 ≤ w → w ≤ 127 → w % 256 = z % 256 → (x_G p l e R s m args below meth c Q xb kc D cl A H0 M.2.2.1 TY ws0 nc ns (pc + 1) (lv) (.inl w :: sv) (I) (L))) : (x_G p l e R s m args below meth c Q xb kc D cl A H0 M.2.2.1 TY ws0 nc ns (pc) (lv) (.inl z :: sv) (I) (L)) := by
  intro ls stk ws H locs ⟨h1, h2, h3⟩
  obtain ⟨x, sv', rfl, ⟨y, rfl, hy⟩, h4⟩ := x_st1 h2
  obtain ⟨b1, b2, b3⟩ := x_b8 y
  exact lv_i2b hC.1.1 hC.1.2.1 (x_en hC hf).1 rfl (kk _ b1 b2 (by rw [b3, hy]) ls _ ws H locs ⟨h1, ⟨⟨_, rfl, rfl⟩, h4⟩, h3⟩)
theorem x_iadd (hC : x_C EX TB NT cl kc D xb TF P p R s m args meth c A H0 ws0 nc ns M d) {x y : Int} (hf : y_find M.2.2.2.2.1 pc = some (.iadd, inf)) (kk : x_ex (x + y) (fun w => (x_G p l e R s m args below meth c Q xb kc D cl A H0 M.2.2.1 TY ws0 nc ns (pc + 1) (lv) (.inl w :: sv) (I) (L)))) : (x_G p l e R s m args below meth c Q xb kc D cl A H0 M.2.2.1 TY ws0 nc ns (pc) (lv) (.inl y :: .inl x :: sv) (I) (L)) := by
  intro ls stk ws H locs ⟨h1, h2, h3⟩
  obtain ⟨_, sv', rfl, ⟨b, rfl, rfl⟩, h4⟩ := x_st1 h2
  obtain ⟨_, sv'', rfl, ⟨a, rfl, rfl⟩, h5⟩ := x_st1 h4
  exact lv_iadd hC.1.1 hC.1.2.1 (x_en hC hf).1 (x_ex_ok kk x_add32 ls _ ws H locs ⟨h1, ⟨⟨_, rfl, rfl⟩, h5⟩, h3⟩)
theorem x_isub (hC : x_C EX TB NT cl kc D xb TF P p R s m args meth c A H0 ws0 nc ns M d) {x y : Int} (hf : y_find M.2.2.2.2.1 pc = some (.isub, inf)) (kk : x_ex (x - y) (fun w => (x_G p l e R s m args below meth c Q xb kc D cl A H0 M.2.2.1 TY ws0 nc ns (pc + 1) (lv) (.inl w :: sv) (I) (L)))) : (x_G p l e R s m args below meth c Q xb kc D cl A H0 M.2.2.1 TY ws0 nc ns (pc) (lv) (.inl y :: .inl x :: sv) (I) (L)) := by
  intro ls stk ws H locs ⟨h1, h2, h3⟩
  obtain ⟨_, sv', rfl, ⟨b, rfl, rfl⟩, h4⟩ := x_st1 h2
  obtain ⟨_, sv'', rfl, ⟨a, rfl, rfl⟩, h5⟩ := x_st1 h4
  exact lv_isub hC.1.1 hC.1.2.1 (x_en hC hf).1 (x_ex_ok kk x_sub32 ls _ ws H locs ⟨h1, ⟨⟨_, rfl, rfl⟩, h5⟩, h3⟩)
theorem x_imul (hC : x_C EX TB NT cl kc D xb TF P p R s m args meth c A H0 ws0 nc ns M d) {x y : Int} (hf : y_find M.2.2.2.2.1 pc = some (.imul, inf)) (kk : x_ex (x * y) (fun w => (x_G p l e R s m args below meth c Q xb kc D cl A H0 M.2.2.1 TY ws0 nc ns (pc + 1) (lv) (.inl w :: sv) (I) (L)))) : (x_G p l e R s m args below meth c Q xb kc D cl A H0 M.2.2.1 TY ws0 nc ns (pc) (lv) (.inl y :: .inl x :: sv) (I) (L)) := by
  intro ls stk ws H locs ⟨h1, h2, h3⟩
  obtain ⟨_, sv', rfl, ⟨b, rfl, rfl⟩, h4⟩ := x_st1 h2
  obtain ⟨_, sv'', rfl, ⟨a, rfl, rfl⟩, h5⟩ := x_st1 h4
  exact lv_imul hC.1.1 hC.1.2.1 (x_en hC hf).1 (x_ex_ok kk x_mul32 ls _ ws H locs ⟨h1, ⟨⟨_, rfl, rfl⟩, h5⟩, h3⟩)
theorem x_ladd (hC : x_C EX TB NT cl kc D xb TF P p R s m args meth c A H0 ws0 nc ns M d) {x y : Int} (hf : y_find M.2.2.2.2.1 pc = some (.ladd, inf)) (kk : x_exl (x + y) (fun w => (x_G p l e R s m args below meth c Q xb kc D cl A H0 M.2.2.1 TY ws0 nc ns (pc + 1) (lv) (.inr (.inl w) :: sv) (I) (L)))) : (x_G p l e R s m args below meth c Q xb kc D cl A H0 M.2.2.1 TY ws0 nc ns (pc) (lv) (.inr (.inl y) :: .inr (.inl x) :: sv) (I) (L)) := by
  intro ls stk ws H locs ⟨h1, h2, h3⟩
  obtain ⟨_, sv', rfl, ⟨b, rfl, rfl⟩, h4⟩ := x_st1 h2
  obtain ⟨_, sv'', rfl, ⟨a, rfl, rfl⟩, h5⟩ := x_st1 h4
  exact lv_ladd hC.1.1 hC.1.2.1 (x_en hC hf).1 (x_exl_ok kk x_add64 ls _ ws H locs ⟨h1, ⟨⟨_, rfl, rfl⟩, h5⟩, h3⟩)
theorem x_lmul (hC : x_C EX TB NT cl kc D xb TF P p R s m args meth c A H0 ws0 nc ns M d) {x y : Int} (hf : y_find M.2.2.2.2.1 pc = some (.lmul, inf)) (kk : x_exl (x * y) (fun w => (x_G p l e R s m args below meth c Q xb kc D cl A H0 M.2.2.1 TY ws0 nc ns (pc + 1) (lv) (.inr (.inl w) :: sv) (I) (L)))) : (x_G p l e R s m args below meth c Q xb kc D cl A H0 M.2.2.1 TY ws0 nc ns (pc) (lv) (.inr (.inl y) :: .inr (.inl x) :: sv) (I) (L)) := by
  intro ls stk ws H locs ⟨h1, h2, h3⟩
  obtain ⟨_, sv', rfl, ⟨b, rfl, rfl⟩, h4⟩ := x_st1 h2
  obtain ⟨_, sv'', rfl, ⟨a, rfl, rfl⟩, h5⟩ := x_st1 h4
  exact lv_lmul hC.1.1 hC.1.2.1 (x_en hC hf).1 (x_exl_ok kk x_mul64 ls _ ws H locs ⟨h1, ⟨⟨_, rfl, rfl⟩, h5⟩, h3⟩)
theorem x_lcmp (hC : x_C EX TB NT cl kc D xb TF P p R s m args meth c A H0 ws0 nc ns M d) {x y : Int} (hf : y_find M.2.2.2.2.1 pc = some (.lcmp, inf)) (kk : ∀ w, (w = 0 ↔ x = y) → (x_G p l e R s m args below meth c Q xb kc D cl A H0 M.2.2.1 TY ws0 nc ns (pc + 1) (lv) (.inl w :: sv) (I) (L))) : (x_G p l e R s m args below meth c Q xb kc D cl A H0 M.2.2.1 TY ws0 nc ns (pc) (lv) (.inr (.inl y) :: .inr (.inl x) :: sv) (I) (L)) := by
  intro ls stk ws H locs ⟨h1, h2, h3⟩
  obtain ⟨_, sv', rfl, ⟨b, rfl, rfl⟩, h4⟩ := x_st1 h2
  obtain ⟨_, sv'', rfl, ⟨a, rfl, rfl⟩, h5⟩ := x_st1 h4
  refine W.lcmp hC.1.1 hC.1.2.1 (x_en hC hf).1 (kk (lg_cmp a b).toInt ?_ ls _ ws H locs ⟨h1, ⟨⟨_, rfl, rfl⟩, h5⟩, h3⟩)
  rw [Int64.toInt_inj]
  unfold lg_cmp
  split
  next h => exact ⟨fun q => absurd q (by decide), fun q => by rw [q] at h; exact absurd h Int64.lt_irrefl⟩
  next h =>
    split
    next h2 => exact ⟨fun _ => h2, fun _ => rfl⟩
    next h2 => exact ⟨fun q => absurd q (by decide), fun q => absurd q h2⟩
/-- what a test says -/
def x_br (k : Jvm.ClassFile.Cond) (x y : Int) (A B : Prop) : Prop := match k with
  | .eq => (x = y → A) ∧ (x ≠ y → B)
  | .ne => (x ≠ y → A) ∧ (x = y → B)
  | .lt => (x < y → A) ∧ (y ≤ x → B)
  | .ge => (y ≤ x → A) ∧ (x < y → B)
  | .gt => (y < x → A) ∧ (x ≤ y → B)
  | .le => (x ≤ y → A) ∧ (y < x → B)
theorem x_icmp (hC : x_C EX TB NT cl kc D xb TF P p R s m args meth c A H0 ws0 nc ns M d) {k : Jvm.ClassFile.Cond} {off : Int} {tgt : Nat} {x y : Int} (hf : y_find M.2.2.2.2.1 pc = some (.if_icmp k off, inf)) (ht : (pc : Int) + off = (tgt : Int)) (kk : x_br k x y ((x_G p l e R s m args below meth c Q xb kc D cl A H0 M.2.2.1 TY ws0 nc ns (tgt) (lv) (sv) (I) (L))) ((x_G p l e R s m args below meth c Q xb kc D cl A H0 M.2.2.1 TY ws0 nc ns (pc + 3) (lv) (sv) (I) (L)))) : (x_G p l e R s m args below meth c Q xb kc D cl A H0 M.2.2.1 TY ws0 nc ns (pc) (lv) (.inl y :: .inl x :: sv) (I) (L)) := by
  intro ls stk ws H locs ⟨h1, h2, h3⟩
  obtain ⟨_, sv', rfl, ⟨b, rfl, rfl⟩, h4⟩ := x_st1 h2
  obtain ⟨_, sv'', rfl, ⟨a, rfl, rfl⟩, h5⟩ := x_st1 h4
  have hd := (x_en hC hf).1
  have hx := hC.1.1
  have hb := hC.1.2.1
  have hS : x_S xb kc D cl A H0 M.2.2.1 TY ws0 lv sv I L ls sv'' ws H locs := ⟨h1, h5, h3⟩
  cases k with
  | eq => exact lv_icmp_eq hx hb hd ht (fun h => kk.1 (by rw [h]) ls _ ws H locs hS) (fun h => kk.2 (y_nei h) ls _ ws H locs hS)
  | ne => exact lv_icmp_ne hx hb hd ht (fun h => kk.1 (y_nei h) ls _ ws H locs hS) (fun h => kk.2 (by rw [h]) ls _ ws H locs hS)
  | lt => exact lv_icmp_lt hx hb hd ht (fun h => kk.1 (y_lti h) ls _ ws H locs hS) (fun h => kk.2 (y_nlti h) ls _ ws H locs hS)
  | ge => exact lv_icmp_ge hx hb hd ht (fun h => kk.1 (Int32.le_iff_toInt_le.mp h) ls _ ws H locs hS) (fun h => kk.2 (by rw [Int32.le_iff_toInt_le] at h; omega) ls _ ws H locs hS)
  | gt => exact lv_icmp_gt hx hb hd ht (fun h => kk.1 (y_lti h) ls _ ws H locs hS) (fun h => kk.2 (y_nlti h) ls _ ws H locs hS)
  | le => exact lv_icmp_le hx hb hd ht (fun h => kk.1 (Int32.le_iff_toInt_le.mp h) ls _ ws H locs hS) (fun h => kk.2 (by rw [Int32.le_iff_toInt_le] at h; omega) ls _ ws H locs hS)
theorem x_if (hC : x_C EX TB NT cl kc D xb TF P p R s m args meth c A H0 ws0 nc ns M d) {k : Jvm.ClassFile.Cond} {off : Int} {tgt : Nat} {x : Int} (hf : y_find M.2.2.2.2.1 pc = some (.ifCond k off, inf)) (ht : (pc : Int) + off = (tgt : Int)) (kk : x_br k x 0 ((x_G p l e R s m args below meth c Q xb kc D cl A H0 M.2.2.1 TY ws0 nc ns (tgt) (lv) (sv) (I) (L))) ((x_G p l e R s m args below meth c Q xb kc D cl A H0 M.2.2.1 TY ws0 nc ns (pc + 3) (lv) (sv) (I) (L)))) : (x_G p l e R s m args below meth c Q xb kc D cl A H0 M.2.2.1 TY ws0 nc ns (pc) (lv) (.inl x :: sv) (I) (L)) := by
  intro ls stk ws H locs ⟨h1, h2, h3⟩
  obtain ⟨_, sv'', rfl, ⟨a, rfl, rfl⟩, h5⟩ := x_st1 h2
  have hd := (x_en hC hf).1
  have hx := hC.1.1
  have hb := hC.1.2.1
  have z0 : (0 : Int32).toInt = 0 := rfl
  have hS : x_S xb kc D cl A H0 M.2.2.1 TY ws0 lv sv I L ls sv'' ws H locs := ⟨h1, h5, h3⟩
  cases k with
  | eq => exact lv_if_eq hx hb hd ht (fun h => kk.1 (by rw [h]; rfl) ls _ ws H locs hS) (fun h => kk.2 (y_nei h) ls _ ws H locs hS)
  | ne => exact lv_if_ne hx hb hd ht (fun h => kk.1 (y_nei h) ls _ ws H locs hS) (fun h => kk.2 (by rw [h]; rfl) ls _ ws H locs hS)
  | lt => exact lv_if_lt hx hb hd ht (fun h => kk.1 (y_lti h) ls _ ws H locs hS) (fun h => kk.2 (y_nlti h) ls _ ws H locs hS)
  | ge => exact lv_if_ge hx hb hd ht (fun h => kk.1 (Int32.le_iff_toInt_le.mp h) ls _ ws H locs hS) (fun h => kk.2 (by rw [Int32.le_iff_toInt_le] at h; omega) ls _ ws H locs hS)
  | gt => exact lv_if_gt hx hb hd ht (fun h => kk.1 (y_lti h) ls _ ws H locs hS) (fun h => kk.2 (y_nlti h) ls _ ws H locs hS)
  | le => exact lv_if_le hx hb hd ht (fun h => kk.1 (Int32.le_iff_toInt_le.mp h) ls _ ws H locs hS) (fun h => kk.2 (by rw [Int32.le_iff_toInt_le] at h; omega) ls _ ws H locs hS)
theorem x_low (x : Int32) : x.toInt % 256 = (x.toBitVec.toNat : Int) % 256 := by
  show x.toBitVec.toInt % 256 = _
  rw [BitVec.toInt_eq_toNat_cond]
  split <;> omega
theorem x_nn {x : Int32} {n : Nat} (h : x.toBitVec.toNat = n) (hn : n < 2147483648) : x.toInt = (n : Int) := by
  show x.toBitVec.toInt = _
  rw [BitVec.toInt_eq_toNat_cond, h]
  split <;> omega
theorem x_tn {x : Int32} (h : 0 ≤ x.toInt) : x.toBitVec.toNat = x.toInt.toNat ∧ x.toInt.toNat < 2147483648 := by
  have h1 : x.toBitVec.toInt = x.toInt := rfl
  have h2 := x.toBitVec.isLt
  rw [BitVec.toInt_eq_toNat_cond] at h1
  split at h1 <;> omega
theorem x_and255 (x : Int32) : (x &&& 255).toInt = x.toInt % 256 := by
  have h1 : (x &&& 255).toBitVec.toNat = x.toBitVec.toNat % 256 := by
    show (x.toBitVec &&& (255 : Int32).toBitVec).toNat = _
    rw [BitVec.toNat_and]
    exact Nat.and_two_pow_sub_one_eq_mod x.toBitVec.toNat 8
  rw [x_nn h1 (by omega), x_low]
  omega
def x_and2 (x y : Int) : Int := ((x.toNat &&& y.toNat : Nat) : Int)
def x_or2 (x y : Int) : Int := ((x.toNat ||| y.toNat : Nat) : Int)
theorem x_andn {x y : Int32} (hx : 0 ≤ x.toInt) (hy : 0 ≤ y.toInt) : (x &&& y).toInt = x_and2 x.toInt y.toInt := by
  obtain ⟨a1, a2⟩ := x_tn hx
  obtain ⟨b1, b2⟩ := x_tn hy
  refine x_nn ?_ (Nat.lt_of_le_of_lt Nat.and_le_left a2)
  show (x.toBitVec &&& y.toBitVec).toNat = _
  rw [BitVec.toNat_and, a1, b1]
theorem x_orn {x y : Int32} (hx : 0 ≤ x.toInt) (hy : 0 ≤ y.toInt) : (x ||| y).toInt = x_or2 x.toInt y.toInt := by
  obtain ⟨a1, a2⟩ := x_tn hx
  obtain ⟨b1, b2⟩ := x_tn hy
  refine x_nn ?_ (Nat.or_lt_two_pow (n := 31) a2 b2)
  show (x.toBitVec ||| y.toBitVec).toNat = _
  rw [BitVec.toNat_or, a1, b1]
theorem x_p2 : ∀ n : Fin 31, ((1 : Int32) <<< (Int32.ofNat n.val &&& 31)).toInt = ((2 ^ n.val : Nat) : Int) := by decide +kernel
theorem x_lit {y : Int32} {k : Int} (h : y.toInt = k) : y = Int32.ofInt k := by
  rw [← h]
  exact (Int32.ofInt_toInt y).symm
theorem x_ushr {x y : Int32} (h : y.toInt = 0 ∨ y.toInt = 8 ∨ y.toInt = 16 ∨ y.toInt = 24) : ((x.toUInt32 >>> (y.toUInt32 &&& Int32.toUInt32 31)).toInt32).toInt % 256 = x.toInt / ((2 ^ y.toInt.toNat : Nat) : Int) % 256 := by
  have e : ∀ k : Nat, ((x.toUInt32 >>> (y.toUInt32 &&& Int32.toUInt32 31)).toInt32).toBitVec.toNat = x.toBitVec.toNat >>> k → ((x.toUInt32 >>> (y.toUInt32 &&& Int32.toUInt32 31)).toInt32).toInt % 256 = ((x.toBitVec.toNat / 2 ^ k : Nat) : Int) % 256 := fun k hk => by
    rw [x_low, hk, Nat.shiftRight_eq_div_pow]
  have h1 : x.toBitVec.toInt = x.toInt := rfl
  have h2 := x.toBitVec.isLt
  rw [BitVec.toInt_eq_toNat_cond] at h1
  rcases h with h | h | h | h
  · obtain rfl := x_lit h
    rw [e 0 rfl]
    show _ = x.toInt / ((1 : Nat) : Int) % 256
    split at h1 <;> omega
  · obtain rfl := x_lit h
    rw [e 8 rfl]
    show _ = x.toInt / ((256 : Nat) : Int) % 256
    split at h1 <;> omega
  · obtain rfl := x_lit h
    rw [e 16 rfl]
    show _ = x.toInt / ((65536 : Nat) : Int) % 256
    split at h1 <;> omega
  · obtain rfl := x_lit h
    rw [e 24 rfl]
    show _ = x.toInt / ((16777216 : Nat) : Int) % 256
    split at h1 <;> omega
theorem x_shr {x y : Int32} (h : y.toInt = 0 ∨ y.toInt = 1 ∨ y.toInt = 2 ∨ y.toInt = 3 ∨ y.toInt = 8 ∨ y.toInt = 16 ∨ y.toInt = 24) : (x >>> (y &&& 31)).toInt = x.toInt / ((2 ^ y.toInt.toNat : Nat) : Int) := by
  have e : ∀ k : Nat, (x >>> (y &&& 31)).toBitVec = x.toBitVec.sshiftRight k → (x >>> (y &&& 31)).toInt = x.toInt / ((2 ^ k : Nat) : Int) := fun k hk => by
    show (x >>> (y &&& 31)).toBitVec.toInt = _
    rw [hk, BitVec.toInt_sshiftRight, Int.shiftRight_eq_div_pow]
    rfl
  rcases h with h | h | h | h | h | h | h <;> (obtain rfl := x_lit h; exact e _ rfl)
theorem x_iand (hC : x_C EX TB NT cl kc D xb TF P p R s m args meth c A H0 ws0 nc ns M d) {x y : Int} (hf : y_find M.2.2.2.2.1 pc = some (.iand, inf)) (kk : (y = 255 ∧ (x_G p l e R s m args below meth c Q xb kc D cl A H0 M.2.2.1 TY ws0 nc ns (pc + 1) (lv) (.inl (x % 256) :: sv) (I) (L))) ∨ (0 ≤ x ∧ 0 ≤ y ∧ (x_G p l e R s m args below meth c Q xb kc D cl A H0 M.2.2.1 TY ws0 nc ns (pc + 1) (lv) (.inl (x_and2 x y) :: sv) (I) (L)))) : (x_G p l e R s m args below meth c Q xb kc D cl A H0 M.2.2.1 TY ws0 nc ns (pc) (lv) (.inl y :: .inl x :: sv) (I) (L)) := by
  intro ls stk ws H locs ⟨h1, h2, h3⟩
  obtain ⟨_, sv', rfl, ⟨b, rfl, rfl⟩, h4⟩ := x_st1 h2
  obtain ⟨_, sv'', rfl, ⟨a, rfl, rfl⟩, h5⟩ := x_st1 h4
  refine lv_iand hC.1.1 hC.1.2.1 (x_en hC hf).1 ?_
  rcases kk with ⟨e, kk⟩ | ⟨e1, e2, kk⟩
  · obtain rfl := x_lit e
    exact kk ls _ ws H locs ⟨h1, ⟨⟨_, rfl, x_and255 a⟩, h5⟩, h3⟩
  · exact kk ls _ ws H locs ⟨h1, ⟨⟨_, rfl, x_andn e1 e2⟩, h5⟩, h3⟩
theorem x_ior (hC : x_C EX TB NT cl kc D xb TF P p R s m args meth c A H0 ws0 nc ns M d) {x y : Int} (hf : y_find M.2.2.2.2.1 pc = some (.ior, inf)) (e1 : 0 ≤ x) (e2 : 0 ≤ y) (kk : (x_G p l e R s m args below meth c Q xb kc D cl A H0 M.2.2.1 TY ws0 nc ns (pc + 1) (lv) (.inl (x_or2 x y) :: sv) (I) (L))) : (x_G p l e R s m args below meth c Q xb kc D cl A H0 M.2.2.1 TY ws0 nc ns (pc) (lv) (.inl y :: .inl x :: sv) (I) (L)) := by
  intro ls stk ws H locs ⟨h1, h2, h3⟩
  obtain ⟨_, sv', rfl, ⟨b, rfl, rfl⟩, h4⟩ := x_st1 h2
  obtain ⟨_, sv'', rfl, ⟨a, rfl, rfl⟩, h5⟩ := x_st1 h4
  exact lv_ior hC.1.1 hC.1.2.1 (x_en hC hf).1 (kk ls _ ws H locs ⟨h1, ⟨⟨_, rfl, x_orn e1 e2⟩, h5⟩, h3⟩)
theorem x_ishl (hC : x_C EX TB NT cl kc D xb TF P p R s m args meth c A H0 ws0 nc ns M d) {x y : Int} (hf : y_find M.2.2.2.2.1 pc = some (.ishl, inf)) (e0 : x = 1) (e1 : 0 ≤ y) (e2 : y < 31) (kk : (x_G p l e R s m args below meth c Q xb kc D cl A H0 M.2.2.1 TY ws0 nc ns (pc + 1) (lv) (.inl ((2 ^ y.toNat : Nat) : Int) :: sv) (I) (L))) : (x_G p l e R s m args below meth c Q xb kc D cl A H0 M.2.2.1 TY ws0 nc ns (pc) (lv) (.inl y :: .inl x :: sv) (I) (L)) := by
  intro ls stk ws H locs ⟨h1, h2, h3⟩
  obtain ⟨_, sv', rfl, ⟨b, rfl, rfl⟩, h4⟩ := x_st1 h2
  obtain ⟨_, sv'', rfl, ⟨a, rfl, rfl⟩, h5⟩ := x_st1 h4
  obtain rfl : a = 1 := x_lit e0
  refine lv_ishl hC.1.1 hC.1.2.1 (x_en hC hf).1 (kk ls _ ws H locs ⟨h1, ⟨⟨_, rfl, ?_⟩, h5⟩, h3⟩)
  have h9 := x_p2 ⟨b.toInt.toNat, by omega⟩
  have hb : Int32.ofNat b.toInt.toNat = b := by
    refine Int32.toInt_inj.mp ?_
    rw [show Int32.ofNat b.toInt.toNat = Int32.ofInt ((b.toInt.toNat : Nat) : Int) from (Int32.ofInt_eq_ofNat).symm, y_oi (by omega) (by omega)]
    omega
  dsimp only at h9
  rw [hb] at h9
  exact h9
theorem x_ishr (hC : x_C EX TB NT cl kc D xb TF P p R s m args meth c A H0 ws0 nc ns M d) {x y : Int} (hf : y_find M.2.2.2.2.1 pc = some (.ishr, inf)) (e0 : y = 0 ∨ y = 1 ∨ y = 2 ∨ y = 3 ∨ y = 8 ∨ y = 16 ∨ y = 24) (kk : (x_G p l e R s m args below meth c Q xb kc D cl A H0 M.2.2.1 TY ws0 nc ns (pc + 1) (lv) (.inl (x / ((2 ^ y.toNat : Nat) : Int)) :: sv) (I) (L))) : (x_G p l e R s m args below meth c Q xb kc D cl A H0 M.2.2.1 TY ws0 nc ns (pc) (lv) (.inl y :: .inl x :: sv) (I) (L)) := by
  intro ls stk ws H locs ⟨h1, h2, h3⟩
  obtain ⟨_, sv', rfl, ⟨b, rfl, rfl⟩, h4⟩ := x_st1 h2
  obtain ⟨_, sv'', rfl, ⟨a, rfl, rfl⟩, h5⟩ := x_st1 h4
  exact lv_ishr hC.1.1 hC.1.2.1 (x_en hC hf).1 (kk ls _ ws H locs ⟨h1, ⟨⟨_, rfl, x_shr e0⟩, h5⟩, h3⟩)
theorem x_iushr (hC : x_C EX TB NT cl kc D xb TF P p R s m args meth c A H0 ws0 nc ns M d) {x y : Int} (hf : y_find M.2.2.2.2.1 pc = some (.iushr, inf)) (e0 : y = 0 ∨ y = 8 ∨ y = 16 ∨ y = 24) (kk : ∀ w, -2147483648 ≤ w → w ≤ 2147483647 → w % 256 = x / ((2 ^ y.toNat : Nat) : Int) % 256 → (x_G p l e R s m args below meth c Q xb kc D cl A H0 M.2.2.1 TY ws0 nc ns (pc + 1) (lv) (.inl w :: sv) (I) (L))) : (x_G p l e R s m args below meth c Q xb kc D cl A H0 M.2.2.1 TY ws0 nc ns (pc) (lv) (.inl y :: .inl x :: sv) (I) (L)) := by
  intro ls stk ws H locs ⟨h1, h2, h3⟩
  obtain ⟨_, sv', rfl, ⟨b, rfl, rfl⟩, h4⟩ := x_st1 h2
  obtain ⟨_, sv'', rfl, ⟨a, rfl, rfl⟩, h5⟩ := x_st1 h4
  exact lv_iushr hC.1.1 hC.1.2.1 (x_en hC hf).1 rfl (kk _ (z_any _).1 (z_any _).2 (x_ushr e0) ls _ ws H locs ⟨h1, ⟨⟨_, rfl, rfl⟩, h5⟩, h3⟩)
theorem x_nn64 {x : Int64} {n : Nat} (h : x.toBitVec.toNat = n) (hn : n < 9223372036854775808) : x.toInt = (n : Int) := by
  show x.toBitVec.toInt = _
  rw [BitVec.toInt_eq_toNat_cond, h]
  split <;> omega
theorem x_tn64 {x : Int64} (h : 0 ≤ x.toInt) : x.toBitVec.toNat = x.toInt.toNat ∧ x.toInt.toNat < 9223372036854775808 := by
  have h1 : x.toBitVec.toInt = x.toInt := rfl
  have h2 := x.toBitVec.isLt
  rw [BitVec.toInt_eq_toNat_cond] at h1
  split at h1 <;> omega
theorem x_lstore_n (hC : x_C EX TB NT cl kc D xb TF P p R s m args meth c A H0 ws0 nc ns M d) {k : Fin 4} {z : Int} (hf : y_find M.2.2.2.2.1 pc = some (.lstore_n k, inf)) (hn : (k : Nat) + 1 < M.2.2.1) (kk : (x_G p l e R s m args below meth c Q xb kc D cl A H0 M.2.2.1 TY ws0 nc ns (pc + 1) (x_put2 lv (k : Nat) z) (sv) (I) (L))) : (x_G p l e R s m args below meth c Q xb kc D cl A H0 M.2.2.1 TY ws0 nc ns (pc) (lv) (.inr (.inl z) :: sv) (I) (L)) := by
  intro ls stk ws H locs ⟨⟨vs, hl, hz⟩, h2, h3⟩
  obtain ⟨x, sv', rfl, ⟨y, rfl, hy⟩, h4⟩ := x_st1 h2
  exact lv_lstore_n hC.1.1 hC.1.2.1 (x_en hC hf).1 rfl hl hn rfl (fun ls' hl' => kk ls' _ ws H locs ⟨⟨_, hl', x_put2_ok hz hy⟩, h4, h3⟩)
theorem x_lshl (hC : x_C EX TB NT cl kc D xb TF P p R s m args meth c A H0 ws0 nc ns M d) {x y : Int} (hf : y_find M.2.2.2.2.1 pc = some (.lshl, inf)) (e0 : y = 8) (e1 : 0 ≤ x) (e2 : x < 18014398509481984) (kk : (x_G p l e R s m args below meth c Q xb kc D cl A H0 M.2.2.1 TY ws0 nc ns (pc + 1) (lv) (.inr (.inl (x * 256)) :: sv) (I) (L))) : (x_G p l e R s m args below meth c Q xb kc D cl A H0 M.2.2.1 TY ws0 nc ns (pc) (lv) (.inl y :: .inr (.inl x) :: sv) (I) (L)) := by
  intro ls stk ws H locs ⟨h1, h2, h3⟩
  obtain ⟨_, sv', rfl, ⟨b, rfl, rfl⟩, h4⟩ := x_st1 h2
  obtain ⟨_, sv'', rfl, ⟨a, rfl, rfl⟩, h5⟩ := x_st1 h4
  obtain rfl := x_lit e0
  obtain ⟨a1, a2⟩ := x_tn64 e1
  refine lv_lshl hC.1.1 hC.1.2.1 (x_en hC hf).1 rfl (kk ls _ ws H locs ⟨h1, ⟨⟨_, rfl, ?_⟩, h5⟩, h3⟩)
  have e9 : (a <<< ((Int32.ofInt 8).toInt64 &&& 63)).toBitVec.toNat = a.toBitVec.toNat <<< 8 % 2 ^ 64 := rfl
  rw [x_nn64 (n := a.toInt.toNat * 256) (by rw [e9, a1, Nat.shiftLeft_eq]; omega) (by omega)]
  omega
theorem x_lor (hC : x_C EX TB NT cl kc D xb TF P p R s m args meth c A H0 ws0 nc ns M d) {x y : Int} (hf : y_find M.2.2.2.2.1 pc = some (.lor, inf)) (e0 : 0 ≤ y) (e1 : y < 256) (e2 : 0 ≤ x) (e3 : x % 256 = 0) (e4 : x < 9223372036854775552) (kk : (x_G p l e R s m args below meth c Q xb kc D cl A H0 M.2.2.1 TY ws0 nc ns (pc + 1) (lv) (.inr (.inl (x + y)) :: sv) (I) (L))) : (x_G p l e R s m args below meth c Q xb kc D cl A H0 M.2.2.1 TY ws0 nc ns (pc) (lv) (.inr (.inl y) :: .inr (.inl x) :: sv) (I) (L)) := by
  intro ls stk ws H locs ⟨h1, h2, h3⟩
  obtain ⟨_, sv', rfl, ⟨b, rfl, rfl⟩, h4⟩ := x_st1 h2
  obtain ⟨_, sv'', rfl, ⟨a, rfl, rfl⟩, h5⟩ := x_st1 h4
  obtain ⟨a1, a2⟩ := x_tn64 e2
  obtain ⟨b1, b2⟩ := x_tn64 e0
  refine lv_lor hC.1.1 hC.1.2.1 (x_en hC hf).1 (kk ls _ ws H locs ⟨h1, ⟨⟨_, rfl, ?_⟩, h5⟩, h3⟩)
  have e9 : (a ||| b).toBitVec.toNat = a.toBitVec.toNat ||| b.toBitVec.toNat := BitVec.toNat_or _ _
  have e8 : a.toInt.toNat ||| b.toInt.toNat = a.toInt.toNat + b.toInt.toNat := by
    have h9 := Nat.shiftLeft_add_eq_or_of_lt (i := 8) (b := b.toInt.toNat) (by omega) (a.toInt.toNat / 256)
    have e7 : a.toInt.toNat % 256 = 0 := by omega
    have e6 : ∀ n : Nat, n % 256 = 0 → n / 256 * 2 ^ 8 = n := fun n h => by omega
    rw [Nat.shiftLeft_eq, e6 _ e7] at h9
    exact h9.symm
  rw [x_nn64 (n := a.toInt.toNat + b.toInt.toNat) (by rw [e9, a1, b1, e8]) (by omega)]
  omega
/-- a switch's ways -/
def x_sws (pc : Nat) (x : Int) (k : Nat → Prop) : Int → List Int → Prop
  | _, [] => True
  | v, off :: offs => (match z_tgt pc off with
    | some t => x = v → k t
    | none => False) ∧ x_sws pc x k (v + 1) offs
theorem x_sws_in {x : Int} {k : Nat → Prop} : ∀ {offs : List Int} {v : Int}, x_sws pc x k v offs → ∀ (j : Nat) (off : Int), offs[j]? = some off → ∃ t, z_tgt pc off = some t ∧ (x = v + (j : Int) → k t)
  | [], _, _, j, off, h => by simp at h
  | o :: offs, v, h, 0, off, hj => by
    simp only [List.getElem?_cons_zero, Option.some.injEq] at hj
    subst hj
    have h1 := h.1
    split at h1
    next t ht => exact ⟨t, ht, fun q => h1 (by omega)⟩
    next => exact h1.elim
  | o :: offs, v, h, j + 1, off, hj => by
    simp only [List.getElem?_cons_succ] at hj
    obtain ⟨t, h3, h4⟩ := x_sws_in h.2 j off hj
    exact ⟨t, h3, fun q => h4 (by omega)⟩
theorem x_table (hC : x_C EX TB NT cl kc D xb TF P p R s m args meth c A H0 ws0 nc ns M d) {dflt lo hi : Int} {offs : Array Int} {x : Int} {t0 : Nat} (hf : y_find M.2.2.2.2.1 pc = some (.tableswitch dflt lo hi offs, inf)) (h0 : z_tgt pc dflt = some t0) (hl : -2147483648 ≤ lo ∧ hi ≤ 2147483647 ∧ offs.toList.length = (hi + 1 - lo).toNat) (k1 : x_sws pc x (fun t => (x_G p l e R s m args below meth c Q xb kc D cl A H0 M.2.2.1 TY ws0 nc ns (t) (lv) (sv) (I) (L))) lo offs.toList) (k2 : x < lo ∨ hi < x → (x_G p l e R s m args below meth c Q xb kc D cl A H0 M.2.2.1 TY ws0 nc ns (t0) (lv) (sv) (I) (L))) : (x_G p l e R s m args below meth c Q xb kc D cl A H0 M.2.2.1 TY ws0 nc ns (pc) (lv) (.inl x :: sv) (I) (L)) := by
  intro ls stk ws H locs ⟨h1, h2, h3⟩
  obtain ⟨_, sv', rfl, ⟨y, rfl, rfl⟩, h4⟩ := x_st1 h2
  obtain ⟨hl1, hl2, hl3⟩ := hl
  have hd := (x_en hC hf).1
  by_cases hin : lo ≤ y.toInt ∧ y.toInt ≤ hi
  · have hj : (y.toInt - lo).toNat < offs.toList.length := by omega
    obtain ⟨t2, g1, g2⟩ := x_sws_in k1 (y.toInt - lo).toNat _ (List.getElem?_eq_getElem hj)
    have ho : offs[(y.toInt - lo).toNat]? = some (offs.toList[(y.toInt - lo).toNat]) := by
      rw [← Array.getElem?_toList]
      exact List.getElem?_eq_getElem hj
    exact lv_tableIn hC.1.1 hC.1.2.1 hd (by omega) (by omega) ho (z_tgt_ok g1) (g2 (by omega) ls sv' ws H locs ⟨h1, h4, h3⟩)
  · exact lv_tableOut hC.1.1 hC.1.2.1 hd (by omega) (z_tgt_ok h0) (k2 (by omega) ls sv' ws H locs ⟨h1, h4, h3⟩)
end XI
