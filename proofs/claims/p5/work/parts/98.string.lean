theorem zYs_J0_coder_7d493 : z_Y zTB ⟨"java/lang/String", "coder", "()B"⟩ prog_22_method_152_code 1 0 (some .byte) := ⟨zx_48, zx_3, by decide +kernel⟩
theorem zYs_J0_isLatin1_aae02 : z_Y zTB ⟨"java/lang/String", "isLatin1", "()Z"⟩ prog_22_method_154_code 1 0 (some .boolean) := ⟨zx_58, zx_3, by decide +kernel⟩
theorem zYs_J0_length_8abf5 : z_Y zTB ⟨"java/lang/String", "length", "()I"⟩ prog_22_method_54_code 1 0 (some .int) := ⟨zx_44, zx_3, by decide +kernel⟩
theorem zYs_J0_charAt_5068e : z_Y zTB ⟨"java/lang/String", "charAt", "(I)C"⟩ prog_22_method_56_code 2 1 (some .char) := ⟨zx_54, zx_3, by decide +kernel⟩
theorem zYs_J1_charAt_3b067 : z_Y zTB ⟨"java/lang/StringLatin1", "charAt", "([BI)C"⟩ prog_23_method_2_code 2 2 (some .char) := ⟨zx_61, zx_4, by decide +kernel⟩
theorem zYs_J3_checkIndex_8e157 : z_Y zTB ⟨"jdk/internal/util/Preconditions", "checkIndex", "(IILjava/util/function/BiFunction;)I"⟩ prog_31_method_11_code 3 3 (some .int) := ⟨zx_69, zx_5, by decide +kernel⟩
theorem zYs_J0_checkIndex_df160 : z_Y zTB ⟨"java/lang/String", "checkIndex", "(II)V"⟩ prog_22_method_155_code 2 2 none := ⟨zx_64, zx_3, by decide +kernel⟩
/-- the one text, the statics that its members and the throws read: they lie outside the world -/
def zEs (aK aV : Nat) (A : Nat → Prop) (U : State) (H : Heap) : Prop :=
  va_O "java/lang/String" aK A U H ∧ va_OF "java/lang/String" "coder" "B" (.int 0) aK A U H ∧ va_OF "java/lang/String" "value" "[B" (.ref aV) aK A U H ∧ va_T .byte aV 123 (fun j => .int (zbs.getD j 0)) A U H ∧ va_Z "java/lang/String" "COMPACT_STRINGS" "Z" (.int 1) A U H ∧ va_Zq "jdk/internal/util/Preconditions" "SIOOBE_FORMATTER" "Ljava/util/function/BiFunction;" A U H
theorem zEs_moved {aK aV : Nat} {A : Nat → Prop} {u U : State} {H : Heap} (hW : u.vm.Alike U.vm) (h : zEs aK aV A u H) : zEs aK aV A U H := ⟨va_O.moved hW h.1, va_OF.moved hW h.2.1, va_OF.moved hW h.2.2.1, va_T.moved hW h.2.2.2.1, va_Z.moved hW h.2.2.2.2.1, va_Zq.moved hW h.2.2.2.2.2⟩
theorem zEs_kept {aK aV : Nat} {A : Nat → Prop} {U : State} {H H1 : Heap} (hq : ∀ q : Nat, q < H.size → ¬ A q → H1[q]? = H[q]?) (h : zEs aK aV A U H) : zEs aK aV A U H1 := ⟨h.1.kept hq, h.2.1.kept hq, h.2.2.1.kept hq, h.2.2.2.1.kept hq, h.2.2.2.2.1.kept hq, va_Zq.kept h.2.2.2.2.2 hq⟩
theorem zEs_narrow {aK aV : Nat} {A B : Nat → Prop} {U : State} {H : Heap} (hAB : ∀ q, B q → A q) (h : zEs aK aV A U H) : zEs aK aV B U H := ⟨h.1.narrow hAB, h.2.1.narrow hAB, h.2.2.1.narrow hAB, h.2.2.2.1.narrow hAB, h.2.2.2.2.1.narrow hAB, va_Zq.narrow h.2.2.2.2.2 hAB⟩
abbrev zPp (aK aV sz : Nat) (av : List Value) : Array Value → State → Prop := va_Pc av (fun U => U.heap.size = sz ∧ zEs aK aV (fun q => sz ≤ q) U U.heap)
abbrev zQp (sz : Nat) (v : Int32) : Array Value → State → Outcome → State → Prop := va_Qi (fun (r : Int32) (_ : Unit) => r = v) (fun _ _ => True) (fun q => sz ≤ q)
abbrev zMp (l : Launch) (aK aV sz d : Nat) (y : MethodName) (cy : ByteArray) (mL : Nat) (ret : Option FieldType) (av : List Value) (v : Int32) : Prop := Met l y (.code y cy mL ret :: zTB) (z_rm d 0 0) (zPp aK aV sz av) (zQp sz v) 0 0 (fun q => sz ≤ q)
theorem zp_blind {aK aV sz : Nat} {av : List Value} : FrameBlind (zPp aK aV sz av) := fun a U g mk q => ⟨q.1, q.2.1, zEs_moved (u := U) (U := U.calling g mk a) (Vm.Alike.refl U.vm) q.2.2⟩
section ZP
variable {p : Program} {l : Launch} {e : Env} {R : Room} {s : State} {m : MethodId} {args : Array Value} {below : List Frame} {meth : Method} {c : Code} {Q : State → Prop} {cc : ByteArray} {A : Nat → Prop} {H : Heap} {locs : List Loc} {cells slots pc nL : Nat} {ls : Array Slot} {aK aV : Nat}
theorem zp_pre (hE0 : zEs aK aV A s s.heap) (hA : ∀ q, s.heap.size ≤ q → A q) (hS : va_S A s.heap H locs) {av : List Value} {U : State} (hU : U.heap = H) (hW : s.WarmedH U.vm) : zPp aK aV H.size av av.toArray U := ⟨rfl, by rw [hU], by rw [hU]; exact zEs_narrow (fun q hq => hA q (Nat.le_trans hS.1 hq)) (zEs_kept hS.2.1 (zEs_moved hW.alike hE0))⟩
theorem zp_V (hx : p.tables.exec = Jvm.exec) (hb : c.code = cc) {own : String} {idx mL n d b : Nat} {y : MethodName} {cy : ByteArray} {ret : Option FieldType} {As rest : List Value} {v : Int32} (hml : c.maxLocals = nL) (hls : ls.size = nL) (hown : s.vm.findClass own = some m.cls) (hts : ∀ w ∈ zTB, w.before args s = true) (hE0 : zEs aK aV A s s.heap) (hA : ∀ q, s.heap.size ≤ q → A q) (hS : va_S A s.heap H locs) (hM : zMp l aK aV H.size d y cy mL ret (.ref b :: As) v) (hy : z_Y zTB y cy mL n ret) (hl : Cond.methodLink own idx y ∈ zTB) (hin : Cond.instanceMethod y ∈ zTB) (hsel : Cond.selects y.cls y y ∈ zTB) (hrecv : ∃ cell : Cell, H[b]? = some cell ∧ cell.vm.isStatics = false ∧ s.vm.findClass y.cls = some cell.cls) (hR : (z_rm d 0 0).frames + 1 ≤ R.frames ∧ 8 + (mL + 11) + (z_rm d 0 0).locals ≤ R.locals) (hn : As.length = n) (hsum : (rest.map fun v => v.category).sum ≤ 8) (hd : decode cc pc = .ok (.invokevirtual idx, 3)) (hf : cells + 0 ≤ R.cells ∧ slots + 0 ≤ R.slots)
    (kk : ∀ (H1 : Heap) (locs1 : List Loc), H.size ≤ H1.size → (∀ q : Nat, q < H.size → H1[q]? = H[q]?) → va_S A s.heap H1 locs1 → W p l e R s m args below meth c H1 locs1 cells slots Q (F0 m (pc + 3) ls (.int v :: rest))) : W p l e R s m args below meth c H locs cells slots Q (F0 m pc ls (As.reverse ++ .ref b :: rest)) := by
  refine va_calli (a := (Value.ref b :: As).toArray) (va_runV ⟨hx, hb, hml, hown, hts⟩ hM ⟨callB_of n hts (z_good zTB_good hy.1) rfl rfl rfl (hts _ hy.2.1) (hts _ hl) hy.2.2 hR, hts _ hin, hts _ hsel⟩ ⟨zp_blind, hrecv, fun U hU hW => zp_pre hE0 hA hS hU hW⟩ rfl hn hls rfl (lv_room hsum) hd hf) hS (fun q h1 h2 => absurd h1 (Nat.not_lt.mpr h2)) (fun q h => hA q (Nat.le_trans hS.1 h)) (fun r u t H1 locs1 ht hvm hw hB hz1 hk1 hS1 => ?_)
  obtain rfl : r = v := hw
  exact kk H1 locs1 hz1 (fun q hq => hk1 q hq (Nat.not_le.mpr hq)) hS1
theorem zp_S (hx : p.tables.exec = Jvm.exec) (hb : c.code = cc) {own : String} {idx mL n d : Nat} {y : MethodName} {cy : ByteArray} {ret : Option FieldType} {As rest : List Value} {v : Int32} (hml : c.maxLocals = nL) (hls : ls.size = nL) (hown : s.vm.findClass own = some m.cls) (hts : ∀ w ∈ zTB, w.before args s = true) (hE0 : zEs aK aV A s s.heap) (hA : ∀ q, s.heap.size ≤ q → A q) (hS : va_S A s.heap H locs) (hM : zMp l aK aV H.size d y cy mL ret As v) (hy : z_Y zTB y cy mL n ret) (hl : Cond.methodLink own idx y ∈ zTB) (hst : Cond.static y ∈ zTB) (hR : (z_rm d 0 0).frames + 1 ≤ R.frames ∧ 8 + (mL + 11) + (z_rm d 0 0).locals ≤ R.locals) (hn : As.length = n) (hsum : (rest.map fun v => v.category).sum ≤ 8) (hd : decode cc pc = .ok (.invokestatic idx, 3)) (hf : cells + 0 ≤ R.cells ∧ slots + 0 ≤ R.slots)
    (kk : ∀ (H1 : Heap) (locs1 : List Loc), H.size ≤ H1.size → (∀ q : Nat, q < H.size → H1[q]? = H[q]?) → va_S A s.heap H1 locs1 → W p l e R s m args below meth c H1 locs1 cells slots Q (F0 m (pc + 3) ls (.int v :: rest))) : W p l e R s m args below meth c H locs cells slots Q (F0 m pc ls (As.reverse ++ rest)) := by
  refine va_calli (a := As.toArray) (va_runS ⟨hx, hb, hml, hown, hts⟩ hM ⟨callB_of n hts (z_good zTB_good hy.1) rfl rfl rfl (hts _ hy.2.1) (hts _ hl) hy.2.2 hR, hts _ hst⟩ ⟨zp_blind, fun U hU hW => zp_pre hE0 hA hS hU hW⟩ rfl hn hls rfl (lv_room hsum) hd hf) hS (fun q h1 h2 => absurd h1 (Nat.not_lt.mpr h2)) (fun q h => hA q (Nat.le_trans hS.1 h)) (fun r u t H1 locs1 ht hvm hw hB hz1 hk1 hS1 => ?_)
  obtain rfl : r = v := hw
  exact kk H1 locs1 hz1 (fun q hq => hk1 q hq (Nat.not_le.mpr hq)) hS1
end ZP
set_option maxHeartbeats 4000000 in
theorem zc_coder (l : Launch) (aK aV sz : Nat) : zMp l aK aV sz 0 ⟨"java/lang/String", "coder", "()B"⟩ prog_22_method_152_code 1 (some .byte) [.ref aK] 0 := by
  refine Met.ofW (cc := prog_22_method_152_code) (maxL := 1) (ret := (some .byte)) (by decide) rfl ?_
  intro p e s m args below meth c s₁ B hml hv
  obtain ⟨rfl, hsz, hE⟩ := hv
  subst hsz
  have hx := B.exec
  have hb := B.bytes
  have hr := B.returns
  have hlocks := B.notSynchronized
  have hts0 := atoms_spec (ws := Cond.code ⟨"java/lang/String", "coder", "()B"⟩ prog_22_method_152_code 1 (some .byte) :: zTB) B.pre
  have hts : ∀ w ∈ zTB, w.before _ s = true := fun w hw => hts0 w (List.mem_cons_of_mem _ hw)
  have hown : s.vm.findClass "java/lang/String" = some m.cls := findClass_of_methodNamed B.named
  have hA : ∀ q : Nat, s.heap.size ≤ q → (fun q : Nat => s.heap.size ≤ q) q := fun _ h => h
  have hS : va_S (fun q : Nat => s.heap.size ≤ q) s.heap s.heap [] := va_S.rf
  have hl := lv_entry ([.ref aK]) (n := 1) (Nat.le_of_ble_eq_true rfl)
  rw [lg_entry_eq]
  generalize (lg_sl ([.ref aK]) ++ List.replicate (1 - (lg_sl ([.ref aK])).length) Slot.unset).toArray = ls at hl ⊢
  have hl : lv_has ls 1 [(0, .ref aK)] := hl
  refine va_gets hx hb hE.2.2.2.2.1 hS hown (hts _ zx_49) (fun _ h => h) (show decode prog_22_method_152_code 0 = .ok (.getstatic 38, 3) from by decide +kernel) ?_
  refine lv_if_eq (tgt := 13) hx hb (show decode prog_22_method_152_code 3 = .ok (.ifCond .eq 10, 3) from by decide +kernel) (by decide) (fun c9 => absurd c9 (by decide)) (fun _ => ?_)
  refine lv_aload_n hx hb (show decode prog_22_method_152_code 6 = .ok (.aload_n 0, 1) from by decide +kernel) rfl (lv_at hl 0 rfl) ?_
  refine vk_getf hx hb hE.2.1 hS hown (hts _ zx_2001) (fun _ h => h) (show decode prog_22_method_152_code 7 = .ok (.getfield 15, 3) from by decide +kernel) ?_
  refine lv_goto (tgt := 14) hx hb (show decode prog_22_method_152_code 10 = .ok (.goto 4, 3) from by decide +kernel) (by decide) ?_
  exact W.zret (ty := .byte) (v := 0) hx hb hr (by decide +kernel) (fun t ht hW => ⟨⟨0, (), rfl, rfl, trivial⟩, hS.F ht⟩) hS.2.2 (show decode prog_22_method_152_code 14 = .ok (.ireturn, 1) from by decide +kernel) hlocks
set_option maxHeartbeats 4000000 in
theorem zc_isLatin1 (l : Launch) (aK aV sz : Nat) : zMp l aK aV sz 0 ⟨"java/lang/String", "isLatin1", "()Z"⟩ prog_22_method_154_code 1 (some .boolean) [.ref aK] 1 := by
  refine Met.ofW (cc := prog_22_method_154_code) (maxL := 1) (ret := (some .boolean)) (by decide) rfl ?_
  intro p e s m args below meth c s₁ B hml hv
  obtain ⟨rfl, hsz, hE⟩ := hv
  subst hsz
  have hx := B.exec
  have hb := B.bytes
  have hr := B.returns
  have hlocks := B.notSynchronized
  have hts0 := atoms_spec (ws := Cond.code ⟨"java/lang/String", "isLatin1", "()Z"⟩ prog_22_method_154_code 1 (some .boolean) :: zTB) B.pre
  have hts : ∀ w ∈ zTB, w.before _ s = true := fun w hw => hts0 w (List.mem_cons_of_mem _ hw)
  have hown : s.vm.findClass "java/lang/String" = some m.cls := findClass_of_methodNamed B.named
  have hA : ∀ q : Nat, s.heap.size ≤ q → (fun q : Nat => s.heap.size ≤ q) q := fun _ h => h
  have hS : va_S (fun q : Nat => s.heap.size ≤ q) s.heap s.heap [] := va_S.rf
  have hl := lv_entry ([.ref aK]) (n := 1) (Nat.le_of_ble_eq_true rfl)
  rw [lg_entry_eq]
  generalize (lg_sl ([.ref aK]) ++ List.replicate (1 - (lg_sl ([.ref aK])).length) Slot.unset).toArray = ls at hl ⊢
  have hl : lv_has ls 1 [(0, .ref aK)] := hl
  refine va_gets hx hb hE.2.2.2.2.1 hS hown (hts _ zx_49) (fun _ h => h) (show decode prog_22_method_154_code 0 = .ok (.getstatic 38, 3) from by decide +kernel) ?_
  refine lv_if_eq (tgt := 17) hx hb (show decode prog_22_method_154_code 3 = .ok (.ifCond .eq 14, 3) from by decide +kernel) (by decide) (fun c9 => absurd c9 (by decide)) (fun _ => ?_)
  refine lv_aload_n hx hb (show decode prog_22_method_154_code 6 = .ok (.aload_n 0, 1) from by decide +kernel) rfl (lv_at hl 0 rfl) ?_
  refine vk_getf hx hb hE.2.1 hS hown (hts _ zx_2001) (fun _ h => h) (show decode prog_22_method_154_code 7 = .ok (.getfield 15, 3) from by decide +kernel) ?_
  refine lv_if_ne (tgt := 17) hx hb (show decode prog_22_method_154_code 10 = .ok (.ifCond .ne 7, 3) from by decide +kernel) (by decide) (fun c9 => absurd rfl c9) (fun _ => ?_)
  refine lv_iconst (v := 1) hx hb (show decode prog_22_method_154_code 13 = .ok (.iconst 1, 1) from by decide +kernel) (by decide) ?_
  refine lv_goto (tgt := 18) hx hb (show decode prog_22_method_154_code 14 = .ok (.goto 4, 3) from by decide +kernel) (by decide) ?_
  exact W.zret (ty := .boolean) (v := 1) hx hb hr (by decide +kernel) (fun t ht hW => ⟨⟨1, (), rfl, rfl, trivial⟩, hS.F ht⟩) hS.2.2 (show decode prog_22_method_154_code 18 = .ok (.ireturn, 1) from by decide +kernel) hlocks
theorem zO_recv {E : String} {t : Nat} {A : Nat → Prop} {U : State} {H : Heap} (h : va_O E t A U H) : ∃ cell : Cell, H[t]? = some cell ∧ cell.vm.isStatics = false ∧ U.vm.findClass E = some cell.cls := by
  obtain ⟨cell, h1, h2, h3, -⟩ := h
  exact ⟨cell, h1, h2, h3⟩
set_option maxHeartbeats 4000000 in
theorem zc_length (l : Launch) (aK aV sz : Nat) : zMp l aK aV sz 2 ⟨"java/lang/String", "length", "()I"⟩ prog_22_method_54_code 1 (some .int) [.ref aK] 123 := by
  refine Met.ofW (cc := prog_22_method_54_code) (maxL := 1) (ret := (some .int)) (by decide) rfl ?_
  intro p e s m args below meth c s₁ B hml hv
  obtain ⟨rfl, hsz, hE⟩ := hv
  subst hsz
  have hx := B.exec
  have hb := B.bytes
  have hr := B.returns
  have hlocks := B.notSynchronized
  have hts0 := atoms_spec (ws := Cond.code ⟨"java/lang/String", "length", "()I"⟩ prog_22_method_54_code 1 (some .int) :: zTB) B.pre
  have hts : ∀ w ∈ zTB, w.before _ s = true := fun w hw => hts0 w (List.mem_cons_of_mem _ hw)
  have hown : s.vm.findClass "java/lang/String" = some m.cls := findClass_of_methodNamed B.named
  have hA : ∀ q : Nat, s.heap.size ≤ q → (fun q : Nat => s.heap.size ≤ q) q := fun _ h => h
  have hS : va_S (fun q : Nat => s.heap.size ≤ q) s.heap s.heap [] := va_S.rf
  have hl := lv_entry ([.ref aK]) (n := 1) (Nat.le_of_ble_eq_true rfl)
  rw [lg_entry_eq]
  generalize (lg_sl ([.ref aK]) ++ List.replicate (1 - (lg_sl ([.ref aK])).length) Slot.unset).toArray = ls at hl ⊢
  have hl : lv_has ls 1 [(0, .ref aK)] := hl
  refine lv_aload_n hx hb (show decode prog_22_method_54_code 0 = .ok (.aload_n 0, 1) from by decide +kernel) rfl (lv_at hl 0 rfl) ?_
  refine vk_getf hx hb hE.2.2.1 hS hown (hts _ zx_2000) (fun _ h => h) (show decode prog_22_method_54_code 1 = .ok (.getfield 9, 3) from by decide +kernel) ?_
  refine va_tlen (v := 123) hx hb hE.2.2.2.1 hS (by decide) (show decode prog_22_method_54_code 4 = .ok (.arraylength, 1) from by decide +kernel) ?_
  refine lv_aload_n hx hb (show decode prog_22_method_54_code 5 = .ok (.aload_n 0, 1) from by decide +kernel) rfl (lv_at hl 0 rfl) ?_
  refine zp_V (As := []) (rest := [.int 123]) hx hb hml hl.1 hown hts hE hA hS (zc_coder l aK aV _) zYs_J0_coder_7d493 zx_45 zx_46 zx_47 (zO_recv (hE.1.kept hS.2.1)) (by decide) rfl (Nat.le_of_ble_eq_true rfl) (show decode prog_22_method_54_code 6 = .ok (.invokevirtual 335, 3) from by decide +kernel) ⟨Nat.zero_le _, Nat.zero_le _⟩ (fun H locs hz9 hk9 hS => ?_)
  refine lv_ishr hx hb (show decode prog_22_method_54_code 9 = .ok (.ishr, 1) from by decide +kernel) ?_
  refine lv_topi (fun x9 e9 => ?_)
  obtain rfl : x9 = 123 := e9.trans (by decide)
  exact W.zret (ty := .int) (v := 123) hx hb hr rfl (fun t ht hW => ⟨⟨123, (), rfl, rfl, trivial⟩, hS.F ht⟩) hS.2.2 (show decode prog_22_method_54_code 10 = .ok (.ireturn, 1) from by decide +kernel) hlocks
set_option maxHeartbeats 4000000 in
theorem zc_pre (l : Launch) (aK aV sz : Nat) (k : Int32) (hk : vp_in k 123) (f : Value) (hf9 : f = .null ∨ ∃ t, f = .ref t) : zMp l aK aV sz 0 ⟨"jdk/internal/util/Preconditions", "checkIndex", "(IILjava/util/function/BiFunction;)I"⟩ prog_31_method_11_code 3 (some .int) [.int k, .int 123, f] k := by
  refine Met.ofW (cc := prog_31_method_11_code) (maxL := 3) (ret := (some .int)) (by decide) rfl ?_
  intro p e s m args below meth c s₁ B hml hv
  obtain ⟨rfl, hsz, hE⟩ := hv
  subst hsz
  have hx := B.exec
  have hb := B.bytes
  have hr := B.returns
  have hlocks := B.notSynchronized
  have hts0 := atoms_spec (ws := Cond.code ⟨"jdk/internal/util/Preconditions", "checkIndex", "(IILjava/util/function/BiFunction;)I"⟩ prog_31_method_11_code 3 (some .int) :: zTB) B.pre
  have hts : ∀ w ∈ zTB, w.before _ s = true := fun w hw => hts0 w (List.mem_cons_of_mem _ hw)
  have hown : s.vm.findClass "jdk/internal/util/Preconditions" = some m.cls := findClass_of_methodNamed B.named
  have hA : ∀ q : Nat, s.heap.size ≤ q → (fun q : Nat => s.heap.size ≤ q) q := fun _ h => h
  have hS : va_S (fun q : Nat => s.heap.size ≤ q) s.heap s.heap [] := va_S.rf
  have hl := lv_entry ([.int k, .int 123, f]) (n := 3) (by rcases hf9 with rfl | ⟨t, rfl⟩ <;> exact Nat.le_of_ble_eq_true rfl)
  rw [lg_entry_eq]
  generalize (lg_sl ([.int k, .int 123, f]) ++ List.replicate (3 - (lg_sl ([.int k, .int 123, f])).length) Slot.unset).toArray = ls at hl ⊢
  have hl : lv_has ls 3 [(0, .int k), (1, .int 123)] := by
    rcases hf9 with rfl | ⟨t, rfl⟩
    · exact lv_sub hl [0, 1] rfl
    · exact lv_sub hl [0, 1] rfl
  have hk2 := vp_in_iff.mp hk
  refine lv_iload_n hx hb (show decode prog_31_method_11_code 0 = .ok (.iload_n 0, 1) from by decide +kernel) rfl (lv_at hl 0 rfl) ?_
  refine lv_if_lt (tgt := 9) hx hb (show decode prog_31_method_11_code 1 = .ok (.ifCond .lt 8, 3) from by decide +kernel) (by decide) (fun c9 => absurd c9 (fun q => by rw [Int32.lt_iff_toInt_lt] at q; have : (0 : Int32).toInt = 0 := (by decide); omega)) (fun _ => ?_)
  refine lv_iload_n hx hb (show decode prog_31_method_11_code 4 = .ok (.iload_n 0, 1) from by decide +kernel) rfl (lv_at hl 0 rfl) ?_
  refine lv_iload_n hx hb (show decode prog_31_method_11_code 5 = .ok (.iload_n 1, 1) from by decide +kernel) rfl (lv_at hl 1 rfl) ?_
  refine lv_icmp_lt (tgt := 16) hx hb (show decode prog_31_method_11_code 6 = .ok (.if_icmp .lt 10, 3) from by decide +kernel) (by decide) (fun _ => ?_) (fun c9 => absurd (by rw [Int32.lt_iff_toInt_lt]; have : (123 : Int32).toInt = 123 := (by decide); omega) c9)
  refine lv_iload_n hx hb (show decode prog_31_method_11_code 16 = .ok (.iload_n 0, 1) from by decide +kernel) rfl (lv_at hl 0 rfl) ?_
  exact W.zret (ty := .int) (v := k) hx hb hr rfl (fun t ht hW => ⟨⟨k, (), rfl, rfl, trivial⟩, hS.F ht⟩) hS.2.2 (show decode prog_31_method_11_code 17 = .ok (.ireturn, 1) from by decide +kernel) hlocks
abbrev zMpv (l : Launch) (aK aV sz d : Nat) (y : MethodName) (cy : ByteArray) (mL : Nat) (ret : Option FieldType) (av : List Value) : Prop := Met l y (.code y cy mL ret :: zTB) (z_rm d 0 0) (zPp aK aV sz av) (va_Qv (fun (_ : Unit) => True) (fun _ _ => True) (fun q => sz ≤ q)) 0 0 (fun q => sz ≤ q)
theorem zp_Sv {p : Program} {l : Launch} {e : Env} {R : Room} {s : State} {m : MethodId} {args : Array Value} {below : List Frame} {meth : Method} {c : Code} {Q : State → Prop} {cc : ByteArray} {A : Nat → Prop} {H : Heap} {locs : List Loc} {cells slots pc nL : Nat} {ls : Array Slot} {aK aV : Nat} (hx : p.tables.exec = Jvm.exec) (hb : c.code = cc) {own : String} {idx mL n d : Nat} {y : MethodName} {cy : ByteArray} {ret : Option FieldType} {As rest : List Value} (hml : c.maxLocals = nL) (hls : ls.size = nL) (hown : s.vm.findClass own = some m.cls) (hts : ∀ w ∈ zTB, w.before args s = true) (hE0 : zEs aK aV A s s.heap) (hA : ∀ q, s.heap.size ≤ q → A q) (hS : va_S A s.heap H locs) (hM : zMpv l aK aV H.size d y cy mL ret As) (hy : z_Y zTB y cy mL n ret) (hl : Cond.methodLink own idx y ∈ zTB) (hst : Cond.static y ∈ zTB) (hR : (z_rm d 0 0).frames + 1 ≤ R.frames ∧ 8 + (mL + 11) + (z_rm d 0 0).locals ≤ R.locals) (hn : As.length = n) (hsum : (rest.map fun v => v.category).sum ≤ 8) (hd : decode cc pc = .ok (.invokestatic idx, 3)) (hf : cells + 0 ≤ R.cells ∧ slots + 0 ≤ R.slots)
    (kk : ∀ (H1 : Heap) (locs1 : List Loc), H.size ≤ H1.size → (∀ q : Nat, q < H.size → H1[q]? = H[q]?) → va_S A s.heap H1 locs1 → W p l e R s m args below meth c H1 locs1 cells slots Q (F0 m (pc + 3) ls rest)) : W p l e R s m args below meth c H locs cells slots Q (F0 m pc ls (As.reverse ++ rest)) := by
  refine va_callv (a := As.toArray) (va_runS ⟨hx, hb, hml, hown, hts⟩ hM ⟨callB_of n hts (z_good zTB_good hy.1) rfl rfl rfl (hts _ hy.2.1) (hts _ hl) hy.2.2 hR, hts _ hst⟩ ⟨zp_blind, fun U hU hW => zp_pre hE0 hA hS hU hW⟩ rfl hn hls rfl (lv_room hsum) hd hf) hS (fun q h1 h2 => absurd h1 (Nat.not_lt.mpr h2)) (fun q h => hA q (Nat.le_trans hS.1 h)) (fun u t H1 locs1 ht hvm hw hB hz1 hk1 hS1 => ?_)
  exact kk H1 locs1 hz1 (fun q hq => hk1 q hq (Nat.not_le.mpr hq)) hS1
set_option maxHeartbeats 4000000 in
theorem zc_check (l : Launch) (aK aV sz : Nat) (k : Int32) (hk : vp_in k 123) : zMpv l aK aV sz 2 ⟨"java/lang/String", "checkIndex", "(II)V"⟩ prog_22_method_155_code 2 none [.int k, .int 123] := by
  refine Met.ofW (cc := prog_22_method_155_code) (maxL := 2) (ret := none) (by decide) rfl ?_
  intro p e s m args below meth c s₁ B hml hv
  obtain ⟨rfl, hsz, hE⟩ := hv
  subst hsz
  have hx := B.exec
  have hb := B.bytes
  have hr := B.returns
  have hlocks := B.notSynchronized
  have hts0 := atoms_spec (ws := Cond.code ⟨"java/lang/String", "checkIndex", "(II)V"⟩ prog_22_method_155_code 2 none :: zTB) B.pre
  have hts : ∀ w ∈ zTB, w.before _ s = true := fun w hw => hts0 w (List.mem_cons_of_mem _ hw)
  have hown : s.vm.findClass "java/lang/String" = some m.cls := findClass_of_methodNamed B.named
  have hA : ∀ q : Nat, s.heap.size ≤ q → (fun q : Nat => s.heap.size ≤ q) q := fun _ h => h
  have hS : va_S (fun q : Nat => s.heap.size ≤ q) s.heap s.heap [] := va_S.rf
  have hl := lv_entry ([.int k, .int 123]) (n := 2) (Nat.le_of_ble_eq_true rfl)
  rw [lg_entry_eq]
  generalize (lg_sl ([.int k, .int 123]) ++ List.replicate (2 - (lg_sl ([.int k, .int 123])).length) Slot.unset).toArray = ls at hl ⊢
  have hl : lv_has ls 2 [(0, .int k), (1, .int 123)] := hl
  refine lv_iload_n hx hb (show decode prog_22_method_155_code 0 = .ok (.iload_n 0, 1) from by decide +kernel) rfl (lv_at hl 0 rfl) ?_
  refine lv_iload_n hx hb (show decode prog_22_method_155_code 1 = .ok (.iload_n 1, 1) from by decide +kernel) rfl (lv_at hl 1 rfl) ?_
  rcases hE.2.2.2.2.2 with h9 | ⟨t9, h9⟩
  · refine va_gets hx hb h9 hS hown (hts _ zx_65) (fun _ h => h) (show decode prog_22_method_155_code 2 = .ok (.getstatic 1053, 3) from by decide +kernel) ?_
    refine zp_S (As := [.int k, .int 123, .null]) (rest := []) hx hb hml hl.1 hown hts hE hA hS (zc_pre l aK aV _ k hk (.null) (Or.inl rfl)) zYs_J3_checkIndex_8e157 zx_67 zx_68 (by decide) rfl (Nat.le_of_ble_eq_true rfl) (show decode prog_22_method_155_code 5 = .ok (.invokestatic 1059, 3) from by decide +kernel) ⟨Nat.zero_le _, Nat.zero_le _⟩ (fun H locs hz9 hk9 hS => ?_)
    refine lv_pop hx hb (show decode prog_22_method_155_code 8 = .ok (.pop, 1) from by decide +kernel) rfl ?_
    exact W.vret hx hb hr (fun t ht hW => ⟨⟨(), rfl, trivial, trivial⟩, hS.F ht⟩) hS.2.2 (show decode prog_22_method_155_code 9 = .ok (.return_, 1) from by decide +kernel) (hlocks := hlocks)
  · refine va_gets hx hb h9 hS hown (hts _ zx_65) (fun _ h => h) (show decode prog_22_method_155_code 2 = .ok (.getstatic 1053, 3) from by decide +kernel) ?_
    refine zp_S (As := [.int k, .int 123, .ref t9]) (rest := []) hx hb hml hl.1 hown hts hE hA hS (zc_pre l aK aV _ k hk (.ref t9) (Or.inr ⟨t9, rfl⟩)) zYs_J3_checkIndex_8e157 zx_67 zx_68 (by decide) rfl (Nat.le_of_ble_eq_true rfl) (show decode prog_22_method_155_code 5 = .ok (.invokestatic 1059, 3) from by decide +kernel) ⟨Nat.zero_le _, Nat.zero_le _⟩ (fun H locs hz9 hk9 hS => ?_)
    refine lv_pop hx hb (show decode prog_22_method_155_code 8 = .ok (.pop, 1) from by decide +kernel) rfl ?_
    exact W.vret hx hb hr (fun t ht hW => ⟨⟨(), rfl, trivial, trivial⟩, hS.F ht⟩) hS.2.2 (show decode prog_22_method_155_code 9 = .ok (.return_, 1) from by decide +kernel) (hlocks := hlocks)
theorem zbs_len : zbs.length = 123 := by decide +kernel
theorem zbs_c : ∀ j, j < 123 → ((zbs.getD j 0 &&& 255).toUInt32 % 65536).toInt32 = zbs.getD j 0 ∧ narrow .char (.int (zbs.getD j 0)) = .int (zbs.getD j 0) := by decide +kernel
set_option maxHeartbeats 4000000 in
theorem zc_latin (l : Launch) (aK aV sz : Nat) (k : Int32) (j : Nat) (hk : vp_in k 123) (hj : k.toNatClampNeg = j) (hj2 : j < 123) : zMp l aK aV sz 4 ⟨"java/lang/StringLatin1", "charAt", "([BI)C"⟩ prog_23_method_2_code 2 (some .char) [.ref aV, .int k] (zbs.getD j 0) := by
  refine Met.ofW (cc := prog_23_method_2_code) (maxL := 2) (ret := (some .char)) (by decide) rfl ?_
  intro p e s m args below meth c s₁ B hml hv
  obtain ⟨rfl, hsz, hE⟩ := hv
  subst hsz
  have hx := B.exec
  have hb := B.bytes
  have hr := B.returns
  have hlocks := B.notSynchronized
  have hts0 := atoms_spec (ws := Cond.code ⟨"java/lang/StringLatin1", "charAt", "([BI)C"⟩ prog_23_method_2_code 2 (some .char) :: zTB) B.pre
  have hts : ∀ w ∈ zTB, w.before _ s = true := fun w hw => hts0 w (List.mem_cons_of_mem _ hw)
  have hown : s.vm.findClass "java/lang/StringLatin1" = some m.cls := findClass_of_methodNamed B.named
  have hA : ∀ q : Nat, s.heap.size ≤ q → (fun q : Nat => s.heap.size ≤ q) q := fun _ h => h
  have hS : va_S (fun q : Nat => s.heap.size ≤ q) s.heap s.heap [] := va_S.rf
  have hl := lv_entry ([.ref aV, .int k]) (n := 2) (Nat.le_of_ble_eq_true rfl)
  rw [lg_entry_eq]
  generalize (lg_sl ([.ref aV, .int k]) ++ List.replicate (2 - (lg_sl ([.ref aV, .int k])).length) Slot.unset).toArray = ls at hl ⊢
  have hl : lv_has ls 2 [(0, .ref aV), (1, .int k)] := hl
  obtain ⟨hc1, hc2⟩ := zbs_c j hj2
  refine lv_iload_n hx hb (show decode prog_23_method_2_code 0 = .ok (.iload_n 1, 1) from by decide +kernel) rfl (lv_at hl 1 rfl) ?_
  refine lv_aload_n hx hb (show decode prog_23_method_2_code 1 = .ok (.aload_n 0, 1) from by decide +kernel) rfl (lv_at hl 0 rfl) ?_
  refine va_tlen (v := 123) hx hb hE.2.2.2.1 hS (by decide) (show decode prog_23_method_2_code 2 = .ok (.arraylength, 1) from by decide +kernel) ?_
  refine zp_Sv (As := [.int k, .int 123]) (rest := []) hx hb hml hl.1 hown hts hE hA hS (zc_check l aK aV _ k hk) zYs_J0_checkIndex_df160 zx_62 zx_63 (by decide) rfl (Nat.le_of_ble_eq_true rfl) (show decode prog_23_method_2_code 3 = .ok (.invokestatic 9, 3) from by decide +kernel) ⟨Nat.zero_le _, Nat.zero_le _⟩ (fun H locs hz9 hk9 hS => ?_)
  refine lv_aload_n hx hb (show decode prog_23_method_2_code 6 = .ok (.aload_n 0, 1) from by decide +kernel) rfl (lv_at hl 0 rfl) ?_
  refine lv_iload_n hx hb (show decode prog_23_method_2_code 7 = .ok (.iload_n 1, 1) from by decide +kernel) rfl (lv_at hl 1 rfl) ?_
  refine va_tb (v := .int (zbs.getD j 0)) hx hb hE.2.2.2.1 hS hk (by rw [hj]) (show decode prog_23_method_2_code 8 = .ok (.baload, 1) from by decide +kernel) ?_
  refine lv_sipush (v := 255) hx hb (show decode prog_23_method_2_code 9 = .ok (.sipush 255, 3) from by decide +kernel) (by decide) ?_
  refine lv_iand hx hb (show decode prog_23_method_2_code 12 = .ok (.iand, 1) from by decide +kernel) ?_
  refine lv_i2c (v := zbs.getD j 0) hx hb (show decode prog_23_method_2_code 13 = .ok (.i2c, 1) from by decide +kernel) hc1 ?_
  exact W.zret (ty := .char) (v := zbs.getD j 0) hx hb hr hc2 (fun t ht hW => ⟨⟨zbs.getD j 0, (), rfl, rfl, trivial⟩, hS.F ht⟩) hS.2.2 (show decode prog_23_method_2_code 14 = .ok (.ireturn, 1) from by decide +kernel) hlocks
set_option maxHeartbeats 4000000 in
theorem zc_charAt (l : Launch) (aK aV sz : Nat) (k : Int32) (j : Nat) (hk : vp_in k 123) (hj : k.toNatClampNeg = j) (hj2 : j < 123) : zMp l aK aV sz 6 ⟨"java/lang/String", "charAt", "(I)C"⟩ prog_22_method_56_code 2 (some .char) [.ref aK, .int k] (zbs.getD j 0) := by
  refine Met.ofW (cc := prog_22_method_56_code) (maxL := 2) (ret := (some .char)) (by decide) rfl ?_
  intro p e s m args below meth c s₁ B hml hv
  obtain ⟨rfl, hsz, hE⟩ := hv
  subst hsz
  have hx := B.exec
  have hb := B.bytes
  have hr := B.returns
  have hlocks := B.notSynchronized
  have hts0 := atoms_spec (ws := Cond.code ⟨"java/lang/String", "charAt", "(I)C"⟩ prog_22_method_56_code 2 (some .char) :: zTB) B.pre
  have hts : ∀ w ∈ zTB, w.before _ s = true := fun w hw => hts0 w (List.mem_cons_of_mem _ hw)
  have hown : s.vm.findClass "java/lang/String" = some m.cls := findClass_of_methodNamed B.named
  have hA : ∀ q : Nat, s.heap.size ≤ q → (fun q : Nat => s.heap.size ≤ q) q := fun _ h => h
  have hS : va_S (fun q : Nat => s.heap.size ≤ q) s.heap s.heap [] := va_S.rf
  have hl := lv_entry ([.ref aK, .int k]) (n := 2) (Nat.le_of_ble_eq_true rfl)
  rw [lg_entry_eq]
  generalize (lg_sl ([.ref aK, .int k]) ++ List.replicate (2 - (lg_sl ([.ref aK, .int k])).length) Slot.unset).toArray = ls at hl ⊢
  have hl : lv_has ls 2 [(0, .ref aK), (1, .int k)] := hl
  obtain ⟨hc1, hc2⟩ := zbs_c j hj2
  refine lv_aload_n hx hb (show decode prog_22_method_56_code 0 = .ok (.aload_n 0, 1) from by decide +kernel) rfl (lv_at hl 0 rfl) ?_
  refine zp_V (As := []) (rest := []) hx hb hml hl.1 hown hts hE hA hS (zc_isLatin1 l aK aV _) zYs_J0_isLatin1_aae02 zx_55 zx_56 zx_57 (zO_recv (hE.1.kept hS.2.1)) (by decide) rfl (Nat.le_of_ble_eq_true rfl) (show decode prog_22_method_56_code 1 = .ok (.invokevirtual 492, 3) from by decide +kernel) ⟨Nat.zero_le _, Nat.zero_le _⟩ (fun H locs hz9 hk9 hS => ?_)
  refine lv_if_eq (tgt := 16) hx hb (show decode prog_22_method_56_code 4 = .ok (.ifCond .eq 12, 3) from by decide +kernel) (by decide) (fun c9 => absurd c9 (by decide)) (fun _ => ?_)
  refine lv_aload_n hx hb (show decode prog_22_method_56_code 7 = .ok (.aload_n 0, 1) from by decide +kernel) rfl (lv_at hl 0 rfl) ?_
  refine vk_getf hx hb hE.2.2.1 hS hown (hts _ zx_2000) (fun _ h => h) (show decode prog_22_method_56_code 8 = .ok (.getfield 9, 3) from by decide +kernel) ?_
  refine lv_iload_n hx hb (show decode prog_22_method_56_code 11 = .ok (.iload_n 1, 1) from by decide +kernel) rfl (lv_at hl 1 rfl) ?_
  refine zp_S (As := [.ref aV, .int k]) (rest := []) hx hb hml hl.1 hown hts hE hA hS (zc_latin l aK aV _ k j hk hj hj2) zYs_J1_charAt_3b067 zx_59 zx_60 (by decide) rfl (Nat.le_of_ble_eq_true rfl) (show decode prog_22_method_56_code 12 = .ok (.invokestatic 495, 3) from by decide +kernel) ⟨Nat.zero_le _, Nat.zero_le _⟩ (fun H locs hz9 hk9 hS => ?_)
  exact W.zret (ty := .char) (v := zbs.getD j 0) hx hb hr hc2 (fun t ht hW => ⟨⟨zbs.getD j 0, (), rfl, rfl, trivial⟩, hS.F ht⟩) hS.2.2 (show decode prog_22_method_56_code 15 = .ok (.ireturn, 1) from by decide +kernel) hlocks
