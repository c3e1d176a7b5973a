section ZX
variable {p : Program} {l : Launch} {e : Env} {R : Room} {s : State} {m : MethodId} {args : Array Value} {below : List Frame} {meth : Method} {c : Code} {Q : State → Prop} {cc : ByteArray}
variable {xb : Nat} {env : Nat → Int32} {kc : Nat → ClassId} {D : va_G} {cl : List vw_C} {A : Nat → Prop} {H0 : Heap} {ad0 : Nat → Option Nat} {nL : Nat}
variable {NT : List (String × Nat × MethodName × String)} {TB : List Cond} {TF : Nat → Nat → FieldType} {DF : Nat → List zV} {P : List zM} {B : List (Int × Int)} {C S : Nat}
set_option maxHeartbeats 4000000 in
set_option maxRecDepth 100000 in
theorem z_x_ok (hx : p.tables.exec = Jvm.exec) (hb : c.code = cc) {y : MethodName} {I : Instr} {inf : List Nat} {pc pc' : Nat} {z z' : zS} (hB : z_B B env) (hml : c.maxLocals = nL) (hown : s.vm.findClass y.cls = some m.cls) (hname : y.name = "<init>" → meth.name = "<init>") (hts : ∀ w ∈ TB, w.before args s = true) (hK : va_K D cl (z_TY kc) s) (hN : z_N NT s) (hA : ∀ q, H0.size ≤ q → A q) (hfr : 1 ≤ R.frames) (hlo : 100 ≤ R.locals) (hC : C ≤ R.cells) (hS : S ≤ R.slots) (hc9 : ∃ T N, cl[9]? = some ("HeldCoats$State", T, N)) (hc2 : ∃ T N, cl[2]? = some ("HeldCoats$Image", T, N)) (hen : z_en TB NT cl TF DF P y cc (pc, I, inf)) (h : z_x B TF DF C S nL I inf pc z = some (pc', z')) (kk : z_G p l e R s m args below meth c Q xb env kc D cl A H0 ad0 nL pc' z') : z_G p l e R s m args below meth c Q xb env kc D cl A H0 ad0 nL pc z := by
  obtain ⟨zl, st, w, nc, ns⟩ := z
  obtain ⟨hd, hen⟩ := hen
  dsimp only at hd hen
  unfold z_x at h
  dsimp only at h
  split at h
  next => cases h; exact z_iconst hx hb hd kk
  next => cases h; exact z_bipush hx hb hd kk
  next => cases h; exact z_sipush hx hb hd kk
  next => cases h; exact z_lconst hx hb hd kk
  next => cases h; obtain ⟨v, hv, ho⟩ := hen; exact z_ldc2 hx hb ho hown (hts _ hv) hd kk
  next =>
    split at h
    next hg => cases h; exact z_lload_n hx hb hd hg kk
    next => cases h
  next =>
    split at h
    next =>
      split at h
      next hn => cases h; exact z_lstore_n hx hb hd hn kk
      next => cases h
    next => cases h
  next =>
    split at h
    next => cases h; exact z_ladd hx hb hd kk
    next => cases h
  next =>
    split at h
    next => cases h; exact z_lmul hx hb hd kk
    next => cases h
  next =>
    split at h
    next hg => cases h; exact z_iload hx hb hd hg kk
    next => cases h
  next =>
    split at h
    next hg => cases h; exact z_iload_n hx hb hd hg kk
    next => cases h
  next =>
    split at h
    next hg => cases h; exact z_aload hx hb hd hg kk
    next => cases h
  next =>
    split at h
    next hg => cases h; exact z_aload_n hx hb hd hg kk
    next => cases h
  next =>
    split at h
    next =>
      split at h
      next hn => cases h; exact z_istore hx hb hd hn kk
      next => cases h
    next => cases h
  next =>
    split at h
    next =>
      split at h
      next hn => cases h; exact z_istore_n hx hb hd hn kk
      next => cases h
    next => cases h
  next =>
    split at h
    next =>
      split at h
      next hn => cases h; exact z_astore hx hb hd hn kk
      next => cases h
    next => cases h
  next =>
    split at h
    next =>
      split at h
      next hn => cases h; exact z_astore_n hx hb hd hn kk
      next => cases h
    next => cases h
  next =>
    split at h
    next hg =>
      split at h
      next hn => cases h; exact z_iinc hx hb hd hg hn kk
      next => cases h
    next => cases h
  next =>
    split at h
    next =>
      split at h
      next hn => cases h; exact z_dup hx hb hd hn kk
      next => cases h
    next => cases h
  next =>
    split at h
    next =>
      split at h
      next hn => cases h; exact z_dup2 hx hb hd hn.1 hn.2 kk
      next => cases h
    next => cases h
  next =>
    split at h
    next =>
      split at h
      next hn => cases h; exact z_pop hx hb hd hn kk
      next => cases h
    next => cases h
  next =>
    split at h
    next ht => cases h; exact z_goto hx hb hd (z_tgt_ok ht) kk
    next => cases h
  next =>
    split at h
    next => cases h; exact z_i2l hx hb hd kk
    next => cases h
  next =>
    split at h
    next => cases h; exact z_i2b hx hb hd kk
    next => cases h
  next =>
    split at h
    next => cases h; exact z_iadd hx hb hd kk
    next => cases h
  next =>
    split at h
    next => cases h; exact z_iand hx hb hd kk
    next => cases h
  next =>
    split at h
    next => cases h; exact z_isub hx hb hd kk
    next => cases h
  next =>
    split at h
    next => cases h; exact z_imul hx hb hd kk
    next => cases h
  next =>
    split at h
    next => cases h; exact z_ior hx hb hd kk
    next => cases h
  next =>
    split at h
    next => cases h; exact z_ixor hx hb hd kk
    next => cases h
  next =>
    split at h
    next => cases h; exact z_ishl hx hb hd kk
    next => cases h
  next =>
    split at h
    next => cases h; exact z_ishr hx hb hd kk
    next => cases h
  next =>
    split at h
    next => cases h; exact z_iushr hx hb hd kk
    next => cases h
  next =>
    split at h
    next =>
      split at h
      next ht =>
        split at h
        next hr => cases h; exact z_icmp hx hb hB hd (z_tgt_ok ht) hr kk
        next => cases h
      next => cases h
    next => cases h
  next =>
    split at h
    next =>
      split at h
      next ht =>
        split at h
        next hr => cases h; exact z_if hx hb hB hd (z_tgt_ok ht) hr kk
        next => cases h
      next => cases h
    next => cases h
  next =>
    split at h
    next =>
      split at h
      next hs => cases h; exact z_table hx hb hB hd hs kk
      next => cases h
    next => cases h
  next =>
    split at h
    next =>
      split at h
      next hw =>
        split at h
        next hci =>
          split at h
          next hv =>
            cases h
            obtain ⟨ci, k, C0, T, N, hi, hKc, hk, hl⟩ := hen
            cases hi
            subst hci
            exact z_getf hx hb hts hKc.2.1 hown hK hKc.1 hk hl hd hw hv kk
          next => cases h
        next => cases h
      next => cases h
    next => cases h
  next =>
    split at h
    next =>
      split at h
      next hw =>
        split at h
        next hci =>
          cases h
          obtain ⟨ci, k, C0, T, N, hi, hKc, hk, hl, hfin⟩ := hen
          cases hi
          obtain ⟨hci, hkl, hfit⟩ := hci
          subst hci
          exact z_putf hx hb hts hKc.2.1 hKc.2.2.1 hKc.2.2.2 hown hK hKc.1 hk hl (hfin.imp id (fun q => ⟨q.1, hname q.2.1, q.2.2⟩)) hd hw hkl hfit kk
        next => cases h
      next => cases h
    next => cases h
  next =>
    split at h
    next =>
      split at h
      next hw =>
        split at h
        next hi =>
          split at h
          next hv => cases h; exact z_iald hx hb hB hK rfl hd hw hi hv kk
          next => cases h
        next => cases h
      next => cases h
    next => cases h
  next =>
    split at h
    next =>
      split at h
      next hw =>
        split at h
        next hi =>
          split at h
          next hv => cases h; exact z_zald hx hb hB hK rfl hd hw hi hv kk
          next => cases h
        next => cases h
      next => cases h
    next => cases h
  next =>
    split at h
    next =>
      split at h
      next hw =>
        split at h
        next hi => cases h; exact z_iast hx hb hB hK rfl hd hw hi kk
        next => cases h
      next => cases h
    next => cases h
  next =>
    split at h
    next =>
      split at h
      next hw =>
        split at h
        next hi => cases h; exact z_bast hx hb hB hK rfl hd hw hi kk
        next => cases h
      next hw =>
        split at h
        next hi =>
          split at h
          next v0 =>
            split at h
            next h01 =>
              cases h
              exact z_zast hx hb hB hK rfl hd (by rcases h01 with rfl | rfl <;> decide +kernel) hw hi kk
            next => cases h
          next => cases h
        next => cases h
      next => cases h
    next => cases h
  next =>
    split at h
    next =>
      split at h
      next hw =>
        split at h
        next hi =>
          split at h
          next ho => cases h; exact z_lald hx hb hB hK rfl hd hw hi ho kk
          next => cases h
        next => cases h
      next => cases h
    next => cases h
  next =>
    split at h
    next =>
      split at h
      next hw =>
        split at h
        next hi => cases h; exact z_last hx hb hB hK rfl hd hw hi kk
        next => cases h
      next => cases h
    next => cases h
  next =>
    split at h
    next =>
      split at h
      next hw =>
        split at h
        next hkt =>
          split at h
          next hi =>
            split at h
            next hv =>
              cases h
              rcases hkt with rfl | rfl
              · exact z_aald hx hb hB hK rfl hd hw hi hv kk
              · exact z_aald hx hb hB hK rfl hd hw hi hv kk
            next => cases h
          next => cases h
        next => cases h
      next => cases h
    next => cases h
  next =>
    split at h
    next =>
      split at h
      next hw =>
        split at h
        next hq =>
          split at h
          next hkt =>
            split at h
            next hi =>
              cases h
              rcases hkt with ⟨rfl, rfl⟩ | ⟨rfl, rfl⟩
              · obtain ⟨T, N, hc⟩ := hc9
                exact z_aast hx hb hB hK rfl hc hd hw hq hi kk
              · obtain ⟨T, N, hc⟩ := hc2
                exact z_aast hx hb hB hK rfl hc hd hw hq hi kk
            next => cases h
          next => cases h
        next => cases h
      next => cases h
    next => cases h
  next =>
    split at h
    next =>
      split at h
      next hw => cases h; exact z_alen (n := 0) hx hb hK rfl hd hw kk
      next => cases h
    next => cases h
  next =>
    split at h
    next =>
      split at h
      next hcs =>
        cases h
        obtain ⟨ci, C0, T, N, hi, hKc, hl, hins, hini, hdf, hfs⟩ := hen
        cases hi
        exact z_newo hx hb hts hKc.2.1 hKc.2.2.1 hown hl hins hini hK hA hKc.1 hdf hfs (by omega) (by omega) hd kk
      next => cases h
    next => cases h
  next =>
    split at h
    next =>
      split at h
      next hcs =>
        obtain ⟨hn0, hn1, hn2, hn3⟩ := hcs
        split at h
        next =>
          cases h
          exact z_newi hx hb (hts _ hen) rfl (kt := 0) rfl rfl hK hA hn0 rfl (by show _ * 4 ≤ _; omega) (by omega) (by omega) hd kk
        next =>
          cases h
          exact z_newi hx hb (hts _ hen) rfl (kt := 2) rfl rfl hK hA hn0 rfl (by show _ * 1 ≤ _; omega) (by omega) (by omega) hd kk
        next =>
          cases h
          exact z_newi hx hb (hts _ hen) rfl (kt := 3) rfl rfl hK hA hn0 rfl (by show _ * 1 ≤ _; omega) (by omega) (by omega) hd kk
        next =>
          cases h
          exact z_newl hx hb (hts _ hen) rfl hK hA hn0 rfl (by show _ * 8 ≤ _; omega) (by omega) (by omega) hd kk
        next => cases h
      next => cases h
    next => cases h
  next =>
    split at h
    next =>
      split at h
      next hcs =>
        obtain ⟨hn0, hn1, hn2, hn3⟩ := hcs
        cases h
        obtain ⟨kt, C0, hi, hl, hk⟩ := hen
        cases hi
        rcases hk with ⟨rfl, rfl⟩ | ⟨rfl, rfl⟩
        · exact z_newr hx hb hown (hts _ hl) hN.2.1 (kt := 4) rfl hK hA hn0 rfl (by omega) (by omega) (by omega) hd kk
        · exact z_newr hx hb hown (hts _ hl) hN.2.2 (kt := 5) rfl hK hA hn0 rfl (by omega) (by omega) (by omega) hd kk
      next => cases h
    next => cases h
  next =>
    split at h
    next =>
      split at h
      next hs =>
        cases h
        rcases hen with hi | ⟨_, h1, h2, h3⟩ | ⟨_, _, _, _, _, _, _, _, hi, _⟩
        · cases hi
        · exact z_objInit hx hb hown hml (hts _ h1) (hts _ h2) (hts _ h3) hd hfr hlo hs kk
        · cases hi
      next => cases h
    next => cases h
  next =>
    split at h
    next =>
      split at h
      next hs =>
        obtain ⟨rfl, rfl, hn0, hs⟩ := hs
        rcases hen with hi | ⟨hi, _⟩ | ⟨_, h1, h2, h3, h4⟩ | ⟨_, _, _, _, _, _, _, _, _, hi, _⟩
        · cases hi
        · cases hi
        · split at h
          next hw0 hw1 =>
            split at h
            next hle =>
              cases h
              exact z_copyi hx hb hown hml (hts _ h1) (hts _ h2) (hts _ h3) (hts _ h4) hK rfl hw0 hw1 hle.1 hn0 hle.2 hfr hlo hs hd kk
            next => cases h
          next hw0 hw1 =>
            split at h
            next hle =>
              cases h
              exact z_copyl hx hb hown hml (hts _ h1) (hts _ h2) (hts _ h3) (hts _ h4) hK rfl hw0 hw1 hn0 hle.1 hle.2 hfr hlo hs hd kk
            next => cases h
          next => cases h
        · cases hi
      next => cases h
    next =>
      split at h
      next b0 hlt =>
        split at h
        next hcs =>
          cases h
          rcases hen with hi | ⟨_, h1, h2, h3, h4⟩ | ⟨hi, _⟩ | ⟨_, _, _, _, _, _, _, _, _, hi, _⟩
          · cases hi
          · exact z_mmin hx hb hB hown hml (hts _ h1) (hts _ h2) (hts _ h3) (hts _ h4) hfr hlo (by omega) (by omega) hcs.2.2 hlt hd kk
          · cases hi
          · cases hi
        next => cases h
      next => cases h
    next => cases h
  next => cases h
end ZX
