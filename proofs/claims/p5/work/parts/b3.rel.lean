/-! ===== cells of both objects that hold the same ===== -/
abbrev rlT : Type := List ((Nat × Nat) × (Nat × Nat) × (Int × Int))
def rl_R (RL : rlT) (ws : va_W) : Prop := ∀ q ∈ RL, ∃ x : Int32, y_at ws q.1.1 q.1.2 = some x ∧ y_at ws q.2.1.1 q.2.1.2 = some x
def rl_B : yB → rlT → yB
  | B, [] => B
  | B, q :: r => rl_B (B.1 + 1, (q.2.2.1, q.2.2.2, none) :: B.2) r
def rl_k : Nat → rlT → yN
  | _, [] => []
  | n, q :: r => ((q.1.1, .inl (Int.ofNat q.1.2)), .inr (n, 0)) :: ((q.2.1.1, .inl (Int.ofNat q.2.1.2)), .inr (n, 0)) :: rl_k (n + 1) r
def rl_t (RL : rlT) : Bool := RL.all (fun q => match y_ty yTYV q.1.1 q.1.2 with
  | some b => decide (q.2.2.1 ≤ b.1) && decide (b.2 ≤ q.2.2.2)
  | none => false)
theorem rl_mk {kc : Nat → ClassId} {ad : Nat → Option Nat} {ws : va_W} (hw : y_w kc ad yTYV ws) : ∀ {RL : rlT} {B : yB} {env : List Int}, rl_t RL = true → rl_R RL ws → y_B B env → ∃ env', env <+: env' ∧ y_B (rl_B B RL) env' ∧ y_k env' ws (rl_k B.1 RL)
  | [], B, env, _, _, hB => ⟨env, List.prefix_refl _, hB, fun _ h => by cases h⟩
  | q :: r, B, env, ht, hR, hB => by
    unfold rl_t at ht
    rw [List.all_cons, Bool.and_eq_true] at ht
    obtain ⟨x, x1, x2⟩ := hR q List.mem_cons_self
    have hb : q.2.2.1 ≤ x.toInt ∧ x.toInt ≤ q.2.2.2 := by
      have h1 := ht.1
      split at h1
      next b hb =>
        rw [Bool.and_eq_true] at h1
        obtain ⟨y, y1, y2, y3⟩ := y_ty_ok hw hb
        rw [x1] at y1
        cases y1
        have := of_decide_eq_true h1.1
        have := of_decide_eq_true h1.2
        omega
      next => cases h1
    have hB' := y_B_push hB (q := (q.2.2.1, q.2.2.2, none)) (v := x.toInt) ⟨hb.1, hb.2, fun _ _ e => by cases e⟩
    obtain ⟨env', e1, e2, e3⟩ := rl_mk hw (RL := r) ht.2 (fun p hp => hR p (List.mem_cons_of_mem _ hp)) hB'
    have he : y_e env' (.inr (B.1, 0)) = some x.toInt := by
      refine y_e_mono e1 ?_
      unfold y_e
      dsimp only
      rw [← hB.2.1]
      simp
    refine ⟨env', List.IsPrefix.trans (List.prefix_append _ _) e1, e2, fun p hp => ?_⟩
    rcases List.mem_cons.mp hp with rfl | hp
    · exact ⟨q.1.2, x, rfl, x1, he⟩
    rcases List.mem_cons.mp hp with rfl | hp
    · exact ⟨q.2.1.2, x, rfl, x2, he⟩
    exact e3 p hp
def rl_end (RL : rlT) (q : yB × Nat × yS) : Bool := hl_end q && RL.all (fun p => hq_ad (hq_k q p.1.1 p.1.2) (hq_k q p.2.1.1 p.2.1.2) 0)
theorem rl_end_R {RL : rlT} {q : yB × Nat × yS} (h : RL.all (fun p => hq_ad (hq_k q p.1.1 p.1.2) (hq_k q p.2.1.1 p.2.1.2) 0) = true) {env : List Int} {ws : va_W} (hk : y_k env ws q.2.2.2.2.1) : rl_R RL ws := fun p hp => hq_eq_cell (List.all_eq_true.mp h p hp) hk
def hw_K : yCon := (249, [.inr (some 210)], [], [(some (.inl ((.negSucc 0), (.negSucc 0))), [((209, 2), ((.ofNat 0), (.ofNat 0)), none)], false), (some (.inl ((.negSucc 2147483647), (.ofNat 2147483647))), [((209, 31), ((.ofNat 1), (.ofNat 1)), none), ((209, 2), ((.ofNat 0), (.ofNat 0)), none)], false), (some (.inl ((.ofNat 0), (.ofNat 0))), [((209, 2), ((.ofNat 0), (.ofNat 0)), none)], false)], [(209, 0, 0), (209, 2, 5), (209, 29, 31), (218, 0, 5)], 2, false, [])
def hw_H : List yCut := [(128, [(0, .inr (some 210)), (1, .inl ((.negSucc 2147483647), (.ofNat 2147483647))), (2, .inl ((.ofNat 0), (.ofNat 255))), (3, .inl ((.ofNat 0), (.ofNat 255))), (4, .inl ((.ofNat 0), (.ofNat 6)))], [((209, 2), ((.ofNat 0), (.ofNat 0)), none)], [.inl (.ofNat 3), .inr (.inl 4), .inl (.ofNat 0), .inl (.ofNat 0)], false),
  (145, [(0, .inr (some 210)), (1, .inl ((.negSucc 2147483647), (.ofNat 2147483647))), (2, .inl ((.ofNat 0), (.ofNat 255))), (3, .inl ((.ofNat 0), (.ofNat 255))), (4, .inl ((.ofNat 0), (.ofNat 5))), (5, .inl ((.ofNat 0), (.ofNat 255))), (6, .inl ((.ofNat 0), (.ofNat 8)))], [((209, 2), ((.ofNat 0), (.ofNat 0)), none)], [.inl (.ofNat 3), .inr (.inl 4), .inl (.ofNat 1), .inr (.inl 6)], false),
  (193, [(0, .inr (some 210)), (1, .inl ((.negSucc 2147483647), (.ofNat 2147483647))), (2, .inl ((.ofNat 0), (.ofNat 255))), (3, .inl ((.ofNat 0), (.ofNat 255))), (4, .inl ((.ofNat 0), (.ofNat 5))), (5, .inl ((.ofNat 0), (.ofNat 255))), (6, .inl ((.ofNat 0), (.ofNat 2147483647)))], [((209, 2), ((.ofNat 0), (.ofNat 0)), none)], [.inl (.ofNat 3), .inr (.inl 4), .inl (.ofNat 2), .inr (.inl 6)], false),
  (36, [(0, .inr (some 210)), (1, .inl ((.ofNat 0), (.ofNat 6)))], [((209, 2), ((.ofNat 0), (.ofNat 0)), none)], [.inl (.ofNat 1), .inr (.inl 1), .inl (.ofNat 0), .inl (.ofNat 0)], false),
  (57, [(0, .inr (some 210)), (1, .inl ((.ofNat 0), (.ofNat 940)))], [((209, 2), ((.ofNat 0), (.ofNat 0)), none)], [.inl (.ofNat 2), .inr (.inl 1), .inl (.ofNat 0), .inl (.ofNat 0)], false)]
theorem hw_e : y_ckE yP0 yTYV zTF yRC yGR yCTabV hw_K hw_H 1148 = true := by decide +kernel
theorem hw_h : ∀ h ∈ hw_H, y_ckH yP0 yTYV zTF yRC yGR yCTabV hw_K hw_H 1148 h = true := List.forall_mem_cons.mpr ⟨by decide +kernel, List.forall_mem_cons.mpr ⟨by decide +kernel, List.forall_mem_cons.mpr ⟨by decide +kernel, List.forall_mem_cons.mpr ⟨by decide +kernel, List.forall_mem_cons.mpr ⟨by decide +kernel, fun _ h => absurd h List.not_mem_nil⟩⟩⟩⟩⟩
section HWK
variable {EX : (Nat → Prop) → State → Heap → Prop} {l : Launch} {kc : Nat → ClassId} {D : va_G} {xb : Nat} {ad : Nat → Option Nat}
theorem hw_ok (hE : z_EX EX) : y_ConOk EX l zTB zNT kc D vwCl xb yTYV yGR w_R ad yP0 hw_K := y_chk_ok (RC := yRC) hE w_R_RI y_prog (fun j K' hK' => ⟨yCT_jV hK', fun _ => y_consV hE hK'⟩) hw_e hw_h
end HWK
/-- how long the tape is -/
def rl_L : rlT := [((1, 2), (209, 2), (0, 940))]
theorem rl_L_t : rl_t rl_L = true := by decide +kernel
def rl_clr (CT : List (List (List yCon))) (j : Nat) : List (List (List yCon)) := CT.set (j / 16) ((CT.getD (j / 16) []).set (j % 16) [])
def rl_CT0 : List (List (List yCon)) := y_cput (y_cputl (y_cput yCTabV 272 hd_K) 261 [hu_K, hu_o (-2147483648) (-1), hu_o 2 2147483647]) 249 hw_K
def rl_CT : List (List (List yCon)) := rl_clr (rl_clr (rl_clr (rl_clr (rl_clr (rl_clr (rl_clr (rl_clr (rl_clr (rl_clr (rl_CT0) 114) 115) 116) 148) 150) 152) 98) 162) 164) 141
theorem rl_clr_in {CT : List (List (List yCon))} {i j : Nat} {K : yCon} (h : K ∈ y_cget (rl_clr CT i) j) : K ∈ y_cget CT j := y_cclr_in h
section RL1
variable {EX : (Nat → Prop) → State → Heap → Prop} {l : Launch} {kc : Nat → ClassId} {D : va_G} {xb : Nat} {ad : Nat → Option Nat}
theorem rl_all (hE : z_EX EX) (j : Nat) (K : yCon) (h : K ∈ y_cget rl_CT j) : K.1 = j ∧ (K.2.2.2.2.2.1 < 40 → y_ConOk EX l zTB zNT kc D vwCl xb yTYV yGR w_R ad yP0 K) := by
  have h0 : K ∈ y_cget rl_CT0 j := rl_clr_in (rl_clr_in (rl_clr_in (rl_clr_in (rl_clr_in (rl_clr_in (rl_clr_in (rl_clr_in (rl_clr_in (rl_clr_in (h))))))))))
  rcases y_cput_in h0 with ⟨hj, rfl⟩ | h0
  · exact ⟨hj.symm, fun _ => hw_ok hE⟩
  rcases y_cputl_in (CT := y_cput yCTabV 272 hd_K) (j := 261) (Ks := [hu_K, hu_o (-2147483648) (-1), hu_o 2 2147483647]) h0 with ⟨hj, h3⟩ | h3
  · rcases List.mem_cons.mp h3 with rfl | h3
    · exact ⟨hj.symm, fun _ => hu_ok hE⟩
    rcases List.mem_cons.mp h3 with rfl | h3
    · exact ⟨hj.symm, fun _ => hl_oV hE hu_c1⟩
    have := List.mem_singleton.mp h3
    subst this
    exact ⟨hj.symm, fun _ => hl_oV hE hu_c2⟩
  rcases y_cput_in h3 with ⟨hj, rfl⟩ | h4
  · exact ⟨hj.symm, fun _ => hd_ok hE⟩
  · exact ⟨yCT_jV h4, fun _ => y_consV hE h4⟩
end RL1
/-- all but the tapes' bytes, the NAMES, the images -/
def rl_E : yR := (211, 62, 9999) :: (209, 0, 14) :: (209, 16, 9999) :: hl_E.filter (fun q => !([0, 209, 2, 210, 12, 14, 164, 166, 191, 193, 155, 182, 211, 222, 224].contains q.1))
theorem rl_E_sub : y_sub rl_E hl_E = true := by decide +kernel
theorem rb_fr {u v : va_W} (hf : y_fr rl_E u v) (h : rb_R u) : rb_R v := rb_same (fun j => hf 2 j (xy_noreg (by decide +kernel) j)) (fun j => hf 210 j (xy_noreg (by decide +kernel) j)) h
section RLU
variable {p : Program} {l : Launch} {e : Env} {s : State} {m : MethodId} {below : List Frame} {meth : Method} {c : Code} {b L : Nat} {xs : Nat → Int32} {kc : Nat → ClassId} {D : va_G} {EX : (Nat → Prop) → State → Heap → Prop}
theorem rl_up {ws0 ws : va_W} {env : List Int} {z : yS} {ls : Array Slot} {sv : List Value} {H : Heap} {locs : List Loc} (hS : y_S b kc D vwCl (zA0 s) s.heap 7 yTYV rl_E yGR w_R ws0 env z ls sv ws H locs) : y_S b kc D vwCl (zA0 s) s.heap 7 yTYV hl_E yGR w_R ws0 env z ls sv ws H locs := by
  obtain ⟨h1, h2, hk, hf, hG, hw, hfr, had, hP, hD, hSS⟩ := hS
  exact ⟨h1, h2, hk, hf, hG, hw, y_fr_sub rl_E_sub hfr, had, hP, hD, hSS⟩
theorem rl_SC {eff : yR} (h : hl_C EX p s m meth c b L xs kc D) {i : Nat} (hi : i + 6 ≤ L) (hL : L ≤ 3072) {ws : va_W} {nc ns : Nat} : y_SC p l e room_1 s m #[Value.ref b] below meth c (lw_Z below #[Value.ref b] s) b kc D vwCl (zA0 s) s.heap 7 yTYV eff yGR w_R ws nc ns code (hl_env i xs) := by
  obtain ⟨⟨hx, hb, hr, hml, hown, hts, hX, hbl, hlocks, hgv⟩, hK, hN, hE, hEx⟩ := h
  intro env B pc zl st kn fl c0 he hB h7 hc hd kk ls sv ws' H locs hS
  obtain ⟨h1, h2, h3⟩ := hS
  obtain ⟨_, sv', rfl, ⟨y, rfl, hy⟩, h4⟩ := y_st1 h2
  obtain ⟨_, sv'', rfl, ⟨a, ha, rfl⟩, h5⟩ := y_st1 h4
  obtain rfl : b = a := Option.some.inj ha
  have he0 : env[0]? = some (i : Int) := y_pre_get he rfl
  have hy2 : (i : Int) + (c0 : Int) = y.toInt := by
    unfold y_e at hy
    dsimp only at hy
    rw [he0] at hy
    exact Option.some.inj hy
  have hyn : y.toNatClampNeg = i + c0 := by
    have : y.toNatClampNeg = y.toInt.toNat := rfl
    omega
  have hin : vp_in y L := by
    intro q
    rcases q with q | q
    · rw [Int32.lt_iff_toInt_lt] at q
      have : (0 : Int32).toInt = 0 := by decide
      omega
    · omega
  have hS3 := h3.2.2.2.2.2.2.2.2
  refine va_sld hx hb hX hbl (Nat.not_le.mpr hbl) hS3 hin hd ?_
  rw [hyn]
  refine kk ls _ ws' H locs ⟨h1, ⟨⟨_, rfl, ?_⟩, h5⟩, h3⟩
  refine y_nm_ok hB ?_
  show (env[c0 + 1]?).map _ = _
  rw [y_pre_get he (hl_x hc)]
  exact congrArg some (Int.add_zero _)
end RLU
def rl_z : yS := (hl_zl, [], rl_k 7 rl_L, (true, [], []))
def rl_Bx (lo hi : Int) : yB := rl_B (7, [hl_Q, hl_Q, hl_Q, hl_Q, (lo, hi, none), hl_Q, (0, 3066, none)]) rl_L
def rl_ckx (lo hi : Int) (pc : Nat) : Bool := match y_run yP0 yTYV zTF rl_E yRC yGR (y_ct rl_CT yTYV yRC rl_E 40) 3000 true 40 ym_law (fun pc _ _ => pc == 1347) true (rl_Bx lo hi) pc rl_z with
  | some es => es.all (rl_end rl_L)
  | none => false
