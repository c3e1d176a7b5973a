/-! THE CLAIM OUT OF ONE WALK OF THE LAW'S BODY. Your part is whole_start (and what it stands on); all else here is the same for every law, but numbers. -/
def R_law : String := "HeldCoatsLaw"
def lw_P (b : Addr) (xs : List Int32) (args : Array Value) (s : State) : Prop := args = #[.ref b] ∧ s.IntsAt b xs ∧ xs.length ≤ 3072 ∧ (Jvm.Cond.and given_1 narrow_1).before args s = true
def lw_Q (_ : Array Value) (s : State) (o : Outcome) (t : State) : Prop := o = .returned (some (.int 1)) ∧ Framed s o t [] 601024 7293034
def lw_Z (below : List Frame) (a : Array Value) (s : State) : State → Prop := fun t => ∃ o, t.status = .running ∧ Ended t below o ∧ lw_Q a s o t
/-- the law's own end, with 1 on the stack, nothing written that was there before, its room as the claim has it -/
theorem lw_ret {p : Program} {l : Launch} {e : Env} {s : State} {m : MethodId} {below : List Frame} {meth : Method} {c : Code} {b : Nat} (hx : p.tables.exec = Jvm.exec) (hb : c.code = code) (hr : meth.sig.returnType = ret) (hlocks : meth.locks = false) {pc : Nat} {H : Heap} {ls : Array Slot} (hdg : decode code pc = .ok (.ireturn, 1)) : W p l e room_1 s m #[Value.ref b] below meth c H [] 601024 7293034 (lw_Z below #[Value.ref b] s) (F0 m pc ls [.int 1]) := by
  intro T hT X
  obtain ⟨fs, hret, hrun, hended, hW, hframe⟩ := X.leave (v := some (.int 1)) (hlocks := hlocks) (fun h => by rw [hr] at h; cases h)
  have hmeth' : T.vm.method? m = some meth := X.method'
  refine ⟨T.setFrames fs, ?_, .returned (some (.int 1)), hrun, hended, rfl, ⟨_, rfl⟩, hW, hframe⟩
  jvm_step X.here [X.here.top, hx, hb, hdg, hmeth', hr, ret, narrow_b1]
  (try refine ⟨rfl, ?_⟩); (try refine ⟨rfl, ?_⟩)
  first | (intro acts; rw [hret _ acts rfl rfl rfl]) | rw [hret _ _ rfl rfl rfl]
  exact Steps.refl _
/-- what holds at the law's entry: the machine, the code, the tables' words (any of lw_tbl by 'hts w (by decide +kernel)'), the script of L ints xs at the cell b, what the Statement gives of the start (any of its parts by flat_of_before) -/
def lw_At (p : Program) (s : State) (m : MethodId) (meth : Method) (c : Code) (b L : Nat) (xs : Nat → Int32) : Prop :=
  p.tables.exec = Jvm.exec ∧ c.code = code ∧ meth.sig.returnType = ret ∧ c.maxLocals = 7 ∧ s.vm.findClass R_law = some m.cls ∧ (∀ w ∈ lw_tbl, w.before #[Value.ref b] s = true) ∧ va_X b L xs s s.heap ∧ b < s.heap.size ∧ meth.locks = false ∧ (Jvm.Cond.and given_1 narrow_1).before #[Value.ref b] s = true
/-! ===== the law's own frame ===== -/
abbrev zA0 (s : State) : Nat → Prop := fun q => s.heap.size ≤ q
def hl_C (EX : (Nat → Prop) → State → Heap → Prop) (p : Program) (s : State) (m : MethodId) (meth : Method) (c : Code) (b L : Nat) (xs : Nat → Int32) (kc : Nat → ClassId) (D : va_G) : Prop := lw_At p s m meth c b L xs ∧ va_K D vwCl (z_TY kc) s ∧ z_N zNT s ∧ z_EX EX ∧ EX (zA0 s) s s.heap
def hl_env (i : Nat) (xs : Nat → Int32) : List Int := [(i : Int), (xs i).toInt, (xs (i + 1)).toInt, (xs (i + 2)).toInt, (xs (i + 3)).toInt, (xs (i + 4)).toInt, (xs (i + 5)).toInt]
def hl_S (s : State) (b : Nat) (kc : Nat → ClassId) (D : va_G) (xs : Nat → Int32) (i : Nat) (ls : Array Slot) (ws : va_W) (H : Heap) (locs : List Loc) : Prop := y_S b kc D vwCl (zA0 s) s.heap 7 yTYV hl_E yGR w_R ws (hl_env i xs) hl_z ls [] ws H locs
theorem hl_hB {i : Nat} (hi : i ≤ 3066) {xs : Nat → Int32} : y_B hl_B (hl_env i xs) := by
  refine ⟨rfl, rfl, fun p q hp => ?_⟩
  have hq : ∀ x : Int32, y_b (hl_env i xs) hl_Q x.toInt := fun x => ⟨(z_any x).1, (z_any x).2, fun _ _ e => by cases e⟩
  match p, hp with
  | 0, hp => cases hp; exact ⟨_, rfl, hq _⟩
  | 1, hp => cases hp; exact ⟨_, rfl, hq _⟩
  | 2, hp => cases hp; exact ⟨_, rfl, hq _⟩
  | 3, hp => cases hp; exact ⟨_, rfl, hq _⟩
  | 4, hp => cases hp; exact ⟨_, rfl, hq _⟩
  | 5, hp => cases hp; exact ⟨_, rfl, hq _⟩
  | 6, hp => cases hp; exact ⟨_, rfl, by dsimp only; omega, by dsimp only; omega, fun _ _ e => by cases e⟩
  | p + 7, hp => simp [hl_B] at hp
theorem hl_x {i c0 : Nat} {xs : Nat → Int32} (hc : c0 ≤ 5) : (hl_env i xs)[c0 + 1]? = some (xs (i + c0)).toInt := by
  match c0, hc with
  | 0, _ => rfl
  | 1, _ => rfl
  | 2, _ => rfl
  | 3, _ => rfl
  | 4, _ => rfl
  | 5, _ => rfl
  | n + 6, h => omega
section HLF
variable {p : Program} {l : Launch} {e : Env} {s : State} {m : MethodId} {below : List Frame} {meth : Method} {c : Code} {b L : Nat} {xs : Nat → Int32} {kc : Nat → ClassId} {D : va_G} {EX : (Nat → Prop) → State → Heap → Prop}
abbrev hl_W (p : Program) (l : Launch) (e : Env) (s : State) (m : MethodId) (below : List Frame) (meth : Method) (c : Code) (b : Nat) (H : Heap) (locs : List Loc) (nc ns : Nat) (g : JFrame) : Prop := W p l e room_1 s m #[Value.ref b] below meth c H locs nc ns (lw_Z below #[Value.ref b] s) g
theorem hl_ctx (h : hl_C EX p s m meth c b L xs kc D) {ws : va_W} {nc ns : Nat} (hnc : nc ≤ 601024) (hns : ns ≤ 7293034) : y_ctx EX zTB zNT vwCl kc D p room_1 s m #[Value.ref b] meth c (zA0 s) s.heap b ws (z_ad b ws) nc ns true 40 ym_law := by
  obtain ⟨⟨hx, hb, hr, hml, hown, hts, hX, hbl, hlocks, hgv⟩, hK, hN, hE, hEx⟩ := h
  exact ⟨hx, hb, hml, hown, fun h => absurd (show x.name = "<init>" from h) (by decide), fun w hw => hts w (List.mem_filter.mp hw).1, hK, hN, fun _ h => h, by decide, by decide, hnc, hns, rfl, hEx, rfl⟩
theorem hl_SC (h : hl_C EX p s m meth c b L xs kc D) {i : Nat} (hi : i + 6 ≤ L) (hL : L ≤ 3072) {ws : va_W} {nc ns : Nat} : y_SC p l e room_1 s m #[Value.ref b] below meth c (lw_Z below #[Value.ref b] s) b kc D vwCl (zA0 s) s.heap 7 yTYV hl_E yGR w_R ws nc ns code (hl_env i xs) := by
  obtain ⟨⟨hx, hb, hr, hml, hown, hts, hX, hbl, hlocks, hgv⟩, hK, hN, hE, hEx⟩ := h
  intro env B pc zl st kn fl c0 he hB h7 hc hd kk ls sv ws' H locs hS
  obtain ⟨h1, h2, h3⟩ := hS
  obtain ⟨_, sv', rfl, ⟨y, rfl, hy⟩, h4⟩ := y_st1 h2
  obtain ⟨_, sv'', rfl, ⟨a, ha, rfl⟩, h5⟩ := y_st1 h4
  obtain rfl : b = a := Option.some.inj ha
  have he0 : env[0]? = some (i : Int) := y_pre_get he rfl
  have hy2 : (i : Int) + (c0 : Int) = y.toInt := by
    unfold y_e at hy
    dsimp only at hy
    rw [he0] at hy
    exact Option.some.inj hy
  have hyn : y.toNatClampNeg = i + c0 := by
    have : y.toNatClampNeg = y.toInt.toNat := rfl
    omega
  have hin : vp_in y L := by
    intro q
    rcases q with q | q
    · rw [Int32.lt_iff_toInt_lt] at q
      have : (0 : Int32).toInt = 0 := by decide
      omega
    · omega
  have hS3 := h3.2.2.2.2.2.2.2.2
  refine va_sld hx hb hX hbl (Nat.not_le.mpr hbl) hS3 hin hd ?_
  rw [hyn]
  refine kk ls _ ws' H locs ⟨h1, ⟨⟨_, rfl, ?_⟩, h5⟩, h3⟩
  refine y_nm_ok hB ?_
  show (env[c0 + 1]?).map _ = _
  rw [y_pre_get he (hl_x hc)]
  exact congrArg some (Int.add_zero _)
/-- the end of a case: the loop's own step is next -/
theorem hl_back {q : yB × Nat × yS} (h : hl_end q = true) {i : Nat} {env : List Int} (he : hl_env i xs <+: env) {ws : va_W} {ls : Array Slot} {sv : List Value} {ws' : va_W} {H : Heap} {locs : List Loc} (hS : y_S b kc D vwCl (zA0 s) s.heap 7 yTYV hl_E yGR w_R ws env q.2.2 ls sv ws' H locs) : q.2.1 = 1347 ∧ sv = [] ∧ hl_S s b kc D xs i ls ws' H locs := by
  unfold hl_end at h
  simp only [Bool.and_eq_true] at h
  obtain ⟨e1, e2, e3, e4, e5, e6⟩ := h
  obtain ⟨h1, h2, hk, hf, hG, hw, hfr, had, hP, hD, hSS⟩ := hS
  refine ⟨by simpa using e1, ?_, ?_⟩
  · rw [List.isEmpty_iff.mp e3] at h2
    cases sv with
    | nil => rfl
    | cons _ _ => exact h2.elim
  · have hGo : y_Go yGR ws' := by
      rw [List.isEmpty_iff.mp e5, List.isEmpty_iff.mp e6] at hG
      exact y_Go_of hG
    rw [← had] at hw h1
    refine ⟨?_, trivial, (fun _ h => by cases h), (fun _ => hf e4), y_Go_to hGo, hw, y_fr_refl, rfl, hP, hD, hSS⟩
    unfold hl_lc at e2
    rw [Bool.and_eq_true] at e2
    obtain ⟨f1, f2⟩ := e2
    split at f1
    next g0 g1 g2 =>
      split at f2
      next g3 g4 =>
        obtain ⟨v0, a0, b0⟩ := y_l_at h1 g0
        obtain ⟨v1, a1, b1⟩ := y_l_at h1 g1
        obtain ⟨v2, a2, b2⟩ := y_l_at h1 g2
        obtain ⟨v3, a3, b3⟩ := y_l_at h1 g3
        obtain ⟨v4, a4, x4, rfl, b4⟩ := y_l_at h1 g4
        obtain ⟨lv, hlv, _⟩ := h1
        refine ⟨[(0, v0), (1, v1), (2, v2), (3, v3), (4, .int x4)], ⟨hlv.1, hlv.2.1, fun r hr => ?_⟩, ⟨rfl, b0⟩, ⟨rfl, b1⟩, ⟨rfl, b2⟩, ⟨rfl, b3⟩, ⟨rfl, x4, rfl, ?_⟩, trivial⟩
        · rcases List.mem_cons.mp hr with rfl | hr
          · exact a0
          rcases List.mem_cons.mp hr with rfl | hr
          · exact a1
          rcases List.mem_cons.mp hr with rfl | hr
          · exact a2
          rcases List.mem_cons.mp hr with rfl | hr
          · exact a3
          have := List.mem_singleton.mp hr
          subst this
          exact a4
        · have he0 : env[0]? = some (i : Int) := y_pre_get he rfl
          unfold y_e at b4
          dsimp only at b4
          rw [he0] at b4
          exact (show y_e (hl_env i xs) (.inr (0, 0)) = some ((i : Int) + 0) from rfl).trans b4
      next => cases f2
    next => cases f1
end HLF
