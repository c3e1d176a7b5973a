/-! ===== what a run owes is enough ===== -/
section XQ
variable {p : Program} {l : Launch} {e : Env} {R : Room} {s : State} {m : MethodId} {args : Array Value} {below : List Frame} {meth : Method} {c : Code}
variable {xb : Nat} {kc : Nat → ClassId} {D : va_G} {cl : List vw_C} {TY : List (List yC)} {ws0 : va_W}
variable {EX : (Nat → Prop) → State → Heap → Prop} {TB : List Cond} {NT : List (String × Nat × MethodName × String)} {TF : Nat → Nat → FieldType} {P : Nat → Option yM} {M : yM} {d dj : Nat}
variable {pc : Nat} {lv : List (Nat × xV)} {sv : List xV} {I L : xF} {inf : List Nat} {ct : xCT} {Po : Option xV → xF → xF → Prop} {K : xK}
/-- the method's own walk -/
abbrev x_GM (p : Program) (l : Launch) (e : Env) (R : Room) (s : State) (m : MethodId) (args : Array Value) (below : List Frame) (meth : Method) (c : Code) (xb : Nat) (kc : Nat → ClassId) (D : va_G) (cl : List vw_C) (TY : List (List yC)) (ws0 : va_W) (M : yM) (Po : Option xV → xF → xF → Prop) : xK := fun pc lv sv I L => x_G p l e R s m args below meth c (x_Z below D cl ws0 s args M.2.2.2.1 kc TY xb Po) xb kc D cl (va_A ws0 s.heap.size) s.heap M.2.2.1 TY ws0 0 0 pc lv sv I L
def x_ctok (EX : (Nat → Prop) → State → Heap → Prop) (l : Launch) (TB : List Cond) (NT : List (String × Nat × MethodName × String)) (kc : Nat → ClassId) (D : va_G) (cl : List vw_C) (xb : Nat) (TY : List (List yC)) (ad : Nat → Option Nat) (P : Nat → Option yM) (ct : xCT) : Prop := ∀ j d0 Pre Post, ct j = some (d0, Pre, Post) → x_Ok EX l TB NT kc D cl xb TY ad P j d0 Pre Post
theorem x_ble {a b : Nat} (h : Nat.ble a b = true) : a ≤ b := Nat.le_of_ble_eq_true h
theorem x_blt {a b : Nat} (h : Nat.blt a b = true) : a < b := Nat.le_of_ble_eq_true h
theorem x_beq {a b : Nat} (h : Nat.beq a b = true) : a = b := Nat.eq_of_beq_eq_true h
set_option maxHeartbeats 4000000 in
theorem x_step_ok (hC : x_C EX TB NT cl kc D xb TF P p R s m args meth c (va_A ws0 s.heap.size) s.heap ws0 0 0 M d) (hni : M.1.name ≠ "<init>") (hdj : dj ≤ d) (hct : x_ctok EX l TB NT kc D cl xb TY (z_ad xb ws0) P ct) (hr : meth.sig.returnType = M.2.2.2.1) (hlk : meth.locks = false) {Ins : Instr} (hf : y_find M.2.2.2.2.1 pc = some (Ins, inf)) (hK : ∀ pc lv sv I L, K pc lv sv I L → x_GM p l e R s m args below meth c xb kc D cl TY ws0 M Po pc lv sv I L) (h : x_step TB TY TF P ct dj M Po K Ins inf pc lv sv I L) : x_GM p l e R s m args below meth c xb kc D cl TY ws0 M Po pc lv sv I L := by
  have hex : ∀ {z : Int} {k k' : Int → Prop}, (∀ w, k w → k' w) → x_ex z k → x_ex z k' := fun hk h => by
    rcases h with ⟨h1, h2⟩ | h
    · exact Or.inl ⟨h1, hk _ h2⟩
    · exact Or.inr (fun w h1 h2 => hk _ (h w h1 h2))
  have hexl : ∀ {z : Int} {k k' : Int → Prop}, (∀ w, k w → k' w) → x_exl z k → x_exl z k' := fun hk h => by
    rcases h with ⟨h1, h2⟩ | h
    · exact Or.inl ⟨h1, hk _ h2⟩
    · exact Or.inr (fun w h1 h2 => hk _ (h w h1 h2))
  have hbr : ∀ {k : Jvm.ClassFile.Cond} {x y : Int} {A B A' B' : Prop}, (A → A') → (B → B') → x_br k x y A B → x_br k x y A' B' := fun {k x y A B A' B'} ha hb h => by
    cases k <;> exact ⟨fun q => ha (h.1 q), fun q => hb (h.2 q)⟩
  have hs8 : ∀ {n : Int}, x_s8 n = true → -128 ≤ n ∧ n ≤ 127 := fun h => by
    unfold x_s8 at h
    rw [Bool.and_eq_true] at h
    exact ⟨of_decide_eq_true h.1, of_decide_eq_true h.2⟩
  have hs16 : ∀ {n : Int}, x_s16 n = true → -32768 ≤ n ∧ n ≤ 32767 := fun h => by
    unfold x_s16 at h
    rw [Bool.and_eq_true] at h
    exact ⟨of_decide_eq_true h.1, of_decide_eq_true h.2⟩
  unfold x_step at h
  split at h
  -- iconst, bipush, sipush
  next n =>
    obtain ⟨h1, h2⟩ := x_gd_ok h
    have := hs8 h1
    exact x_iconst hC hf (by omega) (hK _ _ _ _ _ h2)
  next n =>
    obtain ⟨h1, h2⟩ := x_gd_ok h
    exact x_bipush hC hf (hs8 h1) (hK _ _ _ _ _ h2)
  next n =>
    obtain ⟨h1, h2⟩ := x_gd_ok h
    exact x_sipush hC hf (hs16 h1) (hK _ _ _ _ _ h2)
  -- lconst
  next n =>
    split at h
    next h0 => exact x_lconst hC hf (z := 0) (by rw [h0]; rfl) (hK _ _ _ _ _ h)
    next h0 => exact x_lconst hC hf (z := 1) (by have := n.isLt; have : (n : Nat) ≠ 0 := h0; omega) (hK _ _ _ _ _ h)
  -- ldc2_w
  next idx =>
    obtain ⟨v, z, h1, h2, h3⟩ := h
    exact x_ldc2 hC hf h1 h2 (hK _ _ _ _ _ h3)
  -- loads
  next i =>
    split at h
    next z hz => exact x_iload hC hf hz (hK _ _ _ _ _ h)
    next => exact h.elim
  next i =>
    split at h
    next z hz => exact x_iload_n hC hf hz (hK _ _ _ _ _ h)
    next => exact h.elim
  next i =>
    split at h
    next z hz => exact x_lload_n hC hf hz (hK _ _ _ _ _ h)
    next => exact h.elim
  next i =>
    split at h
    next z hz => exact x_aload_n hC hf hz (hK _ _ _ _ _ h)
    next => exact h.elim
  -- stores
  next i =>
    split at h
    next z rest =>
      obtain ⟨h1, h2⟩ := x_gd_ok h
      exact x_istore hC hf (x_blt h1) (hK _ _ _ _ _ h2)
    next => exact h.elim
  next i =>
    split at h
    next z rest =>
      obtain ⟨h1, h2⟩ := x_gd_ok h
      exact x_istore_n hC hf (x_blt h1) (hK _ _ _ _ _ h2)
    next => exact h.elim
  next i =>
    split at h
    next z rest =>
      obtain ⟨h1, h2⟩ := x_gd_ok h
      exact x_lstore_n hC hf (x_blt h1) (hK _ _ _ _ _ h2)
    next => exact h.elim
  -- iinc
  next i n =>
    split at h
    next z hz =>
      obtain ⟨h1, h2⟩ := x_gd_ok h
      rw [Bool.and_eq_true] at h1
      exact x_iinc hC hf (x_blt h1.1) (hs16 h1.2) hz (hex (fun w => hK _ _ _ _ _) h2)
    next => exact h.elim
  -- dup, dup2, pop, goto
  next =>
    split at h
    next t rest =>
      obtain ⟨h1, h2⟩ := x_gd_ok h
      exact x_dup hC hf (x_beq h1) (hK _ _ _ _ _ h2)
    next => exact h.elim
  next =>
    split at h
    next t u rest =>
      obtain ⟨h1, h2⟩ := x_gd_ok h
      rw [Bool.and_eq_true] at h1
      exact x_dup2 hC hf (x_beq h1.1) (x_beq h1.2) (hK _ _ _ _ _ h2)
    next => exact h.elim
  next =>
    split at h
    next t rest =>
      obtain ⟨h1, h2⟩ := x_gd_ok h
      exact x_pop hC hf (x_beq h1) (hK _ _ _ _ _ h2)
    next => exact h.elim
  next off =>
    split at h
    next t ht => exact x_goto hC hf (z_tgt_ok ht) (hK _ _ _ _ _ h)
    next => exact h.elim
  -- i2l, i2b
  next =>
    split at h
    next z rest => exact x_i2l hC hf (hK _ _ _ _ _ h)
    next => exact h.elim
  next =>
    split at h
    next z rest => exact x_i2b hC hf (fun w h1 h2 h3 => hK _ _ _ _ _ (h w h1 h2 h3))
    next => exact h.elim
  -- numbers
  next =>
    split at h
    next => exact x_iadd hC hf (hex (fun w => hK _ _ _ _ _) h)
    next => exact h.elim
  next =>
    split at h
    next => exact x_isub hC hf (hex (fun w => hK _ _ _ _ _) h)
    next => exact h.elim
  next =>
    split at h
    next => exact x_imul hC hf (hex (fun w => hK _ _ _ _ _) h)
    next => exact h.elim
  next =>
    split at h
    next =>
      refine x_iand hC hf ?_
      rcases h with ⟨h1, h2⟩ | ⟨h1, h2, h3⟩
      · exact Or.inl ⟨h1, hK _ _ _ _ _ h2⟩
      · exact Or.inr ⟨h1, h2, hK _ _ _ _ _ h3⟩
    next => exact h.elim
  next =>
    split at h
    next => exact x_ior hC hf h.1.1 h.1.2 (hK _ _ _ _ _ h.2)
    next => exact h.elim
  next =>
    split at h
    next => exact x_ishl hC hf h.1.1 h.1.2.1 h.1.2.2 (hK _ _ _ _ _ h.2)
    next => exact h.elim
  next =>
    split at h
    next => exact x_ishr hC hf h.1 (hK _ _ _ _ _ h.2)
    next => exact h.elim
  next =>
    split at h
    next => exact x_iushr hC hf h.1 (fun w h1 h2 h3 => hK _ _ _ _ _ (h.2 w h1 h2 h3))
    next => exact h.elim
  next =>
    split at h
    next => exact x_ladd hC hf (hexl (fun w => hK _ _ _ _ _) h)
    next => exact h.elim
  next =>
    split at h
    next => exact x_lmul hC hf (hexl (fun w => hK _ _ _ _ _) h)
    next => exact h.elim
  next =>
    split at h
    next => exact x_lshl hC hf h.1.1 h.1.2.1 h.1.2.2 (hK _ _ _ _ _ h.2)
    next => exact h.elim
  next =>
    split at h
    next => exact x_lor hC hf h.1.1 h.1.2.1 h.1.2.2.1 h.1.2.2.2.1 h.1.2.2.2.2 (hK _ _ _ _ _ h.2)
    next => exact h.elim
  next =>
    split at h
    next => exact x_lcmp hC hf (fun w h1 => hK _ _ _ _ _ (h w h1))
    next => exact h.elim
  -- tests
  next k off =>
    split at h
    next ht => exact x_icmp hC hf (z_tgt_ok ht) (hbr (hK _ _ _ _ _) (hK _ _ _ _ _) h)
    next => exact h.elim
  next k off =>
    split at h
    next ht => exact x_if hC hf (z_tgt_ok ht) (hbr (hK _ _ _ _ _) (hK _ _ _ _ _) h)
    next => exact h.elim
  next dflt lo hi offs =>
    split at h
    next x rest t0 ht =>
      obtain ⟨h1, h2, h3⟩ := x_gd_ok h
      have hsw : ∀ {k k' : Nat → Prop}, (∀ t, k t → k' t) → ∀ (os : List Int) (v : Int), x_sws pc x k v os → x_sws pc x k' v os := by
        intro k k' hk os
        induction os with
        | nil => intro v _; trivial
        | cons o os ih =>
          intro v h
          refine ⟨?_, ih _ h.2⟩
          have h9 := h.1
          split at h9
          next t ht => exact fun q => hk _ (h9 q)
          next => exact h9.elim
      exact x_table hC hf ht (of_decide_eq_true h1) (hsw (fun t => hK _ _ _ _ _) _ _ h2) (fun q => hK _ _ _ _ _ (h3 q))
    next => exact h.elim
  -- getfield
  next idx =>
    split at h
    next ci k r rest =>
      split at h
      next ci' ts hT =>
        obtain ⟨h1, h2⟩ := x_gd_ok h
        obtain rfl := x_beq h1
        split at h2
        next lo hi hk => exact x_geti hC hf hT hk (fun z h3 h4 => hK _ _ _ _ _ (h2 z h3 h4))
        next r1 hk => exact x_getr hC hf hT hk (hK _ _ _ _ _ h2)
        next hk => exact x_getl hC hf hT hk (fun z h3 => hK _ _ _ _ _ (h2 z h3))
        next => exact h2.elim
      next => exact h.elim
    next => exact h.elim
  -- putfield
  next idx =>
    split at h
    next ci k z r rest =>
      split at h
      next ci' ts hT =>
        obtain ⟨h1, h2⟩ := x_gd_ok h
        obtain rfl := x_beq h1
        split at h2
        next lo hi hk =>
          obtain ⟨h3, h4, h5⟩ := x_gd_ok h2
          exact x_puti hC hni hf hT hk h3 h4 (hK _ _ _ _ _ h5)
        next => exact h2.elim
      next => exact h.elim
    next ci k z r rest =>
      split at h
      next ci' ts hT =>
        obtain ⟨h1, h2⟩ := x_gd_ok h
        obtain rfl := x_beq h1
        split at h2
        next hk =>
          obtain ⟨h3, h4⟩ := x_gd_ok h2
          have h5 : TF ci' k = .long := by
            split at h3
            next hl => exact hl
            next => cases h3
          exact x_putl hC hni hf hT hk h5 (hK _ _ _ _ _ h4)
        next => exact h2.elim
      next => exact h.elim
    next => exact h.elim
  -- rows
  next =>
    split at h
    next =>
      split at h
      next hT => exact x_iald hC hf hT h.1 (fun z h3 h4 => hK _ _ _ _ _ (h.2 z h3 h4))
      next => exact h.elim
    next => exact h.elim
  next =>
    split at h
    next =>
      split at h
      next hT => exact x_bald hC hf hT h.1 (fun z h3 h4 => hK _ _ _ _ _ (h.2 z h3 h4))
      next => exact h.elim
    next => exact h.elim
  next =>
    split at h
    next =>
      split at h
      next hT =>
        obtain ⟨h1, h2⟩ := x_gd_ok h
        exact x_lald hC hf hT h1 h2.1 (fun z h3 h4 => hK _ _ _ _ _ (h2.2 z h3 h4))
      next => exact h.elim
    next => exact h.elim
  next =>
    split at h
    next =>
      split at h
      next hT => exact x_iast hC hf hT h.1 h.2.1 (hK _ _ _ _ _ h.2.2)
      next => exact h.elim
    next => exact h.elim
  next =>
    split at h
    next =>
      split at h
      next hT => exact x_bast hC hf hT h.1.1 h.1.2 h.2.1 (hK _ _ _ _ _ h.2.2)
      next => exact h.elim
    next => exact h.elim
  next =>
    split at h
    next =>
      split at h
      next hT => exact x_last hC hf hT h.1 (hK _ _ _ _ _ h.2)
      next => exact h.elim
    next => exact h.elim
  -- calls
  next idx =>
    split at h
    next j ci =>
      unfold x_cv at h
      split at h
      next y2 c2 L2 r2 t2 na sp d0 Pre Post hPj hcj =>
        obtain ⟨h1, h2⟩ := x_gd_ok h
        simp only [Bool.and_eq_true] at h1
        split at h2
        next r rest hdr =>
          obtain ⟨h3, h4, h5⟩ := x_gd_ok h2
          rw [Bool.and_eq_true] at h3
          have hT : ∃ ts, y_T TY r = some (.inl (ci, ts)) := by
            have h9 := h3.1
            unfold x_tyo at h9
            split at h9
            next ci' ts hT =>
              obtain rfl := x_beq h9
              exact ⟨ts, hT⟩
            next => cases h9
          obtain ⟨ts, hT⟩ := hT
          have h6 := x_callV (l := l) (e := e) (below := below) (lv := lv) (sv := rest) (za := (sv.take na).reverse) (Q := x_Z below D cl ws0 s args M.2.2.2.1 kc TY xb Po) hC hf hT (hct j d0 Pre Post hcj) (by have := x_ble h1.2.1; omega) hPj (x_ble h1.1) (by rw [List.length_reverse, List.length_take, Nat.min_eq_left (x_ble h1.2.2)]) (x_ble h3.2) h4 (fun rv I' L' h7 => hK _ _ _ _ _ (h5 rv I' L' h7))
          rw [List.reverse_reverse, ← hdr, List.take_append_drop] at h6
          exact h6
        next => exact h2.elim
      next => exact h.elim
    next => exact h.elim
  next idx =>
    split at h
    next j =>
      unfold x_cs at h
      split at h
      next y2 c2 L2 r2 t2 na sp d0 Pre Post hPj hcj =>
        obtain ⟨h1, h2⟩ := x_gd_ok h
        simp only [Bool.and_eq_true] at h1
        obtain ⟨h3, h4, h5⟩ := x_gd_ok h2
        have h6 := x_callS (l := l) (e := e) (below := below) (lv := lv) (sv := sv.drop na) (za := (sv.take na).reverse) (Q := x_Z below D cl ws0 s args M.2.2.2.1 kc TY xb Po) hC hf (hct j d0 Pre Post hcj) (by have := x_ble h1.2.1; omega) hPj (x_ble h1.1) (by rw [List.length_reverse, List.length_take, Nat.min_eq_left (x_ble h1.2.2)]) (x_ble h3) h4 (fun rv I' L' h7 => hK _ _ _ _ _ (h5 rv I' L' h7))
        rw [List.reverse_reverse, List.take_append_drop] at h6
        exact h6
      next => exact h.elim
    next => exact h.elim
  -- answers
  next =>
    split at h
    next z hty => exact x_reti hC hr hlk hf (Or.inl hty) h
    next z hty => exact x_reti hC hr hlk hf (Or.inr ⟨hty, h.1⟩) h.2
    next => exact h.elim
  next =>
    split at h
    next hty => exact x_retv hC hr hlk hf hty h
    next => exact h.elim
  next => exact h.elim
theorem x_wp_ok {cut : Nat → Bool} {Inv : xK} (hC : x_C EX TB NT cl kc D xb TF P p R s m args meth c (va_A ws0 s.heap.size) s.heap ws0 0 0 M d) (hni : M.1.name ≠ "<init>") (hdj : dj ≤ d) (hct : x_ctok EX l TB NT kc D cl xb TY (z_ad xb ws0) P ct) (hr : meth.sig.returnType = M.2.2.2.1) (hlk : meth.locks = false) (hI : ∀ pc lv sv I L, cut pc = true → Inv pc lv sv I L → x_GM p l e R s m args below meth c xb kc D cl TY ws0 M Po pc lv sv I L) : ∀ (f : Nat) (b : Bool) pc lv sv I L, x_wp TB TY TF P ct dj M Po cut Inv f b pc lv sv I L → x_GM p l e R s m args below meth c xb kc D cl TY ws0 M Po pc lv sv I L
  | 0, _, _, _, _, _, _, h => h.elim
  | f + 1, b, pc, lv, sv, I, L, h => by
    unfold x_wp at h
    split at h
    next hb =>
      rw [Bool.and_eq_true] at hb
      exact hI _ _ _ _ _ hb.2 h
    next =>
      split at h
      next Ins inf hf => exact x_step_ok hC hni hdj hct hr hlk hf (x_wp_ok hC hni hdj hct hr hlk hI f true) h
      next => exact h.elim
/-- a method without a loop -/
theorem x_meth {ad : Nat → Option Nat} (hE : z_EX EX) (hall : y_all TB NT cl TF P) {j : Nat} (f : Nat) (hP : P j = some M) (hni : M.1.name ≠ "<init>") {Pre : xPre} {Post : xPost} (hct : x_ctok EX l TB NT kc D cl xb TY ad P ct) (hlen : ∀ za I L, Pre za I L → (za.map x_cat).sum ≤ M.2.2.1) (h : ∀ za I L, Pre za I L → x_wp TB TY TF P ct dj M (Post za I L) (fun _ => false) (fun _ _ _ _ _ => False) f true 0 (x_ent 0 za) [] I L) : x_Ok EX l TB NT kc D cl xb TY ad P j dj Pre Post := by
  refine x_enter hE hall hP hlen (fun p e R s m args below meth c ws0 za I L d had hd hpre hag hwt hC hr hlk => ?_)
  subst had
  exact x_wp_ok hC hni hd hct hr hlk (fun _ _ _ _ _ hc _ => by cases hc) f true 0 _ _ _ _ (h za I L hpre)
/-- fewer locals -/
def x_subs : List (Nat × xV) → List (Nat × xV) → Prop
  | [], _ => True
  | q :: r, lv => x_get lv q.1 = some q.2 ∧ x_subs r lv
theorem x_l_sub {ad : Nat → Option Nat} {nL : Nat} {lv : List (Nat × xV)} {ls : Array Slot} (h : x_l ad nL lv ls) : ∀ {lv' : List (Nat × xV)}, x_subs lv' lv → x_l ad nL lv' ls
  | [], _ => by
    obtain ⟨vs, h1, h2⟩ := h
    exact ⟨[], ⟨h1.1, h1.2.1, fun q hq => by cases hq⟩, trivial⟩
  | q :: r, hs => by
    obtain ⟨vs', g1, g2⟩ := x_l_sub h hs.2
    obtain ⟨x, e1, e2⟩ := x_l_at h hs.1
    refine ⟨(q.1, x) :: vs', ⟨g1.1, g1.2.1, fun p hp => ?_⟩, ⟨rfl, e2⟩, g2⟩
    rcases List.mem_cons.mp hp with rfl | hp
    · exact e1
    · exact g1.2.2 p hp
theorem x_GM_sub {lv' : List (Nat × xV)} (hs : x_subs lv' lv) (h : x_GM p l e R s m args below meth c xb kc D cl TY ws0 M Po pc lv' sv I L) : x_GM p l e R s m args below meth c xb kc D cl TY ws0 M Po pc lv sv I L := fun ls stk ws H locs hS => h ls stk ws H locs ⟨x_l_sub hS.1 hs, hS.2⟩
/-- a method with loops: at the heads lies something that shrinks -/
theorem x_loop {ad : Nat → Option Nat} (hE : z_EX EX) (hall : y_all TB NT cl TF P) {j : Nat} (f : Nat) (hP : P j = some M) (hni : M.1.name ≠ "<init>") {Pre : xPre} {Post : xPost} (hct : x_ctok EX l TB NT kc D cl xb TY ad P ct) (hlen : ∀ za I L, Pre za I L → (za.map x_cat).sum ≤ M.2.2.1) (cut : Nat → Bool) (Inv : List xV → xF → xF → Nat → xK) (h0 : ∀ za I L, Pre za I L → x_wp TB TY TF P ct dj M (Post za I L) cut (fun pc lv sv I' L' => ∃ n lv', x_subs lv' lv ∧ Inv za I L n pc lv' sv I' L') f true 0 (x_ent 0 za) [] I L) (h1 : ∀ za I L, Pre za I L → ∀ n pc lv sv I' L', cut pc = true → Inv za I L n pc lv sv I' L' → x_wp TB TY TF P ct dj M (Post za I L) cut (fun pc lv sv I' L' => ∃ k lv', k < n ∧ x_subs lv' lv ∧ Inv za I L k pc lv' sv I' L') f false pc lv sv I' L') : x_Ok EX l TB NT kc D cl xb TY ad P j dj Pre Post := by
  refine x_enter hE hall hP hlen (fun p e R s m args below meth c ws0 za I L d had hd hpre hag hwt hC hr hlk => ?_)
  subst had
  have key : ∀ N n, n < N → ∀ pc lv sv I' L', cut pc = true → Inv za I L n pc lv sv I' L' → x_GM p l e R s m args below meth c xb kc D cl TY ws0 M (Post za I L) pc lv sv I' L' := by
    intro N
    induction N with
    | zero => intro n hn; exact absurd hn (Nat.not_lt_zero n)
    | succ N ih =>
      intro n hn pc lv sv I' L' hc hi
      exact x_wp_ok hC hni hd hct hr hlk (fun pc lv sv I' L' hc ⟨k, lv', hk, hs, hi⟩ => x_GM_sub hs (ih k (by omega) pc lv' sv I' L' hc hi)) f false pc lv sv I' L' (h1 za I L hpre n pc lv sv I' L' hc hi)
  exact x_wp_ok hC hni hd hct hr hlk (fun pc lv sv I' L' hc ⟨n, lv', hs, hi⟩ => x_GM_sub hs (key (n + 1) n (Nat.lt_succ_self n) pc lv' sv I' L' hc hi)) f true 0 _ _ _ _ (h0 za I L hpre)
/-- contracts as a list -/
def x_ctl : List (Nat × Nat × xPre × xPost) → xCT
  | [], _ => none
  | (i, q) :: r, j => match Nat.beq i j with
    | true => some q
    | false => x_ctl r j
theorem x_ctl_nil {ad : Nat → Option Nat} : x_ctok EX l TB NT kc D cl xb TY ad P (x_ctl []) := fun _ _ _ _ h => by cases h
theorem x_ctl_cons {ad : Nat → Option Nat} {i d0 : Nat} {Pre : xPre} {Post : xPost} {r : List (Nat × Nat × xPre × xPost)} (h : x_Ok EX l TB NT kc D cl xb TY ad P i d0 Pre Post) (hr : x_ctok EX l TB NT kc D cl xb TY ad P (x_ctl r)) : x_ctok EX l TB NT kc D cl xb TY ad P (x_ctl ((i, d0, Pre, Post) :: r)) := by
  intro j d1 Pre1 Post1 h1
  unfold x_ctl at h1
  split at h1
  next hb =>
    cases h1
    obtain rfl := x_beq hb
    exact h
  next => exact hr j d1 Pre1 Post1 h1
end XQ
