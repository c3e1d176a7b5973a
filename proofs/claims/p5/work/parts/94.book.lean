section HK3
variable {EX : (Nat → Prop) → State → Heap → Prop} {l : Launch} {kc : Nat → ClassId} {D : va_G} {xb : Nat} {ad : Nat → Option Nat}
def hk_D (a : Nat × Nat × Nat) : Prop := a.1 = 0 ∨ (a.1 = 1 ∧ a.2.1 ≤ 40) ∨ (a.1 = 2 ∧ a.2.1 ≤ 40) ∨ a.1 = 3 ∨ (a.1 = 4 ∧ a.2.1 < 40 ∧ a.2.2 < 5) ∨ (a.1 = 5 ∧ a.2.1 ≤ 40) ∨ a.1 = 6 ∨ a.1 = 7 ∨ (a.1 = 8 ∧ (1 ≤ a.2.1 ∧ a.2.1 ≤ 8) ∧ a.2.2 ≤ 56)
def hk_r (a : Nat × Nat × Nat) : Nat := match a.1 with
  | 0 => 1000
  | 1 => 600 + (41 - a.2.1)
  | 2 => 300 + 2 * (41 - a.2.1) + 1
  | 3 => 299
  | 4 => 300 + 2 * (41 - a.2.1)
  | 5 => 299
  | 6 => 200
  | 7 => 190
  | _ => 100 - a.2.2
def hk_f (ws : va_W) (j : Nat) : Prop := ∃ f, f < 5 ∧ ∀ F ∈ hk_fs j f, y_fv2 [] ws F
def hk_fn (ws : va_W) (n : Nat) : Prop := hs_cell ws 209 36 n ∧ n ≤ 40 ∧ ∀ j, j < n → hk_f ws j
def hk_F (_ : va_W) (a : Nat × Nat × Nat) (_ : Array Slot) (ws : va_W) : Prop := match a.1 with
  | 1 => hk_fn ws a.2.1
  | 2 => ∃ n, hk_fn ws n
  | 4 => ∃ n, hk_fn ws n ∧ a.2.1 < n
  | _ => True
def hk_P (_ : va_W) (rv : Option Value) (u : va_W) : Prop := (∃ x : Int32, rv = some (.int x)) ∧ w_R u
theorem hk_fs_at {j f : Nat} {F : yF} (h : F ∈ hk_fs j f) : F.1.1 = 213 ∧ 3 * j ≤ F.1.2 ∧ F.1.2 ≤ 3 * j + 2 ∧ F.2.2 = none := by
  unfold hk_fs at h
  split at h <;> (
    rcases List.mem_cons.mp h with rfl | h
    · exact ⟨rfl, by dsimp only; omega, by dsimp only; omega, rfl⟩
    · rcases List.mem_cons.mp h with rfl | h
      · exact ⟨rfl, by dsimp only; omega, by dsimp only; omega, rfl⟩
      · first
        | (have := List.mem_singleton.mp h
           subst this
           exact ⟨rfl, by dsimp only; omega, by dsimp only; omega, rfl⟩)
        | exact absurd h List.not_mem_nil)
theorem hk_f_fr {ws ws' : va_W} {j : Nat} (h : ∀ k, 3 * j ≤ k → k ≤ 3 * j + 2 → y_at ws' 213 k = y_at ws 213 k) (hf : hk_f ws j) : hk_f ws' j := by
  obtain ⟨f, f1, f2⟩ := hf
  refine ⟨f, f1, fun F hF => ?_⟩
  obtain ⟨e1, e2, e3, e4⟩ := hk_fs_at hF
  obtain ⟨x, x1, x2⟩ := f2 F hF
  refine ⟨x, ?_, x2⟩
  rw [e1] at x1 ⊢
  rw [h _ e2 e3]
  exact x1
theorem hk_fn_fr {E : yR} (h1 : hq_free E 209 36 36 = true) (h2 : hq_free E 213 0 134 = true) {ws ws' : va_W} (hf : y_fr E ws ws') {n : Nat} (h : hk_fn ws n) : hk_fn ws' n := ⟨hs_cell_fr (hq_free_ok h1 hf (Nat.le_refl _) (Nat.le_refl _)) h.1, h.2.1, fun j hj => hk_f_fr (fun k _ g2 => hq_free_ok h2 hf (Nat.zero_le _) (by have := h.2.1; omega)) (h.2.2 j hj)⟩
abbrev hk_go (kc : Nat → ClassId) (ad : Nat → Option Nat) (a : Nat × Nat × Nat) : Prop := y_go1 kc yP0 yTYV zTF yGR yRC w_R hk_CT ad ym_X12_book 400 8 8 hk_D hk_hd hk_E hk_r hk_eff hk_F hk_P a
theorem hk_run_eq {cps : List Nat} {a : Nat × Nat × Nat} : hk_run cps a = y_run yP0 yTYV zTF (hk_E a) yRC yGR (y_ct hk_CT yTYV yRC (hk_E a) 8) 400 false 8 ym_X12_book (fun pc _ _ => cps.contains pc) true (y_cst (0, []) (hk_hd a)).1 (hk_hd a).1 (y_cst (0, []) (hk_hd a)).2 := rfl
theorem hk_out {a : Nat × Nat × Nat} {q : yB × Nat × yS} (h : hk_rt q = true) : ∃ rz, y_res ym_X12_book.2.2.2.2.1 ym_X12_book.2.2.2.1 q.1 q.2.1 q.2.2.2.1 = some rz ∧ q.2.2.2.2.2.2.1 = [] ∧ q.2.2.2.2.2.2.2 = [] ∧ ∀ (w0 ws ws' : va_W) (ls : Array Slot) (rv : Option Value) (e0 env : List Int), hk_F w0 a ls ws → ((hk_hd a).2.2.2.2 = true → w_R ws) → (q.2.2.2.2.2.1 = true → w_R ws') → y_l e0 ad ym_X12_book.2.2.1 (y_cst (0, []) (hk_hd a)).2.1 ls → y_k e0 ws (y_cst (0, []) (hk_hd a)).2.2.2.1 → e0 <+: env → y_w kc ad yTYV ws → y_w kc ad yTYV ws' → y_Go yGR ws' → y_fr (hk_E a) ws ws' → y_fr hk_eff w0 ws' → y_B q.1 env → y_k env ws' q.2.2.2.2.1 → z_L (y_v env ad) rz.toList rv.toList → hk_P w0 rv ws' := by
  unfold hk_rt at h
  rw [Bool.and_eq_true, show yP0 261 = some ym_X12_book from rfl] at h
  obtain ⟨q0, q1⟩ := h
  obtain ⟨rz, z1, z2, z3, z4⟩ := hq_ret_ok (ad := ad) q1
  refine ⟨rz, z1, z2, z3, ?_⟩
  intro w0 ws ws' ls rv e0 env _ _ hri' _ _ _ _ _ _ _ _ hB _ hrv
  obtain ⟨x, x1, _⟩ := z4 env rv hB hrv
  exact ⟨⟨x, x1⟩, hri' q0⟩
theorem hk_go0 {v : Nat × Nat} : hk_go kc ad (0, v) := by
  have hck := hk_k0
  unfold hk_c0 at hck
  rw [hk_run_eq] at hck
  split at hck
  next es hes =>
    refine ⟨_, es, hes, (show y_sub (hk_E (0, 0, 0)) hk_eff = true by decide +kernel), fun q hq => ?_⟩
    have h9 := List.all_eq_true.mp hck q hq
    rw [Bool.or_eq_true] at h9
    rcases h9 with h9 | h9
    · exact Or.inr (hk_out (a := (0, v)) h9)
    · refine Or.inl ⟨(1, 0, 0), Or.inr (Or.inl ⟨rfl, (show 0 ≤ 40 by decide)⟩), (show 600 + (41 - 0) < 1000 by decide), h9, ?_⟩
      intro w0 ws ws' ls ls' e0 env _ _ _ _ _ _ _ hw' _ hB hl' hk
      refine ⟨?_, (show 0 ≤ 40 by decide), fun j hj => absurd hj (Nat.not_lt_zero _)⟩
      unfold hk_hit y_hit y_cin at h9
      simp only [Bool.and_eq_true] at h9
      have h8 := List.all_eq_true.mp h9.2.2.2.1 ((209, 36), (0, 0), none) List.mem_cons_self
      rw [Bool.and_eq_true] at h8
      obtain ⟨x, x1, x2, x3, _⟩ := y_fm_ok hB hk hw' h8.1
      dsimp only at x1 x2 x3
      exact ⟨x, x1, (show x.toInt = 0 by omega)⟩
  next => cases hck
theorem hk_go1 {n v : Nat} (hn : n ≤ 40) : hk_go kc ad (1, n, v) := by
  have hck := List.all_eq_true.mp hk_k1 n (List.mem_range.mpr (by omega))
  unfold hk_c1 at hck
  rw [hk_run_eq] at hck
  split at hck
  next es hes =>
    refine ⟨_, es, hes, ?_, fun q hq => ?_⟩
    · show y_sub [(213, 3 * n, 3 * n + 2), (209, 4, 4), (209, 11, 16), (209, 18, 18), (209, 36, 36), (217, 0, 55), (219, 0, 3)] hk_eff = true
      unfold y_sub y_ina hk_eff
      simp
      omega
    have h9 := List.all_eq_true.mp hck q hq
    have hfr1 : ∀ {ws ws' : va_W}, y_fr (hk_E (1, n, v)) ws ws' → ∀ j, j < n → hk_f ws j → hk_f ws' j := fun {ws ws'} hfr j hj hf => hk_f_fr (fun k g1 g2 => hfr 213 k (y_in_no (fun p hp e => by
      rcases List.mem_cons.mp hp with rfl | hp
      · dsimp only; omega
      · have : p.1 = 209 ∨ p.1 = 217 ∨ p.1 = 219 := by
          rcases List.mem_cons.mp hp with rfl | hp
          · exact Or.inl rfl
          rcases List.mem_cons.mp hp with rfl | hp
          · exact Or.inl rfl
          rcases List.mem_cons.mp hp with rfl | hp
          · exact Or.inl rfl
          rcases List.mem_cons.mp hp with rfl | hp
          · exact Or.inl rfl
          rcases List.mem_cons.mp hp with rfl | hp
          · exact Or.inr (Or.inl rfl)
          have := List.mem_singleton.mp hp
          subst this
          exact Or.inr (Or.inr rfl)
        omega))) hf
    rw [Bool.or_eq_true] at h9
    rcases h9 with h9 | h9
    · exact Or.inr (hk_out (a := (1, n, v)) h9)
    left
    rw [Bool.or_eq_true] at h9
    rcases h9 with h9 | h9
    · rw [Bool.and_eq_true] at h9
      refine ⟨(2, 0, 0), Or.inr (Or.inr (Or.inl ⟨rfl, (show 0 ≤ 40 by decide)⟩)), (show 300 + 2 * (41 - 0) + 1 < 600 + (41 - n) by omega), h9.1, ?_⟩
      intro w0 ws ws' ls ls' e0 env hF _ _ _ _ _ _ hw' hfr hB hl' hk
      obtain ⟨x, x1, x2, x3⟩ := hq_in_cell h9.2 hk hB
      have h7 : (Int.ofNat n) = (n : Int) := rfl
      exact ⟨n, ⟨x, x1, by omega⟩, hn, fun j hj => hfr1 hfr j hj (hF.2.2 j hj)⟩
    · simp only [Bool.and_eq_true] at h9
      obtain ⟨q0, q1, q2⟩ := h9
      have hn40 := of_decide_eq_true q0
      refine ⟨(1, n + 1, 0), Or.inr (Or.inl ⟨rfl, (show n + 1 ≤ 40 by omega)⟩), (show 600 + (41 - (n + 1)) < 600 + (41 - n) by omega), q1, ?_⟩
      intro w0 ws ws' ls ls' e0 env hF _ _ _ _ _ _ hw' hfr hB hl' hk
      refine ⟨?_, (show n + 1 ≤ 40 by omega), fun j hj => ?_⟩
      · unfold hk_hit y_hit y_cin at q1
        simp only [Bool.and_eq_true] at q1
        have h8 := List.all_eq_true.mp q1.2.2.2.1 ((209, 36), (Int.ofNat (n + 1), Int.ofNat (n + 1)), none) List.mem_cons_self
        rw [Bool.and_eq_true] at h8
        obtain ⟨x, x1, x2, x3, _⟩ := y_fm_ok hB hk hw' h8.1
        dsimp only at x1 x2 x3
        have h7 : (Int.ofNat (n + 1)) = ((n + 1 : Nat) : Int) := rfl
        exact ⟨x, x1, (show x.toInt = ((n + 1 : Nat) : Int) by omega)⟩
      · dsimp only at hj
        by_cases hjn : j = n
        · subst hjn
          obtain ⟨f, hf, h8⟩ := List.any_eq_true.mp q2
          exact ⟨f, List.mem_range.mp hf, fun F hF9 => hs_fv0 (y_fm_ok hB hk hw' (List.all_eq_true.mp h8 F hF9)) (hk_fs_at hF9).2.2.2⟩
        · exact hfr1 hfr j (by omega) (hF.2.2 j (by dsimp only; omega))
  next => cases hck
theorem hk_go2 {i v : Nat} (hi : i ≤ 40) : y_goR2 kc yTYV w_R ad 5 hk_D hk_hd hk_r hk_F (2, i, v) := by
  intro w0 ws ls vs hF hri hw hv hlv hfs
  obtain ⟨n, hn⟩ := hF
  have hn2 := hn
  obtain ⟨h1, h2, h3⟩ := hn
  by_cases hin : i < n
  · obtain ⟨f, f1, f2⟩ := h3 i hin
    refine ⟨(4, i, f), Or.inr (Or.inr (Or.inr (Or.inr (Or.inl ⟨rfl, (show i < 40 by omega), f1⟩)))), (show 300 + 2 * (41 - i) < 300 + 2 * (41 - i) + 1 by omega), rfl, hri, ⟨n, hn2, hin⟩, ⟨vs, hv, hlv⟩, fun F hF9 => ?_⟩
    rcases List.mem_cons.mp hF9 with rfl | hF9
    · have h7 : (Int.ofNat i) = (i : Int) := rfl
      exact hs_fv h1 (show Int.ofNat i + 1 ≤ (n : Int) by omega) (by omega)
    · exact f2 F hF9
  · refine ⟨(5, i, 0), Or.inr (Or.inr (Or.inr (Or.inr (Or.inr (Or.inl ⟨rfl, hi⟩))))), (show 299 < 300 + 2 * (41 - i) + 1 by omega), rfl, hri, trivial, ⟨vs, hv, hlv⟩, fun F hF9 => ?_⟩
    have := List.mem_singleton.mp hF9
    subst this
    have h7 : (Int.ofNat i) = (i : Int) := rfl
    exact hs_fv h1 (by omega) (show (n : Int) ≤ Int.ofNat i by omega)
theorem hk_go3 {v : Nat × Nat} : hk_go kc ad (3, v) := by
  have hck := hk_k3
  unfold hk_c3 at hck
  rw [hk_run_eq] at hck
  split at hck
  next es hes =>
    exact ⟨_, es, hes, rfl, fun q hq => Or.inl ⟨(6, 0, 0), Or.inr (Or.inr (Or.inr (Or.inr (Or.inr (Or.inr (Or.inl rfl)))))), (show 200 < 299 by decide), List.all_eq_true.mp hck q hq, fun _ _ _ _ _ _ _ _ _ _ _ _ _ _ _ _ _ _ _ => trivial⟩⟩
  next => cases hck
theorem hk_go4 {i f : Nat} (hi : i < 40) (hf : f < 5) : hk_go kc ad (4, i, f) := by
  have hck := List.all_eq_true.mp (List.all_eq_true.mp hk_k4 i (List.mem_range.mpr hi)) f (List.mem_range.mpr hf)
  unfold hk_c4 at hck
  rw [hk_run_eq] at hck
  split at hck
  next es hes =>
    refine ⟨_, es, hes, (show y_sub [(211, 62, 117), (219, 0, 1)] hk_eff = true by decide +kernel), fun q hq => Or.inl ?_⟩
    have h9 := List.all_eq_true.mp hck q hq
    rw [Bool.or_eq_true] at h9
    rcases h9 with h9 | h9
    · exact ⟨(3, 0, 0), Or.inr (Or.inr (Or.inr (Or.inl rfl))), (show 299 < 300 + 2 * (41 - i) by omega), h9, fun _ _ _ _ _ _ _ _ _ _ _ _ _ _ _ _ _ _ _ => trivial⟩
    · refine ⟨(2, i + 1, 0), Or.inr (Or.inr (Or.inl ⟨rfl, (show i + 1 ≤ 40 by omega)⟩)), (show 300 + 2 * (41 - (i + 1)) + 1 < 300 + 2 * (41 - i) by omega), h9, ?_⟩
      intro w0 ws ws' ls ls' e0 env hF _ _ _ _ _ _ hw' hfr hB hl' hk
      obtain ⟨n, hn, _⟩ := hF
      exact ⟨n, hk_fn_fr (E := [(211, 62, 117), (219, 0, 1)]) (by decide) (by decide) hfr hn⟩
  next => cases hck
theorem hk_go5 {i v : Nat} (hi : i ≤ 40) : hk_go kc ad (5, i, v) := by
  have hck := List.all_eq_true.mp hk_k5 i (List.mem_range.mpr (by omega))
  unfold hk_c5 at hck
  rw [hk_run_eq] at hck
  split at hck
  next es hes =>
    exact ⟨_, es, hes, rfl, fun q hq => Or.inl ⟨(6, 0, 0), Or.inr (Or.inr (Or.inr (Or.inr (Or.inr (Or.inr (Or.inl rfl)))))), (show 200 < 299 by decide), List.all_eq_true.mp hck q hq, fun _ _ _ _ _ _ _ _ _ _ _ _ _ _ _ _ _ _ _ => trivial⟩⟩
  next => cases hck
theorem hk_go6 {v : Nat × Nat} : hk_go kc ad (6, v) := by
  have hck := hk_k6
  unfold hk_c6 at hck
  rw [hk_run_eq] at hck
  split at hck
  next es hes =>
    refine ⟨_, es, hes, (show y_sub [(219, 2, 3), (209, 38, 38), (209, 23, 23), (216, 0, 447), (211, 62, 117)] hk_eff = true by decide +kernel), fun q hq => ?_⟩
    have h9 := List.all_eq_true.mp hck q hq
    rw [Bool.or_eq_true] at h9
    rcases h9 with h9 | h9
    · exact Or.inr (hk_out (a := (6, v)) h9)
    · exact Or.inl ⟨(7, 0, 0), Or.inr (Or.inr (Or.inr (Or.inr (Or.inr (Or.inr (Or.inr (Or.inl rfl))))))), (show 190 < 200 by decide), h9, fun _ _ _ _ _ _ _ _ _ _ _ _ _ _ _ _ _ _ _ => trivial⟩
  next => cases hck
theorem hk_go7 {v : Nat × Nat} : y_goR2 kc yTYV w_R ad 5 hk_D hk_hd hk_r hk_F (7, v) := by
  intro w0 ws ls vs hF hri hw hv hlv hfs
  obtain ⟨x, x1, x2, x3, _⟩ := hfs _ List.mem_cons_self
  dsimp only at x1 x2 x3
  refine ⟨(8, x.toInt.toNat, 0), Or.inr (Or.inr (Or.inr (Or.inr (Or.inr (Or.inr (Or.inr (Or.inr ⟨rfl, ⟨by dsimp only; omega, by dsimp only; omega⟩, Nat.zero_le _⟩))))))), (show 100 - 0 < 190 by decide), rfl, hri, trivial, ⟨vs, hv, hlv⟩, fun F hF9 => ?_⟩
  have := List.mem_singleton.mp hF9
  subst this
  have h7 : (Int.ofNat x.toInt.toNat) = (x.toInt.toNat : Int) := rfl
  exact ⟨x, x1, by dsimp only; omega, by dsimp only; omega, fun _ _ e => by cases e⟩
theorem hk_go8 {u i : Nat} (hu : 1 ≤ u ∧ u ≤ 8) (hi : i ≤ 56) : hk_go kc ad (8, u, i) := by
  have hck : hk_c8 u i = true := by
    by_cases h : u < 5
    · have := List.all_eq_true.mp (List.all_eq_true.mp hk_k8a (u - 1) (List.mem_range.mpr (by omega))) i (List.mem_range.mpr (by omega))
      rwa [show u - 1 + 1 = u by omega] at this
    · have := List.all_eq_true.mp (List.all_eq_true.mp hk_k8b (u - 5) (List.mem_range.mpr (by omega))) i (List.mem_range.mpr (by omega))
      rwa [show u - 5 + 5 = u by omega] at this
  unfold hk_c8 at hck
  rw [hk_run_eq] at hck
  split at hck
  next es hes =>
    refine ⟨_, es, hes, ?_, fun q hq => ?_⟩
    · show y_sub (if i < 56 then [(216, 56 * (u - 1) + i, 56 * (u - 1) + i)] else []) hk_eff = true
      by_cases h : i < 56
      · rw [if_pos h]
        unfold y_sub y_ina hk_eff
        simp
        omega
      · rw [if_neg h]; rfl
    have h9 := List.all_eq_true.mp hck q hq
    split at h9
    next h =>
      exact Or.inl ⟨(8, u, i + 1), Or.inr (Or.inr (Or.inr (Or.inr (Or.inr (Or.inr (Or.inr (Or.inr ⟨rfl, hu, h⟩))))))), (show 100 - (i + 1) < 100 - i by omega), h9, fun _ _ _ _ _ _ _ _ _ _ _ _ _ _ _ _ _ _ _ => trivial⟩
    next => exact Or.inr (hk_out (a := (8, u, i)) h9)
  next => cases hck
def hk_K : yCon := (261, [.inr (some 210), .inl (-2147483648, 2147483647)], [], [(some (.inl (-2147483648, 2147483647)), [], true)], hk_eff, 8, true, [])
theorem hk_ok (hE : z_EX EX) : y_ConOk EX l zTB zNT kc D vwCl xb yTYV yGR w_R ad yP0 hk_K := by
  intro y cc maxL ret tab na sp hP d hd av ws sz env0 hav hpre hri hGo hwt had hnam
  have hP1 : yP0 261 = some (y, cc, maxL, ret, tab, na, sp) := hP
  have e : ym_X12_book = (y, cc, maxL, ret, tab, na, sp) := Option.some.inj ((show yP0 261 = some ym_X12_book from rfl).symm.trans hP1)
  have hmL : maxL = 5 := (congrArg (fun M : yM => M.2.2.1) e).symm
  have hstep : ∀ a, hk_D a → y_go1 kc yP0 yTYV zTF yGR yRC w_R hk_CT ad (y, cc, maxL, ret, tab, na, sp) 400 8 8 hk_D hk_hd hk_E hk_r hk_eff hk_F hk_P a ∨ y_goR2 kc yTYV w_R ad maxL hk_D hk_hd hk_r hk_F a := by
    rw [← e, hmL]
    rintro ⟨k, i, v⟩ ha
    rcases ha with h0 | ⟨h0, hc⟩ | ⟨h0, hc⟩ | h0 | ⟨h0, hc, hf⟩ | ⟨h0, hc⟩ | h0 | h0 | ⟨h0, hu, hi⟩
    · dsimp only at h0; subst h0; exact Or.inl hk_go0
    · dsimp only at h0 hc; subst h0; exact Or.inl (hk_go1 hc)
    · dsimp only at h0 hc; subst h0; exact Or.inr (hk_go2 hc)
    · dsimp only at h0; subst h0; exact Or.inl hk_go3
    · dsimp only at h0 hc hf; subst h0; exact Or.inl (hk_go4 hc hf)
    · dsimp only at h0 hc; subst h0; exact Or.inl (hk_go5 hc)
    · dsimp only at h0; subst h0; exact Or.inl hk_go6
    · dsimp only at h0; subst h0; exact Or.inr hk_go7
    · dsimp only at h0 hu hi; subst h0; exact Or.inl (hk_go8 hu hi)
  have hCT : ∀ (j : Nat) (K' : yCon), K' ∈ y_cget hk_CT j → K'.1 = j ∧ (K'.2.2.2.2.2.1 < 8 → y_ConOk EX l zTB zNT kc D vwCl xb yTYV yGR w_R ad yP0 K') := by
    intro j K' hK0
    rcases y_cputl_in (CT := y_cputl (y_cput yCTabV 175 hk_next) 259 ((List.range 41).map hk_lK)) (j := 260) (Ks := (List.range 5).map hk_dK) hK0 with ⟨hj, hK1⟩ | hK1
    · obtain ⟨f, hf, rfl⟩ := List.mem_map.mp hK1
      exact ⟨hj.symm, fun _ => hk_d_ok hE (List.mem_range.mp hf)⟩
    rcases y_cputl_in (CT := y_cput yCTabV 175 hk_next) (j := 259) (Ks := (List.range 41).map hk_lK) hK1 with ⟨hj, hK2⟩ | hK2
    · obtain ⟨n, hn, rfl⟩ := List.mem_map.mp hK2
      exact ⟨hj.symm, fun _ => hk_l_ok hE (by have := List.mem_range.mp hn; omega)⟩
    rcases y_cput_in hK2 with ⟨hj, rfl⟩ | hK3
    · exact ⟨hj.symm, fun _ => hk_next_ok hE⟩
    exact ⟨yCT_jV hK3, fun _ => y_consV hE hK3⟩
  have hW := y_walkR (l := l) (D := D) (xb := xb) (sz := sz) (d := d) (w0 := ws) (av := av) (TB := zTB) (NT := zNT) (cl := vwCl) (n := 8) (d0 := 8) (RC := yRC) (RI := w_R) hE w_R_RI y_prog hCT hP1 hstep (a0 := (0, 0, 0)) (Or.inl rfl) rfl rfl (fun _ => hri rfl) rfl (show 2 ≤ maxL by omega) hd hav (fun _ h => by cases h) (fun _ => trivial) hGo hwt had
  refine y_Met_conv hW (fun rv u ⟨⟨⟨x, hx1⟩, hx2⟩, g1, g2, g3, g4⟩ => ⟨_, List.mem_cons_self, ?_, (fun _ h => by cases h), (fun _ => hx2), g1, g2, g3, g4⟩)
  rw [hx1]
  have := z_any x
  exact ⟨⟨x, rfl, by omega, by omega⟩, trivial⟩
end HK3
