/-! ===== what an operation gives ===== -/
theorem y_sub_toInt {x y : Int32} (h1 : -2147483648 ≤ x.toInt - y.toInt) (h2 : x.toInt - y.toInt ≤ 2147483647) : (x - y).toInt = x.toInt - y.toInt := by
  rw [Int32.toInt_sub, Int.bmod_def]
  have : (2 : Nat) ^ 32 = 4294967296 := by decide
  split <;> omega
theorem y_mul_toInt {x y : Int32} (h1 : -2147483648 ≤ x.toInt * y.toInt) (h2 : x.toInt * y.toInt ≤ 2147483647) : (x * y).toInt = x.toInt * y.toInt := by
  rw [Int32.toInt_mul, Int.bmod_def]
  have : (2 : Nat) ^ 32 = 4294967296 := by decide
  generalize x.toInt * y.toInt = z at *
  split <;> omega
theorem y_mk2_ok {B : yB} {env : List Int} (hB : y_B B env) {q : Int × Int} {v : Int} (h : q.1 ≤ v ∧ v ≤ q.2) : ∃ env', env <+: env' ∧ y_B (y_mk2 B q).1 env' ∧ y_e env' (y_mk2 B q).2 = some v := y_mk_ok hB h.1 h.2
theorem y_stay {B : yB} {env : List Int} (hB : y_B B env) {t : yI} {v : Int} (h : y_e env t = some v) : ∃ env', env <+: env' ∧ y_B B env' ∧ y_e env' t = some v := ⟨env, List.prefix_refl _, hB, h⟩
theorem y_clip_in {lo hi : Int} {v : Int32} (h : -2147483648 ≤ lo → hi ≤ 2147483647 → lo ≤ v.toInt ∧ v.toInt ≤ hi) : (y_clip lo hi).1 ≤ v.toInt ∧ v.toInt ≤ (y_clip lo hi).2 := by
  unfold y_clip
  split
  next hc => exact h hc.1 hc.2
  next => exact z_any v
def y_cc (f : Int32 → Int32 → Int32) (g : yB → yI → yI → yB × yI) (B : yB) (x y : yI) : yB × yI := match x, y with
  | .inl a, .inl b => (B, .inl (f (Int32.ofInt a) (Int32.ofInt b)).toInt)
  | x, y => g B x y
theorem y_cc_ok {f : Int32 → Int32 → Int32} {g : yB → yI → yI → yB × yI} (hg : y_two f g) : y_two f (y_cc f g) := by
  intro B env x y a b hB ha hb
  match x, y, ha, hb with
  | .inl c, .inl d, ha, hb =>
    refine y_stay hB ?_
    have e1 : c = a.toInt := Option.some.inj ha
    have e2 : d = b.toInt := Option.some.inj hb
    show some (f (Int32.ofInt c) (Int32.ofInt d)).toInt = _
    rw [e1, e2, Int32.ofInt_toInt, Int32.ofInt_toInt]
  | .inr u, .inl d, ha, hb => exact hg B env _ _ a b hB ha hb
  | .inl c, .inr v, ha, hb => exact hg B env _ _ a b hB ha hb
  | .inr u, .inr v, ha, hb => exact hg B env _ _ a b hB ha hb
def y_rg (h : Int × Int → Int × Int → Int × Int) (B : yB) (x y : yI) : yB × yI := y_mk2 B (h (y_rng B x) (y_rng B y))
theorem y_rg_ok {f : Int32 → Int32 → Int32} {h : Int × Int → Int × Int → Int × Int} (hh : ∀ (p q : Int × Int) (a b : Int32), p.1 ≤ a.toInt ∧ a.toInt ≤ p.2 → q.1 ≤ b.toInt ∧ b.toInt ≤ q.2 → (h p q).1 ≤ (f a b).toInt ∧ (f a b).toInt ≤ (h p q).2) : y_two f (y_rg h) := by
  intro B env x y a b hB ha hb
  exact y_mk2_ok hB (hh _ _ a b (y_rng_ok hB ha) (y_rng_ok hB hb))
def y_full : Int × Int := (-2147483648, 2147483647)
theorem y_full_ok (x : Int32) : y_full.1 ≤ x.toInt ∧ x.toInt ≤ y_full.2 := z_any x
/-- + and - keep a named number -/
def y_oadd (B : yB) (x y : yI) : yB × yI := if -2147483648 ≤ (y_rng B x).1 + (y_rng B y).1 ∧ (y_rng B x).2 + (y_rng B y).2 ≤ 2147483647 then (match x, y with
    | .inl a, .inl b => (B, .inl (a + b))
    | .inr (i, c), .inl b => (B, .inr (i, c + b))
    | .inl a, .inr (i, c) => (B, .inr (i, c + a))
    | x, y => y_mk2 B ((y_rng B x).1 + (y_rng B y).1, (y_rng B x).2 + (y_rng B y).2))
  else y_cc (fun a b => a + b) (y_rg (fun _ _ => y_full)) B x y
theorem y_oadd_ok : y_two (fun a b => a + b) y_oadd := by
  intro B env x y a b hB ha hb
  have r1 := y_rng_ok hB ha
  have r2 := y_rng_ok hB hb
  unfold y_oadd
  split
  next hc =>
    have e0 : (a + b).toInt = a.toInt + b.toInt := z_add_toInt (by omega) (by omega)
    dsimp only
    rw [e0]
    match x, y, ha, hb, r1, r2 with
    | .inl c, .inl d, ha, hb, _, _ =>
      refine y_stay hB ?_
      rw [← Option.some.inj ha, ← Option.some.inj hb]
      rfl
    | .inr (i, c), .inl d, ha, hb, _, _ =>
      refine y_stay hB ?_
      unfold y_e at ha ⊢
      dsimp only at ha ⊢
      obtain ⟨v, h1, h2⟩ := Option.map_eq_some_iff.mp ha
      rw [h1, ← h2, ← Option.some.inj hb]
      exact congrArg some (Int.add_assoc _ _ _).symm
    | .inl d, .inr (i, c), ha, hb, _, _ =>
      refine y_stay hB ?_
      unfold y_e at hb ⊢
      dsimp only at hb ⊢
      obtain ⟨v, h1, h2⟩ := Option.map_eq_some_iff.mp hb
      rw [h1, ← h2, ← Option.some.inj ha]
      exact congrArg some (by dsimp only; omega)
    | .inr (i, c), .inr (j, d), ha, hb, r1, r2 => exact y_mk2_ok hB (by dsimp only; omega)
  next => exact y_cc_ok (y_rg_ok (fun _ _ a b _ _ => y_full_ok _)) B env x y a b hB ha hb
def y_osub (B : yB) (x y : yI) : yB × yI := if -2147483648 ≤ (y_rng B x).1 - (y_rng B y).2 ∧ (y_rng B x).2 - (y_rng B y).1 ≤ 2147483647 then (match x, y with
    | .inl a, .inl b => (B, .inl (a - b))
    | .inr (i, c), .inl b => (B, .inr (i, c - b))
    | x, y => y_mk2 B ((y_rng B x).1 - (y_rng B y).2, (y_rng B x).2 - (y_rng B y).1))
  else y_cc (fun a b => a - b) (y_rg (fun _ _ => y_full)) B x y
theorem y_osub_ok : y_two (fun a b => a - b) y_osub := by
  intro B env x y a b hB ha hb
  have r1 := y_rng_ok hB ha
  have r2 := y_rng_ok hB hb
  unfold y_osub
  split
  next hc =>
    have e0 : (a - b).toInt = a.toInt - b.toInt := y_sub_toInt (by omega) (by omega)
    dsimp only
    rw [e0]
    match x, y, ha, hb, r1, r2 with
    | .inl c, .inl d, ha, hb, _, _ =>
      refine y_stay hB ?_
      rw [← Option.some.inj ha, ← Option.some.inj hb]
      rfl
    | .inr (i, c), .inl d, ha, hb, _, _ =>
      refine y_stay hB ?_
      unfold y_e at ha ⊢
      dsimp only at ha ⊢
      obtain ⟨v, h1, h2⟩ := Option.map_eq_some_iff.mp ha
      rw [h1, ← h2, ← Option.some.inj hb]
      exact congrArg some (by dsimp only; omega)
    | .inl d, .inr (i, c), ha, hb, r1, r2 => exact y_mk2_ok hB (by dsimp only; omega)
    | .inr (i, c), .inr (j, d), ha, hb, r1, r2 => exact y_mk2_ok hB (by dsimp only; omega)
  next => exact y_cc_ok (y_rg_ok (fun _ _ a b _ _ => y_full_ok _)) B env x y a b hB ha hb
def y_mulr (p q : Int × Int) : Int × Int := if 0 ≤ p.1 ∧ 0 ≤ q.1 then y_clip (p.1 * q.1) (p.2 * q.2) else y_full
def y_omul : yB → yI → yI → yB × yI := y_cc (fun a b => a * b) (y_rg y_mulr)
theorem y_omul_ok : y_two (fun a b => a * b) y_omul := y_cc_ok (y_rg_ok (fun p q a b r1 r2 => by
  unfold y_mulr
  split
  next hc =>
    refine y_clip_in (fun q1 q2 => ?_)
    have m0 : p.1 * q.1 ≤ a.toInt * b.toInt := Int.mul_le_mul r1.1 r2.1 hc.2 (by omega)
    have m3 : 0 ≤ a.toInt * b.toInt := Int.mul_nonneg (by omega) (by omega)
    have m2 : a.toInt * b.toInt ≤ p.2 * q.2 := Int.mul_le_mul r1.2 r2.2 (by omega) (by omega)
    rw [y_mul_toInt (by omega) (by omega)]
    exact ⟨m0, m2⟩
  next => exact y_full_ok _))
/-! bits -/
theorem y_nat {x : Int32} (h : 0 ≤ x.toInt) : x.toInt = (x.toBitVec.toNat : Int) ∧ x.toBitVec.toNat < 2147483648 := by
  have h1 : x.toInt = x.toBitVec.toInt := rfl
  have h2 := BitVec.toInt_eq_toNat_cond x.toBitVec
  have h3 := x.toBitVec.isLt
  have : (2 : Nat) ^ 32 = 4294967296 := by decide
  rw [h1] at h ⊢
  rw [h2] at h ⊢
  split at h
  next hc => rw [if_pos hc]; exact ⟨rfl, by omega⟩
  next => omega
theorem y_ofnat {x : Int32} {n : Nat} (h : x.toBitVec.toNat = n) (hn : n < 2147483648) : x.toInt = (n : Int) := by
  have h1 : x.toInt = x.toBitVec.toInt := rfl
  have : (2 : Nat) ^ 32 = 4294967296 := by decide
  rw [h1, BitVec.toInt_eq_toNat_cond, if_pos (by omega), h]
def y_ones (n : Int) : Int := if n ≤ 255 then 255 else if n ≤ 65535 then 65535 else 2147483647
theorem y_ones_or {u v : Nat} {n : Int} (hu : (u : Int) ≤ n) (hv : (v : Int) ≤ n) (hn : n ≤ 2147483647) : ((u ||| v : Nat) : Int) ≤ y_ones n ∧ ((u ^^^ v : Nat) : Int) ≤ y_ones n ∧ y_ones n ≤ 2147483647 := by
  unfold y_ones
  split
  next =>
    have h1 := Nat.or_lt_two_pow (n := 8) (x := u) (y := v) (by omega) (by omega)
    have h2 := Nat.xor_lt_two_pow (n := 8) (x := u) (y := v) (by omega) (by omega)
    omega
  next =>
    split
    next =>
      have h1 := Nat.or_lt_two_pow (n := 16) (x := u) (y := v) (by omega) (by omega)
      have h2 := Nat.xor_lt_two_pow (n := 16) (x := u) (y := v) (by omega) (by omega)
      omega
    next =>
      have h1 := Nat.or_lt_two_pow (n := 31) (x := u) (y := v) (by omega) (by omega)
      have h2 := Nat.xor_lt_two_pow (n := 31) (x := u) (y := v) (by omega) (by omega)
      omega
def y_andr (p q : Int × Int) : Int × Int := if 0 ≤ q.1 then (0, if 0 ≤ p.1 then min p.2 q.2 else q.2) else if 0 ≤ p.1 then (0, p.2) else (-2147483648, 2147483647)
theorem y_and_r {a b : Int32} (h : 0 ≤ b.toInt) : 0 ≤ (a &&& b).toInt ∧ (a &&& b).toInt ≤ b.toInt := by
  obtain ⟨h1, h2⟩ := y_nat h
  have h3 : (a &&& b).toBitVec.toNat = a.toBitVec.toNat &&& b.toBitVec.toNat := by rw [Int32.toBitVec_and, BitVec.toNat_and]
  have h4 : a.toBitVec.toNat &&& b.toBitVec.toNat ≤ b.toBitVec.toNat := Nat.and_le_right
  rw [y_ofnat h3 (by omega), h1]
  omega
theorem y_and_l {a b : Int32} (h : 0 ≤ a.toInt) : 0 ≤ (a &&& b).toInt ∧ (a &&& b).toInt ≤ a.toInt := by
  obtain ⟨h1, h2⟩ := y_nat h
  have h3 : (a &&& b).toBitVec.toNat = a.toBitVec.toNat &&& b.toBitVec.toNat := by rw [Int32.toBitVec_and, BitVec.toNat_and]
  have h4 : a.toBitVec.toNat &&& b.toBitVec.toNat ≤ a.toBitVec.toNat := Nat.and_le_left
  rw [y_ofnat h3 (by omega), h1]
  omega
def y_orr (p q : Int × Int) : Int × Int := if 0 ≤ p.1 ∧ 0 ≤ q.1 ∧ p.2 ≤ 2147483647 ∧ q.2 ≤ 2147483647 then (0, y_ones (max p.2 q.2)) else (-2147483648, 2147483647)
theorem y_orr_ok {p q : Int × Int} {a b : Int32} (h1 : p.1 ≤ a.toInt ∧ a.toInt ≤ p.2) (h2 : q.1 ≤ b.toInt ∧ b.toInt ≤ q.2) : ((y_orr p q).1 ≤ (a ||| b).toInt ∧ (a ||| b).toInt ≤ (y_orr p q).2) ∧ ((y_orr p q).1 ≤ (a ^^^ b).toInt ∧ (a ^^^ b).toInt ≤ (y_orr p q).2) := by
  unfold y_orr
  split
  next hc =>
    obtain ⟨a1, a2⟩ := y_nat (x := a) (by omega)
    obtain ⟨b1, b2⟩ := y_nat (x := b) (by omega)
    obtain ⟨g1, g2, g3⟩ := y_ones_or (u := a.toBitVec.toNat) (v := b.toBitVec.toNat) (n := max p.2 q.2) (by omega) (by omega) (by omega)
    have e1 : (a ||| b).toBitVec.toNat = a.toBitVec.toNat ||| b.toBitVec.toNat := by rw [Int32.toBitVec_or, BitVec.toNat_or]
    have e2 : (a ^^^ b).toBitVec.toNat = a.toBitVec.toNat ^^^ b.toBitVec.toNat := by rw [Int32.toBitVec_xor, BitVec.toNat_xor]
    rw [y_ofnat e1 (by omega), y_ofnat e2 (by omega)]
    dsimp only
    omega
  next => exact ⟨z_any _, z_any _⟩
theorem y_p2 : ∀ n : Fin 31, ((1 : Int32) <<< (Int32.ofNat n.val &&& 31)).toInt = (2 : Int) ^ n.val := by decide +kernel
theorem y_andr_ok {p q : Int × Int} {a b : Int32} (r1 : p.1 ≤ a.toInt ∧ a.toInt ≤ p.2) (r2 : q.1 ≤ b.toInt ∧ b.toInt ≤ q.2) : (y_andr p q).1 ≤ (a &&& b).toInt ∧ (a &&& b).toInt ≤ (y_andr p q).2 := by
  unfold y_andr
  split
  next h1 =>
    have g := y_and_r (a := a) (b := b) (by omega)
    dsimp only
    split
    next h2 =>
      have g2 := y_and_l (a := a) (b := b) (by omega)
      omega
    next => omega
  next =>
    split
    next h2 =>
      have g2 := y_and_l (a := a) (b := b) (by omega)
      dsimp only
      omega
    next => exact z_any _
def y_oand1 (B : yB) (x y : yI) : yB × yI := match y with
  | .inl b => if b = -1 then (B, x) else if b = 255 ∧ 0 ≤ (y_rng B x).1 ∧ (y_rng B x).2 ≤ 255 then (B, x) else y_rg y_andr B x y
  | y => y_rg y_andr B x y
theorem y_255a : ∀ n : Fin 256, ((Int32.ofInt (n.val : Int)) &&& 255).toInt = (n.val : Int) := by decide +kernel
theorem y_255b : ∀ n : Fin 128, ((Int32.ofInt ((n.val : Int) - 128)) &&& 255).toInt = (n.val : Int) + 128 := by decide +kernel
theorem y_255c {a : Int32} (h1 : 0 ≤ a.toInt) (h2 : a.toInt ≤ 255) : (a &&& 255).toInt = a.toInt := by
  have e := y_255a ⟨a.toInt.toNat, by omega⟩
  dsimp only at e
  rwa [show ((a.toInt.toNat : Nat) : Int) = a.toInt by omega, Int32.ofInt_toInt] at e
theorem y_255d {a : Int32} (h1 : -128 ≤ a.toInt) (h2 : a.toInt < 0) : (a &&& 255).toInt = a.toInt + 256 := by
  have e := y_255b ⟨(a.toInt + 128).toNat, by omega⟩
  dsimp only at e
  rw [show (((a.toInt + 128).toNat : Nat) : Int) - 128 = a.toInt by omega, Int32.ofInt_toInt] at e
  rw [e]
  omega
theorem y_oand1_ok : y_two (fun a b => a &&& b) y_oand1 := by
  intro B env x y a b hB ha hb
  have r1 := y_rng_ok hB ha
  have hg := y_rg_ok (f := fun a b => a &&& b) (h := y_andr) (fun p q a b => y_andr_ok) B env x y a b hB ha hb
  unfold y_oand1
  split
  next d =>
    have hd : d = b.toInt := Option.some.inj hb
    split
    next h1 =>
      have : b = -1 := Int32.toInt_inj.mp (by rw [← hd, h1]; rfl)
      refine y_stay hB ?_
      dsimp only
      rw [this, Int32.and_neg_one]
      exact ha
    next =>
      split
      next h2 =>
        have : b = 255 := Int32.toInt_inj.mp (by rw [← hd, h2.1]; rfl)
        refine y_stay hB ?_
        dsimp only
        rw [this, y_255c (by omega) (by omega)]
        exact ha
      next => exact hg
  next => exact hg
def y_oand : yB → yI → yI → yB × yI := y_cc (fun a b => a &&& b) y_oand1
theorem y_oand_ok : y_two (fun a b => a &&& b) y_oand := y_cc_ok y_oand1_ok
def y_oor : yB → yI → yI → yB × yI := y_cc (fun a b => a ||| b) (y_rg y_orr)
theorem y_oor_ok : y_two (fun a b => a ||| b) y_oor := y_cc_ok (y_rg_ok (fun _ _ _ _ r1 r2 => (y_orr_ok r1 r2).1))
def y_oxor : yB → yI → yI → yB × yI := y_cc (fun a b => a ^^^ b) (y_rg y_orr)
theorem y_oxor_ok : y_two (fun a b => a ^^^ b) y_oxor := y_cc_ok (y_rg_ok (fun _ _ _ _ r1 r2 => (y_orr_ok r1 r2).2))
def y_shlr (p q : Int × Int) : Int × Int := if p.1 = 1 ∧ p.2 = 1 ∧ 0 ≤ q.1 ∧ q.2 ≤ 30 then (1, (2 : Int) ^ q.2.toNat) else y_full
def y_oshl : yB → yI → yI → yB × yI := y_cc (fun a b => a <<< (b &&& 31)) (y_rg y_shlr)
theorem y_oshl_ok : y_two (fun a b => a <<< (b &&& 31)) y_oshl := y_cc_ok (y_rg_ok (fun p q a b r1 r2 => by
  unfold y_shlr
  split
  next hc =>
    obtain ⟨c1, c2, c3, c4⟩ := hc
    have ha : a = 1 := Int32.toInt_inj.mp (by rw [show a.toInt = 1 by omega]; rfl)
    have e1 := y_p2 ⟨b.toInt.toNat, by omega⟩
    have e2 : Int32.ofNat b.toInt.toNat = b := by
      rw [← Int32.ofInt_eq_ofNat, show ((b.toInt.toNat : Nat) : Int) = b.toInt by omega, Int32.ofInt_toInt]
    dsimp only at e1 ⊢
    rw [e2] at e1
    rw [ha, e1]
    have g1 : (2 : Nat) ^ b.toInt.toNat ≤ 2 ^ q.2.toNat := Nat.pow_le_pow_right (by decide) (by omega)
    have g2 : 1 ≤ (2 : Nat) ^ b.toInt.toNat := Nat.one_le_two_pow
    exact ⟨by exact_mod_cast g2, by exact_mod_cast g1⟩
  next => exact y_full_ok _))
def y_oshr : yB → yI → yI → yB × yI := y_cc (fun a b => a >>> (b &&& 31)) (y_rg (fun _ _ => y_full))
theorem y_oshr_ok : y_two (fun a b => a >>> (b &&& 31)) y_oshr := y_cc_ok (y_rg_ok (fun _ _ _ _ _ _ => y_full_ok _))
def y_ush (a b : Int32) : Int32 := (a.toUInt32 >>> (b.toUInt32 &&& Int32.toUInt32 31)).toInt32
def y_ushr (_ q : Int × Int) : Int × Int := if q.1 = 8 ∧ q.2 = 8 then (0, 16777215) else if q.1 = q.2 ∧ 1 ≤ q.1 ∧ q.1 ≤ 31 then (0, 2147483647) else y_full
theorem y_ush_n {a b : Int32} {k : Nat} (hk : 1 ≤ k ∧ k ≤ 31) (hb : b = Int32.ofNat k) : (y_ush a b).toInt = ((a.toUInt32.toNat >>> k : Nat) : Int) := by
  have h0 : ∀ k : Fin 32, ((Int32.ofNat k.val).toUInt32 &&& Int32.toUInt32 31).toNat % 32 = k.val := by decide +kernel
  have h9 := h0 ⟨k, by omega⟩
  dsimp only at h9
  have h1 : (y_ush a b).toBitVec.toNat = a.toUInt32.toNat >>> ((b.toUInt32 &&& Int32.toUInt32 31).toNat % 32) := UInt32.toNat_shiftRight _ _
  rw [hb, h9] at h1
  have h2 : a.toUInt32.toNat < 4294967296 := a.toUInt32.toBitVec.isLt
  have h3 : a.toUInt32.toNat >>> k ≤ a.toUInt32.toNat >>> 1 := by
    rw [Nat.shiftRight_eq_div_pow, Nat.shiftRight_eq_div_pow]
    exact Nat.div_le_div_left (Nat.pow_le_pow_right (by decide) hk.1) (by decide)
  have h4 : a.toUInt32.toNat >>> 1 < 2147483648 := by
    rw [Nat.shiftRight_eq_div_pow]
    omega
  rw [hb]
  exact y_ofnat h1 (by omega)
theorem y_ush_k {b : Int32} {k : Nat} (h : b.toInt = (k : Int)) : b = Int32.ofNat k := by
  rw [← Int32.ofInt_eq_ofNat, ← h, Int32.ofInt_toInt]
def y_oush : yB → yI → yI → yB × yI := y_cc y_ush (y_rg y_ushr)
theorem y_oush_ok : y_two y_ush y_oush := y_cc_ok (y_rg_ok (fun p q a b r1 r2 => by
  unfold y_ushr
  split
  next hc =>
    rw [y_ush_n (k := 8) (by omega) (y_ush_k (by omega))]
    have h2 : a.toUInt32.toNat < 4294967296 := a.toUInt32.toBitVec.isLt
    rw [Nat.shiftRight_eq_div_pow]
    dsimp only
    omega
  next =>
    split
    next hc =>
      have h2 := z_any (y_ush a b)
      refine ⟨?_, h2.2⟩
      rw [y_ush_n (k := b.toInt.toNat) (by omega) (y_ush_k (by omega))]
      exact Int.natCast_nonneg _
    next => exact y_full_ok _))
theorem y_rem_ok {a b : Int32} (ha : 0 ≤ a.toInt) (hb : 1 ≤ b.toInt) : 0 ≤ (a - a / b * b).toInt ∧ (a - a / b * b).toInt ≤ b.toInt - 1 := by
  have e1 : (a / b).toInt = a.toInt.tdiv b.toInt := Int32.toInt_div_of_ne_right a b (fun q => by rw [q] at hb; exact absurd hb (by decide))
  rw [Int.tdiv_eq_ediv_of_nonneg ha] at e1
  have m1 := Int.emod_nonneg a.toInt (b := b.toInt) (by omega)
  have m2 := Int.emod_lt_of_pos a.toInt (b := b.toInt) (by omega)
  have m3 := Int.mul_ediv_add_emod a.toInt b.toInt
  have q0 : 0 ≤ a.toInt / b.toInt := Int.ediv_nonneg ha (by omega)
  have q1 : 0 ≤ a.toInt / b.toInt * b.toInt := Int.mul_nonneg q0 (by omega)
  rw [Int.mul_comm] at m3
  have a1 := z_any a
  have e2 : (a / b * b).toInt = a.toInt / b.toInt * b.toInt := by
    rw [y_mul_toInt (by rw [e1]; omega) (by rw [e1]; omega), e1]
  rw [y_sub_toInt (by rw [e2]; omega) (by rw [e2]; omega), e2]
  omega

