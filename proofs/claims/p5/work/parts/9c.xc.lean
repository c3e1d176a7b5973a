/-! ===== the reference's TOKENS, exactly ===== -/
def t_w (b : Nat → Int) (x : Int) : Nat → Int
  | 0 => 0
  | k + 1 => t_w b x k * 256 + b (x.toNat + k)
def x_cvf : Nat → Int → Int
  | 0, _ => 0
  | f + 1, s => if s ≤ 0 then 0 else x_cvf f (s / 32) * 256 + (s % 32 + 96)
def x_vcf : Nat → Int → Int
  | 0, _ => 0
  | f + 1, s => if s ≤ 0 then 0 else x_vcf f (s / 256) * 32 + (s % 256 - 96)
/-- a word's letters by eight bits, out of those by five -/
def t_cv (s : Int) : Int := x_cvf 8 s
theorem x_cv_w {b : Nat → Int} {x : Int} : ∀ (k f : Nat), t_nl b x k = k → k ≤ f → x_cvf f (t_sp b x k) = t_w b x k ∧ x_vcf f (t_w b x k) = t_sp b x k
  | 0, 0, _, _ => ⟨rfl, rfl⟩
  | 0, f + 1, _, _ => ⟨rfl, rfl⟩
  | k + 1, 0, _, h => absurd h (by omega)
  | k + 1, f + 1, h, hf => by
    have h0 := t_nl_b (b := b) (x := x) k
    unfold t_nl at h
    split at h
    next ha =>
      have h1 := x_cv_w (b := b) (x := x) k f (by omega) (by omega)
      have h2 := (t_sp_b (b := b) (x := x) k (by omega)).1
      have h3 : 0 ≤ t_w b x k := by
        have : ∀ j, j ≤ k → t_nl b x j = j → 0 ≤ t_w b x j := by
          intro j
          induction j with
          | zero => intro _ _; exact Int.le_refl _
          | succ j ih =>
            intro hj hn
            have h5 := t_nl_b (b := b) (x := x) j
            unfold t_nl at hn
            split at hn
            next hb =>
              have := ih (by omega) (by omega)
              unfold t_w
              omega
            next => omega
        exact this k (Nat.le_refl k) (by omega)
      unfold t_sp t_w
      unfold x_cvf x_vcf
      have := ha.1
      have := ha.2
      rw [if_neg (by omega), if_neg (by omega)]
      rw [show (t_sp b x k * 32 + (b (x.toNat + k) - 96)) / 32 = t_sp b x k by omega, show (t_sp b x k * 32 + (b (x.toNat + k) - 96)) % 32 = b (x.toNat + k) - 96 by omega, show (t_w b x k * 256 + b (x.toNat + k)) / 256 = t_w b x k by omega, show (t_w b x k * 256 + b (x.toNat + k)) % 256 = b (x.toNat + k) by omega, h1.1, h1.2]
      exact ⟨by omega, rfl⟩
    next => omega
/-- a word that can be told from all others by either number -/
def x_gw (s : Int) : Prop := x_vcf 8 (t_cv s) = s
theorem x_gw_inj {s t : Int} (hs : x_gw s) (ht : x_gw t) (h : t_cv s = t_cv t) : s = t := by
  rw [← hs, ← ht, h]
theorem t_gw {b : Nat → Int} {x : Int} {k : Nat} (h : t_nl b x k = k) (hk : k ≤ 7) : x_gw (t_sp b x k) ∧ t_cv (t_sp b x k) = t_w b x k := by
  have h1 := x_cv_w (b := b) (x := x) k 8 h (by omega)
  unfold x_gw t_cv
  rw [h1.1]
  exact ⟨h1.2, rfl⟩
theorem t_w_b {b : Nat → Int} {x : Int} (hb : ∀ j, 0 ≤ b j ∧ b j ≤ 255) : ∀ k : Nat, 0 ≤ t_w b x k ∧ t_w b x k < (256 : Int) ^ k
  | 0 => ⟨Int.le_refl _, (by decide : (0 : Int) < 1)⟩
  | k + 1 => by
    have h1 := t_w_b (b := b) (x := x) hb k
    have h2 := hb (x.toNat + k)
    unfold t_w
    rw [Int.pow_succ]
    omega
theorem t_val_c {b : Nat → Int} {x : Int} : ∀ k : Nat, (∀ j, j < k → t_al (b (x.toNat + j)) ∨ t_dg (b (x.toNat + j))) → 0 ≤ t_val b x k ∧ t_val b x k ≤ 9 * (10 : Int) ^ k - 9
  | 0, _ => ⟨Int.le_refl _, (by decide : (0 : Int) ≤ 0)⟩
  | k + 1, ha => by
    have h1 := t_val_c (b := b) (x := x) k (fun j hj => ha j (by omega))
    have h2 := ha k (by omega)
    unfold t_val
    rw [Int.pow_succ]
    rcases h2 with ⟨h2, h3⟩ | ⟨h2, h3⟩ <;> omega
theorem x_p256 {k : Nat} (h : k ≤ 6) : (256 : Int) ^ k ≤ 281474976710656 := by
  have : ∀ k : Fin 7, (256 : Int) ^ k.val ≤ 281474976710656 := by decide
  exact this ⟨k, by omega⟩
/-- the reference's bytes -/
def r_b (I : xF) : Nat → Int := fun j => I 210 j % 256
theorem r_b_b (I : xF) (j : Nat) : 0 ≤ r_b I j ∧ r_b I j ≤ 255 := by
  unfold r_b
  omega
def r_pk (I : xF) : Int := if I 209 4 < I 209 3 then r_b I (I 209 4).toNat else -1
section XM
variable {EX : (Nat → Prop) → State → Heap → Prop} {l : Launch} {kc : Nat → ClassId} {D : va_G} {xb : Nat} {ad : Nat → Option Nat}
def xr_pk : xPre := fun za I _ => za = [xR 210] ∧ 0 ≤ I 209 4 ∧ I 209 3 ≤ 940
def xo_pk : xPost := fun _ I L rv I' L' => I' = I ∧ L' = L ∧ rv = some (.inl (r_pk I))
theorem xk_pk (hE : z_EX EX) : x_Ok EX l zTB zNT kc D vwCl xb yTY ad yP0 172 0 xr_pk xo_pk := by
  refine x_meth (M := ym_X12_peek) hE y_prog 40 rfl (by decide) x_none_ok (fun za I L ⟨h, _⟩ => by subst h; exact (by decide : 1 ≤ 1)) (fun za I L ⟨h, h0, h1⟩ => ?_)
  subst h
  intro p (hp : p = I 209 4) _ n (hn : n = I 209 3) _
  refine And.intro ?_ ?_
  · intro t
    refine ⟨rfl, rfl, ?_⟩
    unfold r_pk
    rw [if_neg (by omega)]
  · intro t q (hq : q = I 209 4) _
    refine And.intro (show 0 ≤ q ∧ q < 940 by omega) ?_
    intro c (hc : c = I 210 q.toNat) _
    refine Or.inl ⟨rfl, ?_⟩
    refine ⟨rfl, rfl, ?_⟩
    unfold r_pk r_b
    rw [if_pos (by omega), hc, hq]
def xr_c : xPre := fun za _ _ => ∃ c : Int, za = [.inl c]
def xo_small : xPost := fun za I L rv I' L' => I' = I ∧ L' = L ∧ ∃ c : Int, za = [.inl c] ∧ rv = some (.inl (if t_al c then 1 else 0))
def xo_digit : xPost := fun za I L rv I' L' => I' = I ∧ L' = L ∧ ∃ c : Int, za = [.inl c] ∧ rv = some (.inl (if t_dg c then 1 else 0))
theorem xk_small (hE : z_EX EX) : x_Ok EX l zTB zNT kc D vwCl xb yTY ad yP0 173 0 xr_c xo_small := by
  refine x_meth (M := ym_X12_isSmall) hE y_prog 30 rfl (by decide) x_none_ok (fun za I L ⟨c, h⟩ => by subst h; exact (by decide : 1 ≤ 1)) (fun za I L ⟨c, h⟩ => ?_)
  subst h
  refine And.intro ?_ ?_
  · intro t
    exact ⟨by decide, rfl, rfl, c, rfl, by rw [if_neg (by omega)]⟩
  · intro t
    refine And.intro ?_ ?_
    · intro t2
      exact ⟨by decide, rfl, rfl, c, rfl, by rw [if_neg (by omega)]⟩
    · intro t2
      exact ⟨by decide, rfl, rfl, c, rfl, by rw [if_pos (by omega)]⟩
theorem xk_digit (hE : z_EX EX) : x_Ok EX l zTB zNT kc D vwCl xb yTY ad yP0 174 0 xr_c xo_digit := by
  refine x_meth (M := ym_X12_isDigit) hE y_prog 30 rfl (by decide) x_none_ok (fun za I L ⟨c, h⟩ => by subst h; exact (by decide : 1 ≤ 1)) (fun za I L ⟨c, h⟩ => ?_)
  subst h
  refine And.intro ?_ ?_
  · intro t
    exact ⟨by decide, rfl, rfl, c, rfl, by rw [if_neg (by omega)]⟩
  · intro t
    refine And.intro ?_ ?_
    · intro t2
      exact ⟨by decide, rfl, rfl, c, rfl, by rw [if_neg (by omega)]⟩
    · intro t2
      exact ⟨by decide, rfl, rfl, c, rfl, by rw [if_pos (by omega)]⟩
/-- the reference's cells tell this TOKEN -/
def r_tok (T : Int × Int × Int × Int) (I L : xF) : Prop :=
  I 209 12 = T.2.1 ∧ (2 ≤ T.1 → I 209 4 = T.2.2.1) ∧
  ((T.1 = 0 ∧ I 209 11 = 0) ∨ (T.1 = 1 ∧ I 209 11 = 4) ∨ (T.1 = 2 ∧ I 209 11 = 1 ∧ x_gw T.2.2.2 ∧ L 209 17 = t_cv T.2.2.2) ∨
   (T.1 = 4 ∧ I 209 11 = 2 ∧ I 209 14 = T.2.2.2) ∨ (T.1 = 5 ∧ I 209 11 = 3 ∧ I 209 14 = T.2.2.2))
def x_sN (r k : Nat) : Bool := Nat.beq r 209 && (Nat.beq k 4 || (Nat.ble 11 k && Nat.ble k 14))
def x_sW (r k : Nat) : Bool := Nat.beq r 209 && Nat.beq k 17
def xr_next : xPre := fun za I _ => za = [xR 210] ∧ 0 ≤ I 209 4 ∧ I 209 4 ≤ I 209 3 ∧ I 209 3 ≤ 940 ∧ 0 ≤ I 209 5 ∧ I 209 5 ≤ 940
def xo_next : xPost := fun _ I L rv I' L' => rv = none ∧ x_fi x_sN I I' ∧ x_fi x_sW L L' ∧ r_tok (t_tok (r_b I) (I 209 3) (I 209 5) (I 209 4)) I' L'
def ct_next : List (Nat × Nat × xPre × xPost) := [(172, 0, xr_pk, xo_pk), (173, 0, xr_c, xo_small), (174, 0, xr_c, xo_digit)]
theorem ct_next_ok (hE : z_EX EX) : x_ctok EX l zTB zNT kc D vwCl xb yTY ad yP0 (x_ctl ct_next) := x_ctl_cons (xk_pk hE) (x_ctl_cons (xk_small hE) (x_ctl_cons (xk_digit hE) x_ctl_nil))
end XM
