/-! ===== HOOKS as a function ===== -/
def h_cnt (f : Nat → Int) : Nat → Int → Int
  | 0, _ => 0
  | n + 1, μ => h_cnt f n μ + (if f n = μ then 1 else 0)
theorem h_cnt_s (f : Nat → Int) (n : Nat) (μ : Int) : h_cnt f (n + 1) μ = h_cnt f n μ + (if f n = μ then 1 else 0) := rfl
theorem h_cnt_b (f : Nat → Int) : ∀ (n : Nat) (μ : Int), 0 ≤ h_cnt f n μ ∧ h_cnt f n μ ≤ (n : Int)
  | 0, _ => ⟨Int.le_refl _, Int.le_refl _⟩
  | n + 1, μ => by
    have := h_cnt_b f n μ
    rw [h_cnt_s]
    split <;> omega
theorem h_cnt_congr {f g : Nat → Int} : ∀ {n : Nat}, (∀ c, c < n → f c = g c) → ∀ μ, h_cnt f n μ = h_cnt g n μ
  | 0, _, _ => rfl
  | n + 1, h, μ => by
    rw [h_cnt_s, h_cnt_s, h_cnt_congr (fun c hc => h c (by omega)) μ, h n (by omega)]
theorem h_cnt_pos {f : Nat → Int} : ∀ {n c : Nat}, c < n → 1 ≤ h_cnt f n (f c)
  | 0, c, h => absurd h (Nat.not_lt_zero c)
  | n + 1, c, h => by
    have hb := h_cnt_b f n (f c)
    rw [h_cnt_s]
    by_cases hc : c = n
    · subst hc
      rw [if_pos rfl]
      omega
    · have := h_cnt_pos (f := f) (show c < n by omega)
      split <;> omega
/-- how many of the places below n hold 0 .. m - 1 -/
def h_sum (f : Nat → Int) (n : Nat) : Nat → Int
  | 0 => 0
  | m + 1 => h_sum f n m + h_cnt f n (m : Int)
theorem h_sum_m (f : Nat → Int) (n m : Nat) : h_sum f n (m + 1) = h_sum f n m + h_cnt f n (m : Int) := rfl
theorem h_sum_s (f : Nat → Int) (n : Nat) : ∀ m, h_sum f (n + 1) m = h_sum f n m + (if 0 ≤ f n ∧ f n < (m : Int) then 1 else 0)
  | 0 => by
    rw [if_neg (by omega)]
    rfl
  | m + 1 => by
    rw [h_sum_m, h_sum_m, h_sum_s f n m, h_cnt_s]
    have e : ((m + 1 : Nat) : Int) = (m : Int) + 1 := by omega
    rw [e]
    by_cases h1 : f n = (m : Int)
    · rw [if_neg (by omega), if_pos h1, if_pos (by omega)]
      omega
    · by_cases h2 : 0 ≤ f n ∧ f n < (m : Int)
      · rw [if_pos h2, if_neg h1, if_pos (by omega)]
        omega
      · rw [if_neg h2, if_neg h1, if_neg (by omega)]
        omega
theorem h_sum_0 (f : Nat → Int) : ∀ m, h_sum f 0 m = 0
  | 0 => rfl
  | m + 1 => by
    rw [h_sum_m, h_sum_0 f m]
    rfl
theorem h_sum_le (f : Nat → Int) : ∀ n m, h_sum f n m ≤ (n : Int)
  | 0, m => by
    rw [h_sum_0]
    exact Int.le_refl _
  | n + 1, m => by
    have := h_sum_le f n m
    rw [h_sum_s]
    split <;> omega
theorem h_sum_0le (f : Nat → Int) (n : Nat) : ∀ m, 0 ≤ h_sum f n m
  | 0 => Int.le_refl _
  | m + 1 => by
    have h1 := h_sum_0le f n m
    have h2 := h_cnt_b f n (m : Int)
    rw [h_sum_m]
    omega
/-- powers of eight -/
def h_pw : Nat → Int
  | 0 => 1
  | k + 1 => h_pw k * 8
theorem h_pw_pos : ∀ k, 1 ≤ h_pw k
  | 0 => Int.le_refl _
  | k + 1 => by
    have := h_pw_pos k
    show 1 ≤ h_pw k * 8
    omega
theorem h_pw_mono : ∀ {a b : Nat}, a ≤ b → h_pw a ≤ h_pw b
  | a, 0, h => by
    obtain rfl : a = 0 := by omega
    exact Int.le_refl _
  | a, b + 1, h => by
    by_cases hab : a = b + 1
    · subst hab
      exact Int.le_refl _
    · have h1 := h_pw_mono (show a ≤ b by omega)
      have h2 := h_pw_pos b
      show h_pw a ≤ h_pw b * 8
      omega
/-- ways for one MAN -/
def h_pi (w a : Int) : Nat → Int
  | 0 => w
  | k + 1 => h_pi w a k * (if 0 < a - (k : Int) then a - (k : Int) else 0)
theorem h_pi_s (w a : Int) (k : Nat) : h_pi w a (k + 1) = h_pi w a k * (if 0 < a - (k : Int) then a - (k : Int) else 0) := rfl
theorem h_pi_b {w a : Int} {T : Nat} (hw : 0 ≤ w ∧ w ≤ h_pw T) (ha : 0 ≤ a ∧ a ≤ 8) : ∀ k, 0 ≤ h_pi w a k ∧ h_pi w a k ≤ h_pw (T + k)
  | 0 => hw
  | k + 1 => by
    have h1 := h_pi_b hw ha k
    have h2 := h_pw_pos (T + k)
    rw [h_pi_s]
    have hf : 0 ≤ (if 0 < a - (k : Int) then a - (k : Int) else 0) ∧ (if 0 < a - (k : Int) then a - (k : Int) else 0) ≤ 8 := by split <;> omega
    refine ⟨Int.mul_nonneg h1.1 hf.1, ?_⟩
    show _ ≤ h_pw (T + k) * 8
    exact Int.mul_le_mul h1.2 hf.2 hf.1 (by omega)
def h_ways (bt o : Nat → Int) (S n : Nat) : Nat → Int
  | 0 => 1
  | m + 1 => h_pi (h_ways bt o S n m) (h_cnt o n (m : Int)) (h_cnt bt S (m : Int)).toNat
theorem h_ways_s (bt o : Nat → Int) (S n m : Nat) : h_ways bt o S n (m + 1) = h_pi (h_ways bt o S n m) (h_cnt o n (m : Int)) (h_cnt bt S (m : Int)).toNat := rfl
theorem h_ways_b {bt o : Nat → Int} {S n : Nat} (hn : n ≤ 8) : ∀ m, 0 ≤ h_ways bt o S n m ∧ h_ways bt o S n m ≤ h_pw (h_sum bt S m).toNat
  | 0 => ⟨(show (0 : Int) ≤ 1 by decide), Int.le_refl _⟩
  | m + 1 => by
    have h1 := h_ways_b (bt := bt) (o := o) (S := S) hn m
    have h2 := h_cnt_b o n (m : Int)
    have h3 := h_cnt_b bt S (m : Int)
    have h4 := h_sum_0le bt S m
    have h5 := h_pi_b h1 (show 0 ≤ h_cnt o n (m : Int) ∧ h_cnt o n (m : Int) ≤ 8 by omega) (h_cnt bt S (m : Int)).toNat
    rw [h_ways_s, h_sum_m]
    rw [show (h_sum bt S m + h_cnt bt S (m : Int)).toNat = (h_sum bt S m).toNat + (h_cnt bt S (m : Int)).toNat by omega]
    exact h5
theorem h_way_in {bt o : Nat → Int} {S n m k : Nat} (hn : n ≤ 8) (hS : S ≤ 8) (hk : (k : Int) ≤ h_cnt bt S (m : Int)) : 0 ≤ h_pi (h_ways bt o S n m) (h_cnt o n (m : Int)) k ∧ h_pi (h_ways bt o S n m) (h_cnt o n (m : Int)) k ≤ 16777216 := by
  have h1 := h_ways_b (bt := bt) (o := o) (S := S) hn m
  have h2 := h_cnt_b o n (m : Int)
  have h4 := h_sum_0le bt S m
  have h5 := h_pi_b h1 (show 0 ≤ h_cnt o n (m : Int) ∧ h_cnt o n (m : Int) ≤ 8 by omega) k
  have h6 := h_sum_le bt S (m + 1)
  rw [h_sum_m] at h6
  have h7 := h_pw_mono (show (h_sum bt S m).toNat + k ≤ 8 by omega)
  have h8 : h_pw 8 = 16777216 := by decide
  omega
theorem h_ways_congr {bt o o' : Nat → Int} {S n : Nat} (h : ∀ c, c < n → o c = o' c) : ∀ m, h_ways bt o S n m = h_ways bt o' S n m
  | 0 => rfl
  | m + 1 => by rw [h_ways_s, h_ways_s, h_ways_congr h m, h_cnt_congr h]
/-- sets as bits -/
def h_set (p : Nat → Bool) : Nat → Nat
  | 0 => 0
  | n + 1 => h_set p n ||| (if p n = true then 2 ^ n else 0)
theorem h_set_s (p : Nat → Bool) (n : Nat) : h_set p (n + 1) = h_set p n ||| (if p n = true then 2 ^ n else 0) := rfl
theorem h_set_lt (p : Nat → Bool) : ∀ n, h_set p n < 2 ^ n
  | 0 => (show (0 : Nat) < 2 ^ 0 by decide)
  | n + 1 => by
    have h1 := h_set_lt p n
    have h2 : 2 ^ n < 2 ^ (n + 1) := Nat.pow_lt_pow_right (by decide) (by omega)
    rw [h_set_s]
    refine Nat.or_lt_two_pow (by omega) ?_
    split <;> omega
theorem h_set_bit (p : Nat → Bool) : ∀ n i, (h_set p n).testBit i = (decide (i < n) && p i)
  | 0, i => by
    show (0 : Nat).testBit i = _
    rw [Nat.zero_testBit, decide_eq_false (Nat.not_lt_zero i), Bool.false_and]
  | n + 1, i => by
    rw [h_set_s, Nat.testBit_or, h_set_bit p n i]
    by_cases hi : i = n
    · subst hi
      rw [decide_eq_false (Nat.lt_irrefl i), decide_eq_true (Nat.lt_succ_self i), Bool.false_and, Bool.false_or, Bool.true_and]
      cases hp : p i with
      | true =>
        rw [if_pos rfl]
        exact Nat.testBit_two_pow_self
      | false =>
        rw [if_neg (by decide)]
        exact Nat.zero_testBit i
    · have h0 : (if p n = true then 2 ^ n else 0 : Nat).testBit i = false := by
        split
        · rw [Nat.testBit_two_pow]
          exact decide_eq_false (fun q => hi q.symm)
        · exact Nat.zero_testBit i
      rw [h0, Bool.or_false]
      by_cases hl : i < n
      · rw [decide_eq_true hl, decide_eq_true (show i < n + 1 by omega)]
      · rw [decide_eq_false hl, decide_eq_false (show ¬ i < n + 1 by omega)]
theorem h_set_congr {p q : Nat → Bool} : ∀ {n : Nat}, (∀ c, c < n → p c = q c) → h_set p n = h_set q n
  | 0, _ => rfl
  | n + 1, h => by rw [h_set_s, h_set_s, h_set_congr (fun c hc => h c (by omega)), h n (by omega)]
theorem h_set_8 (p : Nat → Bool) {n : Nat} (h : n ≤ 8) : h_set p n < 256 := by
  have h1 := h_set_lt p n
  have h2 : 2 ^ n ≤ 2 ^ 8 := Nat.pow_le_pow_right (by decide) h
  have h3 : (2 : Nat) ^ 8 = 256 := rfl
  omega
/-- sets of some MEN in one -/
def h_u (q : Nat → Bool) (H : Nat → Nat) : Nat → Nat
  | 0 => 0
  | m + 1 => h_u q H m ||| (if q m = true then H m else 0)
theorem h_u_s (q : Nat → Bool) (H : Nat → Nat) (m : Nat) : h_u q H (m + 1) = h_u q H m ||| (if q m = true then H m else 0) := rfl
theorem h_u_lt {q : Nat → Bool} {H : Nat → Nat} (hH : ∀ m, H m < 256) : ∀ m, h_u q H m < 256
  | 0 => (show (0 : Nat) < 256 by decide)
  | m + 1 => by
    have h1 := h_u_lt (q := q) hH m
    have h2 := hH m
    rw [h_u_s]
    exact Nat.or_lt_two_pow (n := 8) h1 (by split <;> omega)
theorem h_u_bit (q : Nat → Bool) (H : Nat → Nat) (i : Nat) : ∀ m, (h_u q H m).testBit i = true ↔ ∃ μ, μ < m ∧ q μ = true ∧ (H μ).testBit i = true
  | 0 => by
    constructor
    · intro h
      have h : (0 : Nat).testBit i = true := h
      rw [Nat.zero_testBit] at h
      cases h
    · rintro ⟨μ, h, _⟩
      exact absurd h (Nat.not_lt_zero μ)
  | m + 1 => by
    rw [h_u_s, Nat.testBit_or, Bool.or_eq_true, h_u_bit q H i m]
    constructor
    · rintro (⟨μ, h1, h2, h3⟩ | h)
      · exact ⟨μ, by omega, h2, h3⟩
      · cases hq : q m with
        | true =>
          rw [hq, if_pos rfl] at h
          exact ⟨m, by omega, hq, h⟩
        | false =>
          rw [hq, if_neg (by decide), Nat.zero_testBit] at h
          cases h
    · rintro ⟨μ, h1, h2, h3⟩
      by_cases hm : μ = m
      · subst hm
        right
        rw [h2, if_pos rfl]
        exact h3
      · exact Or.inl ⟨μ, by omega, h2, h3⟩
/-- a MAN's COATS -/
def h_his (o : Nat → Int) (n : Nat) (m : Nat) : Nat := h_set (fun c => decide (o c = (m : Int))) n
theorem h_u_his {o : Nat → Int} {n M : Nat} {q p : Nat → Bool} (ho : ∀ c, c < n → 0 ≤ o c ∧ o c < (M : Int)) (hp : ∀ c, c < n → p c = q (o c).toNat) : h_u q (h_his o n) M = h_set p n := by
  refine Nat.eq_of_testBit_eq (fun i => ?_)
  rw [Bool.eq_iff_iff, h_u_bit, h_set_bit, Bool.and_eq_true, decide_eq_true_eq]
  constructor
  · rintro ⟨μ, h1, h2, h3⟩
    unfold h_his at h3
    rw [h_set_bit, Bool.and_eq_true, decide_eq_true_eq, decide_eq_true_eq] at h3
    refine ⟨h3.1, ?_⟩
    rw [hp i h3.1, h3.2, Int.toNat_natCast]
    exact h2
  · rintro ⟨h1, h2⟩
    have h3 := ho i h1
    refine ⟨(o i).toNat, by omega, by rw [← hp i h1]; exact h2, ?_⟩
    unfold h_his
    rw [h_set_bit, Bool.and_eq_true, decide_eq_true_eq, decide_eq_true_eq]
    exact ⟨h1, by omega⟩
/-- how many bits -/
def h_pc (v : Nat) : Nat := ((List.range 8).filter (fun i => v.testBit i)).length
theorem h_pc_and : ∀ v : Fin 256, v.val ≠ 0 → h_pc (v.val &&& (v.val - 1)) + 1 = h_pc v.val ∧ (v.val &&& (v.val - 1)) < v.val := by decide +kernel
theorem h_pc_or : ∀ n : Fin 8, ∀ a : Fin 256, a.val < 2 ^ n.val → h_pc (a.val ||| 2 ^ n.val) = h_pc a.val + 1 := by decide +kernel
theorem h_pc_set {o : Nat → Int} {μ : Int} : ∀ {n : Nat}, n ≤ 8 → (h_pc (h_set (fun c => decide (o c = μ)) n) : Int) = h_cnt o n μ
  | 0, _ => (show ((h_pc 0 : Nat) : Int) = 0 by decide)
  | n + 1, h => by
    have h1 := h_pc_set (o := o) (μ := μ) (show n ≤ 8 by omega)
    have h2 := h_set_lt (fun c => decide (o c = μ)) n
    have h3 := h_set_8 (fun c => decide (o c = μ)) (show n ≤ 8 by omega)
    rw [h_set_s, h_cnt_s]
    by_cases hc : o n = μ
    · rw [if_pos (decide_eq_true hc), if_pos hc]
      have h4 := h_pc_or ⟨n, by omega⟩ ⟨h_set (fun c => decide (o c = μ)) n, h3⟩ h2
      dsimp only at h4
      rw [h4]
      omega
    · rw [if_neg (show ¬ decide (o n = μ) = true by rw [decide_eq_true_eq]; exact hc), if_neg hc, Nat.or_zero]
      omega
/-- what the tape says is no HOOKS, all told -/
def h_okb (men x : Int) : Prop := x = 9 ∨ (0 ≤ x ∧ x < men)
def h_ok (bt : Nat → Int) (S men : Int) : Prop := ∀ k : Nat, (k : Int) < S → h_okb men (bt k)
def h_bad (bt : Nat → Int) (S seats men : Int) : Prop := S = 0 ∨ S ≠ seats ∨ ¬ h_ok bt S men
def h_pS (bt o : Nat → Int) (S n : Nat) (c : Nat) : Bool := decide (h_cnt bt S (o c) = h_cnt o n (o c))
def h_pN (bt o : Nat → Int) (S n : Nat) (c : Nat) : Bool := !decide (h_cnt bt S (o c) = h_cnt o n (o c)) && decide (h_cnt bt S (o c) = 0)
/-- answer, the latest of both sets behind it (s0, n0 ahead of it) -/
def h_out (bt o : Nat → Int) (S seats men n : Int) (rv s1 n1 s0 n0 : Int) : Prop :=
  (h_bad bt S seats men ∧ rv = -1 ∧ s1 = s0 ∧ n1 = n0) ∨
  (¬ h_bad bt S seats men ∧ rv = h_ways bt o S.toNat n.toNat men.toNat ∧ ((0 < rv ∧ s1 = (h_set (h_pS bt o S.toNat n.toNat) n.toNat : Nat) ∧ n1 = (h_set (h_pN bt o S.toNat n.toNat) n.toNat : Nat)) ∨ (rv ≤ 0 ∧ s1 = s0 ∧ n1 = n0)))
theorem h_out_eq {bt o o' : Nat → Int} {S seats men n rv s1 n1 s0 n0 rv' s1' n1' : Int} (ho : ∀ c : Nat, (c : Int) < n → o c = o' c) (h1 : h_out bt o S seats men n rv s1 n1 s0 n0) (h2 : h_out bt o' S seats men n rv' s1' n1' s0 n0) : rv = rv' ∧ s1 = s1' ∧ n1 = n1' := by
  have hc : ∀ c, c < n.toNat → o c = o' c := fun c hc => ho c (by omega)
  have hw := h_ways_congr (bt := bt) (S := S.toNat) hc men.toNat
  have hs : h_set (h_pS bt o S.toNat n.toNat) n.toNat = h_set (h_pS bt o' S.toNat n.toNat) n.toNat := h_set_congr (fun c hl => by
    unfold h_pS
    rw [h_cnt_congr hc, hc c hl])
  have hn : h_set (h_pN bt o S.toNat n.toNat) n.toNat = h_set (h_pN bt o' S.toNat n.toNat) n.toNat := h_set_congr (fun c hl => by
    unfold h_pN
    rw [h_cnt_congr hc, hc c hl])
  rcases h1 with ⟨b1, r1, e1, f1⟩ | ⟨b1, r1, g1⟩
  · rcases h2 with ⟨b2, r2, e2, f2⟩ | ⟨b2, _⟩
    · exact ⟨r1.trans r2.symm, e1.trans e2.symm, f1.trans f2.symm⟩
    · exact absurd b1 b2
  · rcases h2 with ⟨b2, _⟩ | ⟨b2, r2, g2⟩
    · exact absurd b2 b1
    · have hr : rv = rv' := by rw [r1, r2, hw]
      subst hr
      rcases g1 with ⟨p1, e1, f1⟩ | ⟨p1, e1, f1⟩
      · rcases g2 with ⟨p2, e2, f2⟩ | ⟨p2, _⟩
        · exact ⟨rfl, by rw [e1, e2, hs], by rw [f1, f2, hn]⟩
        · omega
      · rcases g2 with ⟨p2, _⟩ | ⟨p2, e2, f2⟩
        · omega
        · exact ⟨rfl, e1.trans e2.symm, f1.trans f2.symm⟩
section XHK
variable {EX : (Nat → Prop) → State → Heap → Prop} {l : Launch} {kc : Nat → ClassId} {D : va_G} {xb : Nat} {ad : Nat → Option Nat}
theorem xk_fill_143 (hE : z_EX EX) : x_Ok EX l zTB zNT kc D vwCl xb yTY ad yP0 277 0 (fun za _ _ => za = [xR 144, .inl 0]) (fun _ I L rv I' L' => rv = none ∧ L' = L ∧ (∀ r' k, r' ≠ 143 → I' r' k = I r' k) ∧ ∀ k, k < 6 → I' 143 k = 0) := by
  refine x_loop2 (M := ym_J7_fill_53178) hE y_prog 40 rfl (by decide) x_none_ok (fun za I L h => by subst h; exact (by decide : 2 ≤ 4)) (x_cut1 5) (fun za I L n pc lv sv I' L' => L' = L ∧ sv = [] ∧ (∀ r' k, r' ≠ 143 → I' r' k = I r' k) ∧ ∃ i : Nat, i ≤ 6 ∧ n = 6 - i ∧ lv = [(0, xR 144), (1, .inl 0), (2, .inl (i : Int)), (3, .inl 6)] ∧ ∀ k, k < i → I' 143 k = 0) (fun za I L h => ?_) (fun za I L _ n pc lv sv I' L' hc hi => ?_)
  · subst h
    exact ⟨6, [(0, xR 144), (1, .inl 0), (2, .inl ((0 : Nat) : Int)), (3, .inl 6)], ⟨rfl, rfl, rfl, rfl, trivial⟩, rfl, rfl, fun _ _ _ => rfl, 0, by omega, rfl, rfl, fun k hk => absurd hk (Nat.not_lt_zero k)⟩
  · obtain rfl := x_cut1_ok hc
    obtain ⟨rfl, rfl, hf, i, hi, rfl, rfl, hz⟩ := hi
    refine And.intro ?_ ?_
    · intro t1
      have h6 : i = 6 := by omega
      subst h6
      exact ⟨rfl, rfl, hf, hz⟩
    · intro t1
      refine And.intro (show 0 ≤ (i : Int) ∧ (i : Int) < 6 by omega) ?_
      refine And.intro (fun q hq => ?_) ?_
      · rw [x_seg1 (by omega)] at hq
        cases hq
        exact ⟨by decide, by decide⟩
      have hz2 : ∀ k, k < i + 1 → x_u I' 143 ((i : Int)).toNat 0 143 k = 0 := fun k hk => by
        rw [x_u_if]
        by_cases hki : k = i
        · rw [if_pos (by omega)]
        · rw [if_neg (by omega)]
          exact hz k (by omega)
      exact Or.inl ⟨by omega, 6 - (i + 1), [(0, xR 144), (1, .inl 0), (2, .inl ((i + 1 : Nat) : Int)), (3, .inl 6)], by omega, ⟨rfl, rfl, rfl, rfl, trivial⟩, rfl, rfl, (fun r' k hr => (x_u_r hr).trans (hf r' k hr)), i + 1, by omega, rfl, rfl, hz2⟩
theorem xk_fill_144 (hE : z_EX EX) : x_Ok EX l zTB zNT kc D vwCl xb yTY ad yP0 277 0 (fun za _ _ => za = [xR 145, .inl 0]) (fun _ I L rv I' L' => rv = none ∧ L' = L ∧ (∀ r' k, r' ≠ 144 → I' r' k = I r' k) ∧ ∀ k, k < 6 → I' 144 k = 0) := by
  refine x_loop2 (M := ym_J7_fill_53178) hE y_prog 40 rfl (by decide) x_none_ok (fun za I L h => by subst h; exact (by decide : 2 ≤ 4)) (x_cut1 5) (fun za I L n pc lv sv I' L' => L' = L ∧ sv = [] ∧ (∀ r' k, r' ≠ 144 → I' r' k = I r' k) ∧ ∃ i : Nat, i ≤ 6 ∧ n = 6 - i ∧ lv = [(0, xR 145), (1, .inl 0), (2, .inl (i : Int)), (3, .inl 6)] ∧ ∀ k, k < i → I' 144 k = 0) (fun za I L h => ?_) (fun za I L _ n pc lv sv I' L' hc hi => ?_)
  · subst h
    exact ⟨6, [(0, xR 145), (1, .inl 0), (2, .inl ((0 : Nat) : Int)), (3, .inl 6)], ⟨rfl, rfl, rfl, rfl, trivial⟩, rfl, rfl, fun _ _ _ => rfl, 0, by omega, rfl, rfl, fun k hk => absurd hk (Nat.not_lt_zero k)⟩
  · obtain rfl := x_cut1_ok hc
    obtain ⟨rfl, rfl, hf, i, hi, rfl, rfl, hz⟩ := hi
    refine And.intro ?_ ?_
    · intro t1
      have h6 : i = 6 := by omega
      subst h6
      exact ⟨rfl, rfl, hf, hz⟩
    · intro t1
      refine And.intro (show 0 ≤ (i : Int) ∧ (i : Int) < 6 by omega) ?_
      refine And.intro (fun q hq => ?_) ?_
      · rw [x_seg1 (by omega)] at hq
        cases hq
        exact ⟨by decide, by decide⟩
      have hz2 : ∀ k, k < i + 1 → x_u I' 144 ((i : Int)).toNat 0 144 k = 0 := fun k hk => by
        rw [x_u_if]
        by_cases hki : k = i
        · rw [if_pos (by omega)]
        · rw [if_neg (by omega)]
          exact hz k (by omega)
      exact Or.inl ⟨by omega, 6 - (i + 1), [(0, xR 145), (1, .inl 0), (2, .inl ((i + 1 : Nat) : Int)), (3, .inl 6)], by omega, ⟨rfl, rfl, rfl, rfl, trivial⟩, rfl, rfl, (fun r' k hr => (x_u_r hr).trans (hf r' k hr)), i + 1, by omega, rfl, rfl, hz2⟩
def xr_hm : xPre := fun za _ _ => ∃ m : Int, za = [xR 5, .inl m]
def xo_hm : xPost := fun za I L rv I' L' => I' = I ∧ L' = L ∧ ∃ m : Int, za = [xR 5, .inl m] ∧ ((0 ≤ m ∧ m < I 4 1 ∧ rv = some (.inl 1)) ∨ ((m < 0 ∨ I 4 1 ≤ m) ∧ rv = some (.inl 0)))
theorem xk_hm (hE : z_EX EX) : x_Ok EX l zTB zNT kc D vwCl xb yTY ad yP0 34 0 xr_hm xo_hm := by
  refine x_meth (M := ym_X3_hasMan) hE y_prog 30 rfl (by decide) x_none_ok (fun za I L ⟨m, h⟩ => by subst h; exact (by decide : 2 ≤ 2)) (fun za I L ⟨m, h⟩ => ?_)
  subst h
  refine And.intro ?_ ?_
  · intro t1
    exact ⟨by decide, rfl, rfl, m, rfl, Or.inr ⟨Or.inl t1, rfl⟩⟩
  · intro t1 z (hz : z = I 4 1) _
    refine And.intro ?_ ?_
    · intro t2
      exact ⟨by decide, rfl, rfl, m, rfl, Or.inr ⟨Or.inr (by omega), rfl⟩⟩
    · intro t2
      exact ⟨by decide, rfl, rfl, m, rfl, Or.inl ⟨t1, by omega, rfl⟩⟩
/-! countHung -/
def xr_ch : xPre := fun za I _ => za = [xR 142, xR 2] ∧ 0 ≤ I 1 2 ∧ I 1 2 ≤ 940
def xh_fr (I I' : xF) : Prop := ∀ r k, r ≠ 143 → r ≠ 144 → I' r k = I r k
def xo_ch : xPost := fun _ I L rv I' L' => L' = L ∧ xh_fr I I' ∧ ((rv = some (.inl 1) ∧ h_ok (I 2) (I 1 2) (I 4 1) ∧ (∀ j : Nat, j < 6 → I' 143 j = h_cnt (I 2) (I 1 2).toNat (j : Int)) ∧ ∀ j : Nat, j < 6 → I' 144 j = h_cnt (I 7) (I 4 2).toNat (j : Int)) ∨ (rv = some (.inl 0) ∧ ¬ h_ok (I 2) (I 1 2) (I 4 1)))
def xh_chI (za : List xV) (I L : xF) (m pc : Nat) (lv : List (Nat × xV)) (sv : List xV) (I' L' : xF) : Prop := sv = [] ∧ L' = L ∧ xh_fr I I' ∧ ∃ i : Nat, lv = [(0, xR 142), (1, xR 2), (2, .inl (i : Int))] ∧
  ((pc = 18 ∧ (i : Int) ≤ I 4 2 ∧ I 4 2 ≤ 8 ∧ m = 2000 + (8 - i) ∧ (∀ j : Nat, j < 6 → I' 143 j = 0) ∧ ∀ j : Nat, j < 6 → I' 144 j = h_cnt (I 7) i (j : Int)) ∨
   (pc = 55 ∧ (i : Int) ≤ I 1 2 ∧ m = 940 - i ∧ (∀ k : Nat, k < i → h_okb (I 4 1) (I 2 k)) ∧ (∀ j : Nat, j < 6 → I' 143 j = h_cnt (I 2) i (j : Int)) ∧ ∀ j : Nat, j < 6 → I' 144 j = h_cnt (I 7) (I 4 2).toNat (j : Int)))
set_option maxHeartbeats 4000000 in
theorem xk_ch (hE : z_EX EX) : x_Ok EX l zTB zNT kc D vwCl xb yTY ad yP0 19 1 (fun za I L => xr_ch za I L ∧ 0 ≤ I 4 2 ∧ I 4 2 ≤ 8 ∧ I 4 1 ≤ 6) xo_ch := by
  refine x_loop2 (ct := x_ctl [(277, 0, (fun za I L => za = [xR 144, .inl 0] ∨ za = [xR 145, .inl 0]), (fun za I L rv I' L' => (za = [xR 144, .inl 0] ∧ (rv = none ∧ L' = L ∧ (∀ r' k, r' ≠ 143 → I' r' k = I r' k) ∧ ∀ k, k < 6 → I' 143 k = 0)) ∨ (za = [xR 145, .inl 0] ∧ (rv = none ∧ L' = L ∧ (∀ r' k, r' ≠ 144 → I' r' k = I r' k) ∧ ∀ k, k < 6 → I' 144 k = 0)))), (34, 0, xr_hm, xo_hm)]) (M := ym_X1_countHung) hE y_prog 80 rfl (by decide) (x_ctl_cons (x_or (xk_fill_143 hE) (xk_fill_144 hE)) (x_ctl_cons (xk_hm hE) x_ctl_nil)) (fun za I L ⟨⟨h, _⟩, _⟩ => by subst h; exact (by decide : 2 ≤ 4)) (x_cut2 18 55) xh_chI (fun za I L ⟨⟨h, h0, h1⟩, h2, h3, h36⟩ => ?_) (fun za I L ⟨⟨_, h0, h1⟩, h2, h3, h36⟩ m pc lv sv I' L' hc hi => ?_)
  · subst h
    refine And.intro (Or.inl rfl) ?_
    rintro rv I1 L1 (⟨_, rfl, rfl, f1, z1⟩ | ⟨h, _⟩)
    · refine And.intro (Or.inr rfl) ?_
      rintro rv I2 L2 (⟨h, _⟩ | ⟨_, rfl, rfl, f2, z2⟩)
      · exact absurd (show [xR 145, (.inl 0 : xV)] = [xR 144, .inl 0] from h) (by decide)
      · exact ⟨2008, [(0, xR 142), (1, xR 2), (2, .inl ((0 : Nat) : Int))], ⟨rfl, rfl, rfl, trivial⟩, rfl, rfl, (fun r k n1 n2 => (f2 r k n2).trans (f1 r k n1)), 0, rfl, Or.inl ⟨rfl, by omega, h3, rfl, (fun j hj => (f2 143 j (by decide)).trans (z1 j hj)), fun j hj => z2 j hj⟩⟩
    · exact absurd (show [xR 144, (.inl 0 : xV)] = [xR 145, .inl 0] from h) (by decide)
  · obtain ⟨rfl, rfl, hf, i, rfl, ⟨rfl, hi, h8, rfl, hz, ho⟩ | ⟨rfl, hi, rfl, hk, hh, ho⟩⟩ := hi
    · intro z (hz2 : z = I' 4 2) (bz : 0 ≤ z ∧ z ≤ 8)
      have hz3 : z = I 4 2 := hz2.trans (hf 4 2 (by decide) (by decide))
      refine And.intro ?_ ?_
      · intro t1
        have hin : i = (I 4 2).toNat := by omega
        exact ⟨940, [(0, xR 142), (1, xR 2), (2, .inl ((0 : Nat) : Int))], by omega, ⟨rfl, rfl, rfl, trivial⟩, rfl, rfl, hf, 0, rfl, Or.inr ⟨rfl, by omega, rfl, (fun k hk => absurd hk (Nat.not_lt_zero k)), hz, fun j hj => by rw [← hin]; exact ho j hj⟩⟩
      · intro t1
        refine And.intro (show 0 ≤ (i : Int) ∧ (i : Int) < 8 by omega) ?_
        intro w hw hws
        have hw : w = I' 7 i := hw
        have hw : w = I 7 i := hw.trans (hf 7 i (by decide) (by decide))
        have bw : 0 ≤ w ∧ w ≤ 5 := hws (0, 5) (x_seg1 (by omega))
        refine And.intro (show 0 ≤ w ∧ w < 6 by omega) ?_
        intro v hv _
        have hv : v = I' 144 w.toNat := hv
        have hv : v = h_cnt (I 7) i w := by
          rw [hv, ho w.toNat (by omega), show ((w.toNat : Nat) : Int) = w by omega]
        have bv := h_cnt_b (I 7) i w
        refine Or.inl ⟨by omega, ?_⟩
        refine And.intro (show 0 ≤ w ∧ w < 6 by omega) ?_
        refine And.intro (fun q hq => ?_) ?_
        · rw [x_seg1 (by omega)] at hq
          cases hq
          exact (show -2147483648 ≤ v + 1 ∧ v + 1 ≤ 2147483647 by omega)
        have ho2 : ∀ j : Nat, j < 6 → x_u I' 144 w.toNat (v + 1) 144 j = h_cnt (I 7) (i + 1) (j : Int) := fun j hj => by
          rw [x_u_if, h_cnt_s, ← hw]
          by_cases hjw : j = w.toNat
          · rw [if_pos ⟨rfl, hjw⟩, if_pos (by omega), show (j : Int) = w by omega, hv]
          · rw [if_neg (fun q => hjw q.2), if_neg (by omega), ho j hj]
            omega
        exact Or.inl ⟨by omega, 2000 + (8 - (i + 1)), [(0, xR 142), (1, xR 2), (2, .inl ((i + 1 : Nat) : Int))], by omega, ⟨rfl, rfl, rfl, trivial⟩, rfl, rfl, (fun r k n1 n2 => (x_u_r n2).trans (hf r k n1 n2)), i + 1, rfl, Or.inl ⟨rfl, by omega, h8, rfl, hz, ho2⟩⟩
    · intro z (hz2 : z = I' 1 2) (bz : 0 ≤ z ∧ z ≤ 940)
      have hz3 : z = I 1 2 := hz2.trans (hf 1 2 (by decide) (by decide))
      refine And.intro ?_ ?_
      · intro t1
        have hin : i = (I 1 2).toNat := by omega
        refine ⟨by decide, rfl, hf, Or.inl ⟨rfl, (fun k hk2 => hk k (by omega)), (fun j hj => by rw [← hin]; exact hh j hj), ho⟩⟩
      · intro t1
        refine And.intro (show 0 ≤ (i : Int) ∧ (i : Int) < 940 by omega) ?_
        intro w hw hws
        have hw : w = I' 2 i := hw
        have hwI : w = I 2 i := hw.trans (hf 2 i (by decide) (by decide))
        have bw : 0 ≤ w ∧ w ≤ 255 := hws (0, 255) (x_seg1 (by omega))
        refine And.intro ⟨w, rfl⟩ ?_
        rintro rv I1 L1 ⟨g1, g2, w', hx, ⟨e1, e2, rfl⟩ | ⟨e1, rfl⟩⟩
        · subst g1
          subst g2
          cases hx
          have e2 : w < I 4 1 := by rw [← hf 4 1 (by decide) (by decide)]; exact e2
          refine And.intro (fun q => absurd q (by decide)) (fun _ => ?_)
          have h6 : w < 6 := by omega
          refine And.intro (show 0 ≤ w ∧ w < 6 by omega) ?_
          intro v hv _
          have hv : v = I1 143 w.toNat := hv
          have hv : v = h_cnt (I 2) i w := by
            rw [hv, hh w.toNat (by omega), show ((w.toNat : Nat) : Int) = w by omega]
          have bv := h_cnt_b (I 2) i w
          refine Or.inl ⟨by omega, ?_⟩
          refine And.intro (show 0 ≤ w ∧ w < 6 by omega) ?_
          refine And.intro (fun q hq => ?_) ?_
          · rw [x_seg1 (by omega)] at hq
            cases hq
            exact (show -2147483648 ≤ v + 1 ∧ v + 1 ≤ 2147483647 by omega)
          have hh2 : ∀ j : Nat, j < 6 → x_u I1 143 w.toNat (v + 1) 143 j = h_cnt (I 2) (i + 1) (j : Int) := fun j hj => by
            rw [x_u_if, h_cnt_s, ← hwI]
            by_cases hjw : j = w.toNat
            · rw [if_pos ⟨rfl, hjw⟩, if_pos (by omega), show (j : Int) = w by omega, hv]
            · rw [if_neg (fun q => hjw q.2), if_neg (by omega), hh j hj]
              omega
          exact Or.inl ⟨by omega, 940 - (i + 1), [(0, xR 142), (1, xR 2), (2, .inl ((i + 1 : Nat) : Int))], by omega, ⟨rfl, rfl, rfl, trivial⟩, rfl, rfl, (fun r k n1 n2 => (x_u_r n1).trans (hf r k n1 n2)), i + 1, rfl, Or.inr ⟨rfl, by omega, rfl, (fun k hk2 => by
            rcases Nat.lt_or_ge k i with g | g
            · exact hk k g
            · obtain rfl : k = i := by omega
              rw [← hwI]
              exact Or.inr ⟨e1, e2⟩), hh2, ho⟩⟩
        · subst g1
          subst g2
          cases hx
          have e1 : w < 0 ∨ I 4 1 ≤ w := by rw [← hf 4 1 (by decide) (by decide)]; exact e1
          refine And.intro (fun _ => ?_) (fun q => absurd rfl q)
          refine And.intro ?_ ?_
          · intro t2
            have hh2 : ∀ j : Nat, j < 6 → I1 143 j = h_cnt (I 2) (i + 1) (j : Int) := fun j hj => by
              rw [h_cnt_s, ← hwI, if_neg (by omega), hh j hj]
              omega
            exact Or.inl ⟨by omega, 940 - (i + 1), [(0, xR 142), (1, xR 2), (2, .inl ((i + 1 : Nat) : Int))], by omega, ⟨rfl, rfl, rfl, trivial⟩, rfl, rfl, hf, i + 1, rfl, Or.inr ⟨rfl, by omega, rfl, (fun k hk2 => by
              rcases Nat.lt_or_ge k i with g | g
              · exact hk k g
              · obtain rfl : k = i := by omega
                rw [← hwI]
                exact Or.inl t2), hh2, ho⟩⟩
          · intro t2
            refine ⟨by decide, rfl, hf, Or.inr ⟨rfl, fun q => ?_⟩⟩
            have h9 := q i (by omega)
            rw [← hwI] at h9
            rcases h9 with h9 | h9
            · exact t2 h9
            · omega
/-! tellOfWays -/
def h_qS (I : xF) (c : Nat) : Bool := decide (I 143 (I 7 c).toNat = I 144 (I 7 c).toNat)
def h_qN (I : xF) (c : Nat) : Bool := !decide (I 143 (I 7 c).toNat = I 144 (I 7 c).toNat) && decide (I 143 (I 7 c).toNat = 0)
def xr_tw2 : xPre := fun za I _ => za = [xR 142] ∧ 0 ≤ I 4 2 ∧ I 4 2 ≤ 8
def xh_fr2 (I I' : xF) : Prop := ∀ r k, ¬ (r = 141 ∧ (k = 8 ∨ k = 9)) → I' r k = I r k
def xo_tw2 : xPost := fun _ I L rv I' L' => rv = none ∧ L' = L ∧ xh_fr2 I I' ∧ I' 141 8 = (h_set (h_qS I) (I 4 2).toNat : Nat) ∧ I' 141 9 = (h_set (h_qN I) (I 4 2).toNat : Nat)
theorem xh_or {x : Int} {a i : Nat} (h : x = (a : Int)) : x_or2 x ((2 ^ i : Nat) : Int) = ((a ||| 2 ^ i : Nat) : Int) := by
  subst h
  unfold x_or2
  rw [Int.toNat_natCast, Int.toNat_natCast]
set_option maxHeartbeats 4000000 in
theorem xk_tow (hE : z_EX EX) : x_Ok EX l zTB zNT kc D vwCl xb yTY ad yP0 20 0 xr_tw2 xo_tw2 := by
  refine x_loop2 (M := ym_X1_tellOfWays) hE y_prog 80 rfl (by decide) x_none_ok (fun za I L ⟨h, _⟩ => by subst h; exact (by decide : 1 ≤ 3)) (x_cut1 12) (fun za I L n pc lv sv I' L' => L' = L ∧ sv = [] ∧ xh_fr2 I I' ∧ ∃ i : Nat, (i : Int) ≤ I 4 2 ∧ n = 8 - i ∧ lv = [(0, xR 142), (1, .inl (i : Int))] ∧ I' 141 8 = (h_set (h_qS I) i : Nat) ∧ I' 141 9 = (h_set (h_qN I) i : Nat)) (fun za I L ⟨h, h0, h8⟩ => ?_) (fun za I L ⟨_, h0, h8⟩ n pc lv sv I' L' hc hi => ?_)
  · subst h
    refine And.intro (by decide) ?_
    refine And.intro (by decide) ?_
    exact ⟨8, [(0, xR 142), (1, .inl ((0 : Nat) : Int))], ⟨rfl, rfl, trivial⟩, rfl, rfl, (fun r k hn => (x_u_if _ _ _ _ _ _).trans ((if_neg (fun q => hn ⟨q.1, Or.inr q.2⟩)).trans ((x_u_if _ _ _ _ _ _).trans (if_neg (fun q => hn ⟨q.1, Or.inl q.2⟩))))), 0, by omega, rfl, rfl, rfl, rfl⟩
  · obtain rfl := x_cut1_ok hc
    obtain ⟨rfl, rfl, hf, i, hi, rfl, rfl, hs, hn⟩ := hi
    intro z (hz2 : z = I' 4 2) (bz : 0 ≤ z ∧ z ≤ 8)
    have hz3 : z = I 4 2 := hz2.trans (hf 4 2 (fun q => absurd q.1 (by decide)))
    refine And.intro ?_ ?_
    · intro t1
      have hin : i = (I 4 2).toNat := by omega
      exact ⟨rfl, rfl, hf, by rw [← hin]; exact hs, by rw [← hin]; exact hn⟩
    · intro t1
      refine And.intro (show 0 ≤ (i : Int) ∧ (i : Int) < 8 by omega) ?_
      intro w hw hws
      have hw : w = I' 7 i := hw
      have hw : w = I 7 i := hw.trans (hf 7 i (fun q => absurd q.1 (by decide)))
      have bw : 0 ≤ w ∧ w ≤ 5 := hws (0, 5) (x_seg1 (by omega))
      refine And.intro (show 0 ≤ w ∧ w < 6 by omega) ?_
      intro a ha _
      have ha : a = I' 143 w.toNat := ha
      have ha : a = I 143 w.toNat := ha.trans (hf 143 _ (fun q => absurd q.1 (by decide)))
      refine And.intro (show 0 ≤ w ∧ w < 6 by omega) ?_
      intro b hb _
      have hb : b = I' 144 w.toNat := hb
      have hb : b = I 144 w.toNat := hb.trans (hf 144 _ (fun q => absurd q.1 (by decide)))
      have hlS := h_set_8 (h_qS I) (show i + 1 ≤ 8 by omega)
      have hlN := h_set_8 (h_qN I) (show i + 1 ≤ 8 by omega)
      have ha7 : I 143 (I 7 i).toNat = a := by rw [← hw, ha]
      have hb7 : I 144 (I 7 i).toNat = b := by rw [← hw, hb]
      refine And.intro ?_ ?_
      · intro t2
        have hqS : h_qS I i = false := by
          unfold h_qS
          rw [ha7, hb7]
          exact decide_eq_false t2
        have hsS : I' 141 8 = (h_set (h_qS I) (i + 1) : Nat) := by rw [hs, h_set_s, hqS, if_neg (by decide), Nat.or_zero]
        refine And.intro (show 0 ≤ w ∧ w < 6 by omega) ?_
        intro c hc2 _
        have hc2 : c = I' 143 w.toNat := hc2
        have hca : c = a := (hc2.trans (hf 143 _ (fun q => absurd q.1 (by decide)))).trans ha.symm
        refine And.intro ?_ ?_
        · intro t3
          have hqN : h_qN I i = false := by
            unfold h_qN
            rw [ha7, hb7, decide_eq_false (show ¬ a = 0 by omega), Bool.and_false]
          exact Or.inl ⟨by omega, 8 - (i + 1), [(0, xR 142), (1, .inl ((i + 1 : Nat) : Int))], by omega, ⟨rfl, rfl, trivial⟩, rfl, rfl, hf, i + 1, by omega, rfl, rfl, hsS, by rw [hn, h_set_s, hqN, if_neg (by decide), Nat.or_zero]⟩
        · intro t3
          have hqN : h_qN I i = true := by
            unfold h_qN
            rw [ha7, hb7, decide_eq_true (show a = 0 by omega), decide_eq_false t2]
            rfl
          intro y (hy : y = I' 141 9) _
          have hor : x_or2 y ((2 ^ i : Nat) : Int) = (h_set (h_qN I) (i + 1) : Nat) := by
            rw [xh_or (hy.trans hn), h_set_s, hqN, if_pos rfl]
          refine And.intro ⟨rfl, by omega, by omega⟩ ?_
          refine And.intro ⟨by omega, Int.natCast_nonneg _⟩ ?_
          refine And.intro (show -2147483648 ≤ x_or2 y ((2 ^ i : Nat) : Int) ∧ x_or2 y ((2 ^ i : Nat) : Int) ≤ 2147483647 by rw [hor]; omega) ?_
          exact Or.inl ⟨by omega, 8 - (i + 1), [(0, xR 142), (1, .inl ((i + 1 : Nat) : Int))], by omega, ⟨rfl, rfl, trivial⟩, rfl, rfl, (fun r k hn2 => (x_u_if _ _ _ _ _ _).trans ((if_neg (fun q => hn2 ⟨q.1, Or.inr q.2⟩)).trans (hf r k hn2))), i + 1, by omega, rfl, rfl, (x_u_k (show (8 : Nat) ≠ 9 by decide)).trans hsS, (x_u_s _ _ _ _).trans hor⟩
      · intro t2
        have hqS : h_qS I i = true := by
          unfold h_qS
          rw [ha7, hb7]
          exact decide_eq_true t2
        have hqN : h_qN I i = false := by
          unfold h_qN
          rw [ha7, hb7, decide_eq_true t2]
          rfl
        intro y (hy : y = I' 141 8) _
        have hor : x_or2 y ((2 ^ i : Nat) : Int) = (h_set (h_qS I) (i + 1) : Nat) := by
          rw [xh_or (hy.trans hs), h_set_s, hqS, if_pos rfl]
        refine And.intro ⟨rfl, by omega, by omega⟩ ?_
        refine And.intro ⟨by omega, Int.natCast_nonneg _⟩ ?_
        refine And.intro (show -2147483648 ≤ x_or2 y ((2 ^ i : Nat) : Int) ∧ x_or2 y ((2 ^ i : Nat) : Int) ≤ 2147483647 by rw [hor]; omega) ?_
        exact Or.inl ⟨by omega, 8 - (i + 1), [(0, xR 142), (1, .inl ((i + 1 : Nat) : Int))], by omega, ⟨rfl, rfl, trivial⟩, rfl, rfl, (fun r k hn2 => (x_u_if _ _ _ _ _ _).trans ((if_neg (fun q => hn2 ⟨q.1, Or.inl q.2⟩)).trans (hf r k hn2))), i + 1, by omega, rfl, rfl, (x_u_s _ _ _ _).trans hor, (x_u_k (show (9 : Nat) ≠ 8 by decide)).trans (by rw [hn, h_set_s, hqN, if_neg (by decide), Nat.or_zero])⟩
/-! waysToHaveLain -/
def h_how (I : xF) : Prop := ∀ c : Nat, (c : Int) < I 4 2 → 0 ≤ I 7 c ∧ I 7 c < I 4 1
def xr_wl : xPre := fun za I _ => za = [xR 142, xR 2] ∧ (0 ≤ I 1 2 ∧ I 1 2 ≤ 940) ∧ (0 ≤ I 4 1 ∧ I 4 1 ≤ 6) ∧ (0 ≤ I 4 2 ∧ I 4 2 ≤ 8) ∧ h_how I
def xo_wl : xPost := fun _ I L rv I' L' => L' = L ∧ (∀ r k, r ≠ 141 → r ≠ 143 → r ≠ 144 → I' r k = I r k) ∧ ∃ x : Int, rv = some (.inl x) ∧ h_out (I 2) (I 7) (I 1 2) (I 4 0) (I 4 1) (I 4 2) x (I' 141 8) (I' 141 9) (I 141 8) (I 141 9)
def xh_wI (za : List xV) (I L : xF) (n pc : Nat) (lv : List (Nat × xV)) (sv : List xV) (I' L' : xF) : Prop := sv = [] ∧ L' = L ∧ xh_fr I I' ∧ (I 1 2 = I 4 0 ∧ I 1 2 ≠ 0 ∧ I 4 0 ≤ 8) ∧ h_ok (I 2) (I 1 2) (I 4 1) ∧ (∀ j : Nat, j < 6 → I' 143 j = h_cnt (I 2) (I 1 2).toNat (j : Int)) ∧ (∀ j : Nat, j < 6 → I' 144 j = h_cnt (I 7) (I 4 2).toNat (j : Int)) ∧ ∃ m : Nat, (m : Int) ≤ I 4 1 ∧
  ((pc = 38 ∧ n = 20 * (7 - m) ∧ lv = [(0, xR 142), (1, xR 2), (2, .inl (h_ways (I 2) (I 7) (I 1 2).toNat (I 4 2).toNat m)), (3, .inl (m : Int))]) ∨
   (pc = 52 ∧ (m : Int) < I 4 1 ∧ ∃ k : Nat, (k : Int) ≤ h_cnt (I 2) (I 1 2).toNat (m : Int) ∧ n = 20 * (7 - m) - 1 - k ∧ lv = [(0, xR 142), (1, xR 2), (2, .inl (h_pi (h_ways (I 2) (I 7) (I 1 2).toNat (I 4 2).toNat m) (h_cnt (I 7) (I 4 2).toNat (m : Int)) k)), (3, .inl (m : Int)), (4, .inl (k : Int))]))
set_option maxHeartbeats 4000000 in
theorem xk_wl (hE : z_EX EX) : x_Ok EX l zTB zNT kc D vwCl xb yTY ad yP0 18 2 xr_wl xo_wl := by
  refine x_loop2 (ct := x_ctl [(19, 1, (fun za I L => xr_ch za I L ∧ 0 ≤ I 4 2 ∧ I 4 2 ≤ 8 ∧ I 4 1 ≤ 6), xo_ch), (20, 0, xr_tw2, xo_tw2)]) (M := ym_X1_waysToHaveLain) hE y_prog 80 rfl (by decide) (x_ctl_cons (xk_ch hE) (x_ctl_cons (xk_tow hE) x_ctl_nil)) (fun za I L ⟨h, _⟩ => by subst h; exact (by decide : 2 ≤ 5)) (x_cut2 38 52) xh_wI (fun za I L ⟨h, h1, h2, h3, how⟩ => ?_) (fun za I L ⟨_, h1, h2, h3, how⟩ n pc lv sv I' L' hc hi => ?_)
  · subst h
    intro z0 (hz0 : z0 = I 4 0) (bz0 : 0 ≤ z0 ∧ z0 ≤ 8)
    refine And.intro ?_ ?_
    · intro t1
      exact ⟨rfl, (fun _ _ _ _ _ => rfl), -1, rfl, Or.inl ⟨by
        by_cases q : I 1 2 = 0
        · exact Or.inl q
        · exact Or.inr (Or.inl (by omega)), rfl, rfl, rfl⟩⟩
    · intro t1
      intro z1 (hz1 : z1 = I 1 2) _
      intro z2 (hz2 : z2 = I 4 0) _
      refine And.intro ?_ ?_
      · intro t2
        exact ⟨rfl, (fun _ _ _ _ _ => rfl), -1, rfl, Or.inl ⟨Or.inr (Or.inl (by omega)), rfl, rfl, rfl⟩⟩
      · intro t2
        refine And.intro ⟨⟨rfl, h1⟩, h3.1, h3.2, h2.2⟩ ?_
        rintro rv I1 L1 ⟨rfl, hf, ⟨rfl, hok, hh, ho⟩ | ⟨rfl, hok⟩⟩
        · refine And.intro (fun _ => ?_) (fun q => absurd q (by decide))
          exact ⟨140, [(0, xR 142), (1, xR 2), (2, .inl 1), (3, .inl ((0 : Nat) : Int))], ⟨rfl, rfl, rfl, rfl, trivial⟩, rfl, rfl, hf, ⟨by omega, by omega, by omega⟩, hok, hh, ho, 0, by omega, Or.inl ⟨rfl, rfl, rfl⟩⟩
        · refine And.intro (fun q => absurd rfl q) (fun _ => ?_)
          exact ⟨rfl, (fun r k _ n2 n3 => hf r k n2 n3), -1, rfl, Or.inl ⟨Or.inr (Or.inr hok), rfl, hf 141 8 (by decide) (by decide), hf 141 9 (by decide) (by decide)⟩⟩
  · obtain ⟨rfl, rfl, hf, hS, hok, hh, ho, m, hm, ⟨rfl, rfl, rfl⟩ | ⟨rfl, hm2, k, hk, rfl, rfl⟩⟩ := hi
    · intro z (hz2 : z = I' 4 1) (bz : 0 ≤ z ∧ z ≤ 6)
      have hz3 : z = I 4 1 := hz2.trans (hf 4 1 (by decide) (by decide))
      have hwb := h_way_in (bt := I 2) (o := I 7) (S := (I 1 2).toNat) (n := (I 4 2).toNat) (m := m) (k := 0) (by omega) (by omega) (h_cnt_b _ _ _).1
      have hwb : 0 ≤ h_ways (I 2) (I 7) (I 1 2).toNat (I 4 2).toNat m ∧ h_ways (I 2) (I 7) (I 1 2).toNat (I 4 2).toNat m ≤ 16777216 := hwb
      refine And.intro ?_ ?_
      · intro t1
        have hmn : m = (I 4 1).toNat := by omega
        have hnb : ¬ h_bad (I 2) (I 1 2) (I 4 0) (I 4 1) := by
          rintro (q | q | q)
          · exact hS.2.1 q
          · exact q hS.1
          · exact q hok
        refine And.intro ?_ ?_
        · intro t2
          exact ⟨rfl, (fun r k _ n2 n3 => hf r k n2 n3), _, rfl, Or.inr ⟨hnb, by rw [hmn], Or.inr ⟨t2, hf 141 8 (by decide) (by decide), hf 141 9 (by decide) (by decide)⟩⟩⟩
        · intro t2
          have e42 : I' 4 2 = I 4 2 := hf 4 2 (by decide) (by decide)
          refine And.intro ⟨rfl, by rw [e42]; exact h3.1, by rw [e42]; exact h3.2⟩ ?_
          rintro rv I1 L1 ⟨rfl, rfl, hf2, hs2, hn2⟩
          rw [e42] at hs2 hn2
          have hcell : ∀ c, c < (I 4 2).toNat → I' 143 (I' 7 c).toNat = h_cnt (I 2) (I 1 2).toNat (I 7 c) ∧ I' 144 (I' 7 c).toNat = h_cnt (I 7) (I 4 2).toNat (I 7 c) := fun c hc9 => by
            have h9 := how c (by omega)
            rw [hf 7 c (by decide) (by decide), hh _ (by omega), ho _ (by omega), show (((I 7 c).toNat : Nat) : Int) = I 7 c by omega]
            exact ⟨rfl, rfl⟩
          have eS : h_set (h_qS I') (I 4 2).toNat = h_set (h_pS (I 2) (I 7) (I 1 2).toNat (I 4 2).toNat) (I 4 2).toNat := h_set_congr (fun c hc9 => by
            unfold h_qS h_pS
            rw [(hcell c hc9).1, (hcell c hc9).2])
          have eN : h_set (h_qN I') (I 4 2).toNat = h_set (h_pN (I 2) (I 7) (I 1 2).toNat (I 4 2).toNat) (I 4 2).toNat := h_set_congr (fun c hc9 => by
            unfold h_qN h_pN
            rw [(hcell c hc9).1, (hcell c hc9).2])
          exact ⟨rfl, (fun r k n1 n2 n3 => (hf2 r k (fun q => n1 q.1)).trans (hf r k n2 n3)), _, rfl, Or.inr ⟨hnb, by rw [hmn], Or.inl ⟨t2, by rw [hs2, eS], by rw [hn2, eN]⟩⟩⟩
      · intro t1
        exact ⟨20 * (7 - m) - 1 - 0, [(0, xR 142), (1, xR 2), (2, .inl (h_ways (I 2) (I 7) (I 1 2).toNat (I 4 2).toNat m)), (3, .inl (m : Int)), (4, .inl ((0 : Nat) : Int))], by omega, ⟨rfl, rfl, rfl, rfl, rfl, trivial⟩, rfl, rfl, hf, hS, hok, hh, ho, m, hm, Or.inr ⟨rfl, by omega, 0, (h_cnt_b _ _ _).1, rfl, rfl⟩⟩
    · have hcb := h_cnt_b (I 2) (I 1 2).toNat (m : Int)
      refine And.intro (show 0 ≤ (m : Int) ∧ (m : Int) < 6 by omega) ?_
      intro a ha _
      have ha : a = I' 143 m := ha
      have ha : a = h_cnt (I 2) (I 1 2).toNat (m : Int) := ha.trans (hh m (by omega))
      refine And.intro ?_ ?_
      · intro t1
        have hke : k = (h_cnt (I 2) (I 1 2).toNat (m : Int)).toNat := by omega
        refine Or.inl ⟨by omega, ?_⟩
        exact ⟨20 * (7 - (m + 1)), [(0, xR 142), (1, xR 2), (2, .inl (h_ways (I 2) (I 7) (I 1 2).toNat (I 4 2).toNat (m + 1))), (3, .inl ((m + 1 : Nat) : Int))], by omega, ⟨rfl, rfl, by rw [h_ways_s, ← hke]; rfl, rfl, trivial⟩, rfl, rfl, hf, hS, hok, hh, ho, m + 1, by omega, Or.inl ⟨rfl, rfl, rfl⟩⟩
      · intro t1
        refine And.intro (show 0 ≤ (m : Int) ∧ (m : Int) < 6 by omega) ?_
        intro b hb _
        have hb : b = I' 144 m := hb
        have hb : b = h_cnt (I 7) (I 4 2).toNat (m : Int) := hb.trans (ho m (by omega))
        have hbb := h_cnt_b (I 7) (I 4 2).toNat (m : Int)
        refine Or.inl ⟨by omega, ?_⟩
        intro z zp zn
        have hzf : z = if 0 < b - (k : Int) then b - (k : Int) else 0 := by
          by_cases q : 0 < b - (k : Int)
          · rw [if_pos q]; exact zp q
          · rw [if_neg q]; exact zn q
        have hnext : h_pi (h_ways (I 2) (I 7) (I 1 2).toNat (I 4 2).toNat m) (h_cnt (I 7) (I 4 2).toNat (m : Int)) k * z = h_pi (h_ways (I 2) (I 7) (I 1 2).toNat (I 4 2).toNat m) (h_cnt (I 7) (I 4 2).toNat (m : Int)) (k + 1) := by rw [h_pi_s, hzf, hb]
        have hwb := h_way_in (bt := I 2) (o := I 7) (S := (I 1 2).toNat) (n := (I 4 2).toNat) (m := m) (k := k + 1) (by omega) (by omega) (by omega)
        rw [← hnext] at hwb
        refine Or.inl ⟨by omega, ?_⟩
        refine Or.inl ⟨by omega, ?_⟩
        exact ⟨20 * (7 - m) - 1 - (k + 1), [(0, xR 142), (1, xR 2), (2, .inl (h_pi (h_ways (I 2) (I 7) (I 1 2).toNat (I 4 2).toNat m) (h_cnt (I 7) (I 4 2).toNat (m : Int)) (k + 1))), (3, .inl (m : Int)), (4, .inl ((k + 1 : Nat) : Int))], by omega, ⟨rfl, rfl, congrArg (fun q => some (Sum.inl q)) hnext, rfl, rfl, trivial⟩, rfl, rfl, hf, hS, hok, hh, ho, m, hm, Or.inr ⟨rfl, hm2, k + 1, by omega, rfl, rfl⟩⟩
/-! hooks, surely, never of the class -/
def xr_hk : xPre := fun za I _ => za = [xR 1] ∧ (0 ≤ I 1 2 ∧ I 1 2 ≤ 940) ∧ (0 ≤ I 4 1 ∧ I 4 1 ≤ 6) ∧ (0 ≤ I 4 2 ∧ I 4 2 ≤ 8) ∧ h_how I
def xo_hk : xPost := fun _ I L rv I' L' => I' 1 2 = 0 ∧ ∃ x : Int, rv = some (.inl x) ∧ h_out (I 2) (I 7) (I 1 2) (I 4 0) (I 4 1) (I 4 2) x (I' 141 8) (I' 141 9) (I 141 8) (I 141 9)
theorem xk_hk (hE : z_EX EX) : x_Ok EX l zTB zNT kc D vwCl xb yTY ad yP0 141 3 xr_hk xo_hk := by
  refine x_meth2 (ct := x_ctl [(18, 2, xr_wl, xo_wl)]) (M := ym_X11_hooks) hE y_prog 30 rfl (by decide) (x_ctl_cons (xk_wl hE) x_ctl_nil) (fun za I L ⟨h, _⟩ => by subst h; exact (by decide : 1 ≤ 2)) (fun za I L ⟨h, h1⟩ => ?_)
  subst h
  refine And.intro ⟨rfl, h1⟩ ?_
  rintro rv I1 L1 ⟨rfl, hf, x, rfl, ho⟩
  refine And.intro (by decide) ?_
  exact ⟨rfl, x, rfl, ho⟩
def xr_1 : xPre := fun za _ _ => za = [xR 1]
def xo_su : xPost := fun _ I L rv I' L' => I' = I ∧ L' = L ∧ rv = some (.inl (I 141 8))
theorem xk_su (hE : z_EX EX) : x_Ok EX l zTB zNT kc D vwCl xb yTY ad yP0 142 0 xr_1 xo_su := by
  refine x_meth (M := ym_X11_surely) hE y_prog 30 rfl (by decide) x_none_ok (fun za I L h => by subst h; exact (by decide : 1 ≤ 1)) (fun za I L h => ?_)
  subst h
  intro z (hz : z = I 141 8) _
  exact ⟨rfl, rfl, by rw [hz]⟩
def xo_ne : xPost := fun _ I L rv I' L' => I' = I ∧ L' = L ∧ rv = some (.inl (I 141 9))
theorem xk_ne (hE : z_EX EX) : x_Ok EX l zTB zNT kc D vwCl xb yTY ad yP0 143 0 xr_1 xo_ne := by
  refine x_meth (M := ym_X11_never) hE y_prog 30 rfl (by decide) x_none_ok (fun za I L h => by subst h; exact (by decide : 1 ≤ 1)) (fun za I L h => ?_)
  subst h
  intro z (hz : z = I 141 9) _
  exact ⟨rfl, rfl, by rw [hz]⟩
/-! the reference -/
def h_lat (has v : Int) : Int := if has = 0 then -1 else v
def xo_sum : xPost := fun _ I L rv I' L' => I' = x_u I 209 0 0 ∧ L' = L ∧ rv = some (.inl (h_lat (I 209 31) (I 209 29)))
theorem xk_sum (hE : z_EX EX) : x_Ok EX l zTB zNT kc D vwCl xb yTY ad yP0 250 0 xr_m xo_sum := by
  refine x_meth (M := ym_X12_surely) hE y_prog 30 rfl (by decide) x_none_ok (fun za I L h => by subst h; exact (by decide : 1 ≤ 1)) (fun za I L h => ?_)
  subst h
  refine And.intro (by decide) ?_
  intro z (hz : z = I 209 31) _
  refine And.intro ?_ ?_
  · intro t1
    refine ⟨rfl, rfl, ?_⟩
    unfold h_lat
    rw [if_pos (by omega)]
  · intro t1 y (hy : y = I 209 29) _
    refine ⟨rfl, rfl, ?_⟩
    unfold h_lat
    rw [if_neg (by omega), hy]
def xo_nem : xPost := fun _ I L rv I' L' => I' = x_u I 209 0 0 ∧ L' = L ∧ rv = some (.inl (h_lat (I 209 31) (I 209 30)))
theorem xk_nem (hE : z_EX EX) : x_Ok EX l zTB zNT kc D vwCl xb yTY ad yP0 251 0 xr_m xo_nem := by
  refine x_meth (M := ym_X12_never) hE y_prog 30 rfl (by decide) x_none_ok (fun za I L h => by subst h; exact (by decide : 1 ≤ 1)) (fun za I L h => ?_)
  subst h
  refine And.intro (by decide) ?_
  intro z (hz : z = I 209 31) _
  refine And.intro ?_ ?_
  · intro t1
    refine ⟨rfl, rfl, ?_⟩
    unfold h_lat
    rw [if_pos (by omega)]
  · intro t1 y (hy : y = I 209 30) _
    refine ⟨rfl, rfl, ?_⟩
    unfold h_lat
    rw [if_neg (by omega), hy]
def xr_gr : xPre := fun za _ _ => ∃ a b : Int, za = [.inl a, .inl b]
def xo_gr : xPost := fun za I L rv I' L' => I' = I ∧ L' = L ∧ ∃ a b : Int, za = [.inl a, .inl b] ∧ rv = some (.inl (if a ≤ b then b else a))
theorem xk_gr (hE : z_EX EX) : x_Ok EX l zTB zNT kc D vwCl xb yTY ad yP0 168 0 xr_gr xo_gr := by
  refine x_meth (M := ym_X12_greater) hE y_prog 30 rfl (by decide) x_none_ok (fun za I L ⟨a, b, h⟩ => by subst h; exact (by decide : 2 ≤ 2)) (fun za I L ⟨a, b, h⟩ => ?_)
  subst h
  refine And.intro ?_ ?_
  · intro t1
    exact ⟨rfl, rfl, a, b, rfl, by rw [if_pos t1]⟩
  · intro t1
    exact ⟨rfl, rfl, a, b, rfl, by rw [if_neg (by omega)]⟩
def xr_oc : xPre := fun za _ _ => ∃ k : Nat, za = [xR 210, .inl (k : Int)] ∧ k < 940
def xo_oc : xPost := fun za I L rv I' L' => I' = I ∧ L' = L ∧ ∃ k : Nat, za = [xR 210, .inl (k : Int)] ∧ rv = some (.inl (r_b I k))
theorem xk_oc (hE : z_EX EX) : x_Ok EX l zTB zNT kc D vwCl xb yTY ad yP0 170 0 xr_oc xo_oc := by
  refine x_meth (M := ym_X12_octet) hE y_prog 30 rfl (by decide) x_none_ok (fun za I L ⟨k, h, _⟩ => by subst h; exact (by decide : 2 ≤ 2)) (fun za I L ⟨k, h, hk⟩ => ?_)
  subst h
  refine And.intro (show 0 ≤ (k : Int) ∧ (k : Int) < 940 by omega) ?_
  intro z hz _
  have hz : z = I 210 k := hz
  refine Or.inl ⟨rfl, ?_⟩
  refine ⟨rfl, rfl, k, rfl, ?_⟩
  rw [hz]
  rfl
def xr_ism : xPre := fun za _ _ => ∃ m : Int, za = [xR 210, .inl m]
def xo_ism : xPost := fun za I L rv I' L' => I' = I ∧ L' = L ∧ ∃ m : Int, za = [xR 210, .inl m] ∧ ((0 ≤ m ∧ m < I 211 1 ∧ rv = some (.inl 1)) ∨ ((m < 0 ∨ I 211 1 ≤ m) ∧ rv = some (.inl 0)))
set_option maxRecDepth 20000 in
theorem xk_ism (hE : z_EX EX) : x_Ok EX l zTB zNT kc D vwCl xb yTY ad yP0 193 1 xr_ism xo_ism := by
  refine x_meth (ct := x_ctl [(166, 0, xr_ii, xo_ii)]) (M := ym_X12_isMan) hE y_prog 30 rfl (by decide) (x_ctl_cons (xk_ii hE) x_ctl_nil) (fun za I L ⟨m, h⟩ => by subst h; exact (by decide : 2 ≤ 2)) (fun za I L ⟨m, h⟩ => ?_)
  subst h
  refine And.intro (by decide) ?_
  intro z (hz : z = I 211 1) hs
  have bz : 0 ≤ z ∧ z ≤ 6 := hs (0, 6) rfl
  refine Or.inl ⟨by omega, ?_⟩
  refine And.intro ⟨m, 0, z - 1, rfl⟩ ?_
  rintro rv I1 L1 ⟨g1, g2, v, a, b, hx, ⟨e1, e2, rfl⟩ | ⟨e1, rfl⟩⟩
  · subst g1
    subst g2
    cases hx
    exact ⟨by decide, rfl, rfl, m, rfl, Or.inl ⟨e1, by omega, rfl⟩⟩
  · subst g1
    subst g2
    cases hx
    exact ⟨by decide, rfl, rfl, m, rfl, Or.inr ⟨by omega, rfl⟩⟩
def xr_bt : xPre := fun za _ _ => ∃ v : Nat, za = [.inl (v : Int)] ∧ v < 256
def xo_bt : xPost := fun za I L rv I' L' => I' = I ∧ L' = L ∧ ∃ v : Nat, za = [.inl (v : Int)] ∧ rv = some (.inl (h_pc v : Nat))
theorem xk_bt (hE : z_EX EX) : x_Ok EX l zTB zNT kc D vwCl xb yTY ad yP0 169 0 xr_bt xo_bt := by
  refine x_loop2 (M := ym_X12_bits) hE y_prog 40 rfl (by decide) x_none_ok (fun za I L ⟨v, h, _⟩ => by subst h; exact (by decide : 1 ≤ 3)) (x_cut1 4) (fun za I L n pc lv sv I' L' => I' = I ∧ L' = L ∧ sv = [] ∧ ∃ v w i : Nat, za = [.inl (v : Int)] ∧ w < 256 ∧ i + h_pc w = h_pc v ∧ i ≤ 8 ∧ n = w ∧ lv = [(0, .inl (v : Int)), (1, .inl (i : Int)), (2, .inl (w : Int))]) (fun za I L ⟨v, h, hv⟩ => ?_) (fun za I L _ n pc lv sv I' L' hc hi => ?_)
  · subst h
    exact ⟨v, [(0, .inl (v : Int)), (1, .inl ((0 : Nat) : Int)), (2, .inl (v : Int))], ⟨rfl, rfl, rfl, trivial⟩, rfl, rfl, rfl, v, v, 0, rfl, hv, by omega, by omega, rfl, rfl⟩
  · obtain rfl := x_cut1_ok hc
    obtain ⟨rfl, rfl, rfl, v, w, i, rfl, hw, hp, hi8, rfl, rfl⟩ := hi
    refine And.intro ?_ ?_
    · intro t1
      have hw0 : n = 0 := by omega
      subst hw0
      have h0 : h_pc 0 = 0 := by decide
      refine ⟨rfl, rfl, v, rfl, ?_⟩
      rw [show h_pc v = i by omega]
    · intro t1
      have hw0 : n ≠ 0 := fun q => t1 (by rw [q]; rfl)
      obtain ⟨e1, e2⟩ := h_pc_and ⟨n, hw⟩ hw0
      dsimp only at e1 e2
      have h8 : h_pc v ≤ 8 := by
        unfold h_pc
        exact Nat.le_trans (List.length_filter_le _ _) (by decide)
      refine Or.inl ⟨by omega, ?_⟩
      refine Or.inl ⟨by omega, ?_⟩
      refine Or.inr ⟨by omega, by omega, ?_⟩
      have hand : x_and2 (n : Int) ((n : Int) - 1) = ((n &&& (n - 1) : Nat) : Int) := by
        unfold x_and2
        rw [Int.toNat_natCast, show ((n : Int) - 1).toNat = n - 1 by omega]
      exact ⟨n &&& (n - 1), [(0, .inl (v : Int)), (1, .inl ((i + 1 : Nat) : Int)), (2, .inl ((n &&& (n - 1) : Nat) : Int))], e2, ⟨rfl, rfl, congrArg (fun q => some (Sum.inl q)) hand, trivial⟩, rfl, rfl, rfl, v, n &&& (n - 1), i + 1, rfl, by omega, by omega, by omega, rfl, rfl⟩
/-! hooks() of the reference -/
def xr_hkm : xPre := fun za I _ => za = [xR 210] ∧ (0 ≤ I 209 2 ∧ I 209 2 ≤ 940) ∧ (0 ≤ I 211 0 ∧ I 211 0 ≤ 8) ∧ (0 ≤ I 211 1 ∧ I 211 1 ≤ 6) ∧ (0 ≤ I 211 2 ∧ I 211 2 ≤ 8) ∧ ∀ c : Nat, (c : Int) < I 211 2 → 0 ≤ I 211 (22 + c) ∧ I 211 (22 + c) < I 211 1
def xh_om (I : xF) : Nat → Int := fun c => I 211 (22 + c)
/-- the latest sets, told as the class tells them -/
def xo_hkm : xPost := fun _ I L rv I' L' => ∃ x : Int, rv = some (.inl x) ∧ h_out (r_b I) (xh_om I) (I 209 2) (I 211 0) (I 211 1) (I 211 2) x (h_lat (I' 209 31) (I' 209 29)) (h_lat (I' 209 31) (I' 209 30)) (h_lat (I 209 31) (I 209 29)) (h_lat (I 209 31) (I 209 30))
def xh_qS (I : xF) (m : Nat) : Bool := decide (h_cnt (r_b I) (I 209 2).toNat (m : Int) = h_cnt (xh_om I) (I 211 2).toNat (m : Int))
def xh_qN (I : xF) (m : Nat) : Bool := decide (h_cnt (r_b I) (I 209 2).toNat (m : Int) = 0)
def xh_hs (I : xF) (m : Nat) : Nat := h_his (xh_om I) (I 211 2).toNat m
def xh_w (I : xF) (m : Nat) : Int := h_ways (r_b I) (xh_om I) (I 209 2).toNat (I 211 2).toNat m
/-- what holds all along -/
def xh_kb (I I' : xF) : Prop := (∀ k, I' 210 k = I 210 k) ∧ (∀ k, I' 211 k = I 211 k) ∧ I' 209 3 = I 209 2 ∧ I' 209 29 = I 209 29 ∧ I' 209 30 = I 209 30 ∧ I' 209 31 = I 209 31
def xh_mI (za : List xV) (I L : xF) (n pc : Nat) (lv : List (Nat × xV)) (sv : List xV) (I' L' : xF) : Prop := sv = [] ∧ L' = L ∧ xh_kb I I' ∧ (I 209 2 = I 211 0 ∧ I 209 2 ≠ 0) ∧
  ((pc = 36 ∧ ∃ i : Nat, i ≤ 6 ∧ n = 3000 - i ∧ lv = [(0, xR 210), (1, .inl (i : Int))] ∧ ∀ j, j < i → I' 218 j = 0) ∨
   (pc = 57 ∧ ∃ i : Nat, (i : Int) ≤ I 209 2 ∧ n = 2000 - i ∧ lv = [(0, xR 210), (1, .inl (i : Int))] ∧ (∀ k : Nat, k < i → h_okb (I 211 1) (r_b I k)) ∧ ∀ j : Nat, j < 6 → I' 218 j = h_cnt (r_b I) i (j : Int)) ∨
   (h_ok (r_b I) (I 209 2) (I 211 1) ∧ (∀ j : Nat, j < 6 → I' 218 j = h_cnt (r_b I) (I 209 2).toNat (j : Int)) ∧ ∃ m : Nat, (m : Int) ≤ I 211 1 ∧
     ((pc = 128 ∧ n = 50 * (7 - m) ∧ lv = [(0, xR 210), (1, .inl (xh_w I m)), (2, .inl (h_u (xh_qS I) (xh_hs I) m : Nat)), (3, .inl (h_u (xh_qN I) (xh_hs I) m : Nat)), (4, .inl (m : Int))]) ∨
      ((m : Int) < I 211 1 ∧ ((pc = 145 ∧ ∃ c : Nat, (c : Int) ≤ I 211 2 ∧ n = 50 * (7 - m) - 1 - c ∧ lv = [(0, xR 210), (1, .inl (xh_w I m)), (2, .inl (h_u (xh_qS I) (xh_hs I) m : Nat)), (3, .inl (h_u (xh_qN I) (xh_hs I) m : Nat)), (4, .inl (m : Int)), (5, .inl (h_set (fun c => decide (xh_om I c = (m : Int))) c : Nat)), (6, .inl (c : Int))]) ∨
        (pc = 193 ∧ ∃ k : Nat, (k : Int) ≤ h_cnt (r_b I) (I 209 2).toNat (m : Int) ∧ n = 50 * (7 - m) - 20 - k ∧ lv = [(0, xR 210), (1, .inl (h_pi (xh_w I m) (h_cnt (xh_om I) (I 211 2).toNat (m : Int)) k)), (2, .inl (h_u (xh_qS I) (xh_hs I) m : Nat)), (3, .inl (h_u (xh_qN I) (xh_hs I) m : Nat)), (4, .inl (m : Int)), (5, .inl (xh_hs I m : Nat)), (6, .inl (k : Int))]))))))
def x_cutH : Nat → Bool := fun pc => Nat.beq pc 36 || (Nat.beq pc 57 || (Nat.beq pc 128 || (Nat.beq pc 145 || Nat.beq pc 193)))
def ct_hkm : List (Nat × Nat × xPre × xPost) := [(165, 0, xr_tn2, xo_tn2), (170, 0, xr_oc, xo_oc), (193, 1, xr_ism, xo_ism), (169, 0, xr_bt, xo_bt), (168, 0, xr_gr, xo_gr)]
theorem ct_hkm_ok (hE : z_EX EX) : x_ctok EX l zTB zNT kc D vwCl xb yTY ad yP0 (x_ctl ct_hkm) := x_ctl_cons (xk_tn2 hE) (x_ctl_cons (xk_oc hE) (x_ctl_cons (xk_ism hE) (x_ctl_cons (xk_bt hE) (x_ctl_cons (xk_gr hE) x_ctl_nil))))
theorem xh_or2 {a b : Nat} : x_or2 (a : Int) (b : Int) = ((a ||| b : Nat) : Int) := by
  unfold x_or2
  rw [Int.toNat_natCast, Int.toNat_natCast]
theorem xh_rb {I I' : xF} (h : xh_kb I I') : r_b I' = r_b I := funext (fun j => by
  unfold r_b
  rw [h.1])
set_option maxRecDepth 20000 in
set_option maxHeartbeats 8000000 in
theorem xk_hkm (hE : z_EX EX) : x_Ok EX l zTB zNT kc D vwCl xb yTY ad yP0 249 2 xr_hkm xo_hkm := by
  refine x_loop2 (M := ym_X12_hooks) hE y_prog 90 rfl (by decide) (ct_hkm_ok hE) (fun za I L ⟨h, _⟩ => by subst h; exact (by decide : 1 ≤ 7)) x_cutH xh_mI (fun za I L ⟨h, h1, h2, h3, h4, how⟩ => ?_) (fun za I L ⟨_, h1, h2, h3, h4, how⟩ n pc lv sv I' L' hc hi => ?_)
  · subst h
    refine And.intro (by decide) ?_
    refine And.intro ⟨940, rfl, by decide, by decide⟩ ?_
    rintro rv I1 L1 ⟨m, hm, rfl, rfl, rfl⟩
    cases hm
    have hkb : xh_kb I (x_u (x_u (x_u (x_u (x_u I 209 0 0) 209 3 (I 209 2)) 209 2 0) 209 4 0) 209 5 940) := ⟨fun k => rfl, fun k => rfl, rfl, rfl, rfl, rfl⟩
    intro z (hz : z = I 209 2) _
    refine And.intro ?_ ?_
    · intro t1
      exact ⟨-1, rfl, Or.inl ⟨Or.inl (by omega), rfl, rfl, rfl⟩⟩
    · intro t1 z2 (hz2 : z2 = I 209 2) _
      refine And.intro (by decide) ?_
      intro z3 (hz3 : z3 = I 211 0) _
      refine And.intro ?_ ?_
      · intro t2
        exact ⟨3000, [(0, xR 210), (1, .inl ((0 : Nat) : Int))], ⟨rfl, rfl, trivial⟩, rfl, rfl, hkb, ⟨by omega, by omega⟩, Or.inl ⟨rfl, 0, by omega, rfl, rfl, fun j hj => absurd hj (Nat.not_lt_zero j)⟩⟩
      · intro t2
        exact ⟨-1, rfl, Or.inl ⟨Or.inr (Or.inl (by omega)), rfl, rfl, rfl⟩⟩
  · obtain ⟨rfl, rfl, hkb, hS, hph⟩ := hi
    rcases hph with ⟨rfl, i, hi, rfl, rfl, hz⟩ | ⟨rfl, i, hi, rfl, rfl, hk, hh⟩ | ⟨hok, hh, m, hm, hph⟩
    · -- 36
      refine And.intro ?_ ?_
      · intro t1
        have h6 : i = 6 := by omega
        subst h6
        exact ⟨2000 - 0, [(0, xR 210), (1, .inl ((0 : Nat) : Int))], by omega, ⟨rfl, rfl, trivial⟩, rfl, rfl, hkb, hS, Or.inr (Or.inl ⟨rfl, 0, by omega, rfl, rfl, (fun k hk => absurd hk (Nat.not_lt_zero k)), fun j hj => hz j hj⟩)⟩
      · intro t1
        refine And.intro (show 0 ≤ (i : Int) ∧ (i : Int) < 6 by omega) ?_
        refine And.intro (fun q hq => ?_) ?_
        · rw [x_seg1 (by omega)] at hq
          cases hq
          exact ⟨by decide, by decide⟩
        have hz2 : ∀ j, j < i + 1 → x_u I' 218 ((i : Int)).toNat 0 218 j = 0 := fun j hj => by
          rw [x_u_if]
          by_cases hji : j = i
          · rw [if_pos (by omega)]
          · rw [if_neg (by omega)]
            exact hz j (by omega)
        exact Or.inl ⟨by omega, 3000 - (i + 1), [(0, xR 210), (1, .inl ((i + 1 : Nat) : Int))], by omega, ⟨rfl, rfl, trivial⟩, rfl, rfl, hkb, hS, Or.inl ⟨rfl, i + 1, by omega, rfl, rfl, hz2⟩⟩
    · -- 57
      intro z (hz2 : z = I' 209 3) _
      have hz3 : z = I 209 2 := hz2.trans hkb.2.2.1
      have e1 : I' 211 1 = I 211 1 := hkb.2.1 1
      refine And.intro ?_ ?_
      · intro t1
        have hin : i = (I 209 2).toNat := by omega
        exact ⟨50 * (7 - 0), [(0, xR 210), (1, .inl (xh_w I 0)), (2, .inl (h_u (xh_qS I) (xh_hs I) 0 : Nat)), (3, .inl (h_u (xh_qN I) (xh_hs I) 0 : Nat)), (4, .inl ((0 : Nat) : Int))], by omega, ⟨rfl, rfl, rfl, rfl, rfl, trivial⟩, rfl, rfl, hkb, hS, Or.inr (Or.inr ⟨(fun k hk2 => hk k (by omega)), (fun j hj => by rw [← hin]; exact hh j hj), 0, by omega, Or.inl ⟨rfl, rfl, rfl⟩⟩)⟩
      · intro t1
        refine And.intro ⟨i, rfl, by omega⟩ ?_
        rintro rv I1 L1 ⟨g1, g2, k1, hx, rfl⟩
        subst g1
        subst g2
        have hx : ([xR 210, .inl (i : Int)] : List xV) = [xR 210, .inl (k1 : Int)] := hx
        simp only [List.cons.injEq, Sum.inl.injEq] at hx
        obtain rfl : k1 = i := by omega
        have hrb : r_b I1 k1 = r_b I k1 := congrFun (xh_rb hkb) k1
        have bb : 0 ≤ r_b I k1 ∧ r_b I k1 ≤ 255 := by
          unfold r_b
          omega
        have hnext : ∀ (J : xF), xh_kb I J → h_okb (I 211 1) (r_b I k1) → (∀ j : Nat, j < 6 → J 218 j = h_cnt (r_b I) (k1 + 1) (j : Int)) → xh_mI [xR 210] I L1 (2000 - (k1 + 1)) 57 [(0, xR 210), (1, .inl ((k1 + 1 : Nat) : Int))] [] J L1 := fun J hJ ho hc9 => ⟨rfl, rfl, hJ, hS, Or.inr (Or.inl ⟨rfl, k1 + 1, by omega, rfl, rfl, (fun k hk2 => by
          rcases Nat.lt_or_ge k k1 with g | g
          · exact hk k g
          · obtain rfl : k = k1 := by omega
            exact ho), hc9⟩)⟩
        refine And.intro ?_ ?_
        · intro t2
          have h9 : r_b I k1 = 9 := by rw [← hrb]; exact t2
          refine And.intro ⟨k1, rfl, by omega⟩ ?_
          rintro rv I2 L2 ⟨g1, g2, k2, hx2, rfl⟩
          subst g1
          subst g2
          have hx2 : ([xR 210, .inl (k1 : Int)] : List xV) = [xR 210, .inl (k2 : Int)] := hx2
          simp only [List.cons.injEq, Sum.inl.injEq] at hx2
          obtain rfl : k2 = k1 := by omega
          refine And.intro ?_ ?_
          · intro t3
            exact Or.inl ⟨by omega, 2000 - (k2 + 1), [(0, xR 210), (1, .inl ((k2 + 1 : Nat) : Int))], by omega, ⟨rfl, rfl, trivial⟩, hnext I2 hkb (Or.inl h9) (fun j hj => by
              rw [h_cnt_s, h9, if_neg (by omega), hh j hj]
              omega)⟩
          · intro t3
            exact absurd t2 t3
        · intro t2
          have hn9 : r_b I k1 ≠ 9 := by rw [← hrb]; exact t2
          refine And.intro ⟨k1, rfl, by omega⟩ ?_
          rintro rv I2 L2 ⟨g1, g2, k2, hx2, rfl⟩
          subst g1
          subst g2
          have hx2 : ([xR 210, .inl (k1 : Int)] : List xV) = [xR 210, .inl (k2 : Int)] := hx2
          simp only [List.cons.injEq, Sum.inl.injEq] at hx2
          obtain rfl : k2 = k1 := by omega
          refine And.intro ⟨_, rfl⟩ ?_
          rintro rv I3 L3 ⟨g1, g2, m', hx3, ⟨d1, d2, rfl⟩ | ⟨d1, rfl⟩⟩
          · subst g1
            subst g2
            cases hx3
            rw [hrb] at d1
            rw [hrb, e1] at d2
            refine And.intro (fun _ => ?_) (fun q => absurd q (by decide))
            refine And.intro ⟨k2, rfl, by omega⟩ ?_
            rintro rv I4 L4 ⟨g1, g2, k3, hx4, rfl⟩
            subst g1
            subst g2
            have hx4 : ([xR 210, .inl (k2 : Int)] : List xV) = [xR 210, .inl (k3 : Int)] := hx4
            simp only [List.cons.injEq, Sum.inl.injEq] at hx4
            obtain rfl : k3 = k2 := by omega
            refine And.intro ?_ ?_
            · intro t3
              exact absurd t3 t2
            · intro t3
              refine And.intro ⟨k3, rfl, by omega⟩ ?_
              rintro rv I5 L5 ⟨g1, g2, k4, hx5, rfl⟩
              subst g1
              subst g2
              have hx5 : ([xR 210, .inl (k3 : Int)] : List xV) = [xR 210, .inl (k4 : Int)] := hx5
              simp only [List.cons.injEq, Sum.inl.injEq] at hx5
              obtain rfl : k4 = k3 := by omega
              rw [hrb]
              refine And.intro (show 0 ≤ r_b I k4 ∧ r_b I k4 < 6 by omega) ?_
              intro v hv _
              have hv : v = I5 218 (r_b I k4).toNat := hv
              have hv : v = h_cnt (r_b I) k4 (r_b I k4) := by
                rw [hv, hh _ (by omega), show (((r_b I k4).toNat : Nat) : Int) = r_b I k4 by omega]
              have bv := h_cnt_b (r_b I) k4 (r_b I k4)
              refine Or.inl ⟨by omega, ?_⟩
              refine And.intro (show 0 ≤ r_b I k4 ∧ r_b I k4 < 6 by omega) ?_
              refine And.intro (fun q hq => ?_) ?_
              · rw [x_seg1 (by omega)] at hq
                cases hq
                exact (show -2147483648 ≤ v + 1 ∧ v + 1 ≤ 2147483647 by omega)
              have hkb2 : xh_kb I (x_u I5 218 (r_b I k4).toNat (v + 1)) := hkb
              exact Or.inl ⟨by omega, 2000 - (k4 + 1), [(0, xR 210), (1, .inl ((k4 + 1 : Nat) : Int))], by omega, ⟨rfl, rfl, trivial⟩, hnext _ hkb2 (Or.inr ⟨d1, d2⟩) (fun j hj => by
                rw [x_u_if, h_cnt_s]
                by_cases hjw : j = (r_b I k4).toNat
                · rw [if_pos ⟨rfl, hjw⟩, if_pos (by omega), show (j : Int) = r_b I k4 by omega, hv]
                · rw [if_neg (fun q => hjw q.2), if_neg (by omega), hh j hj]
                  omega)⟩
          · subst g1
            subst g2
            cases hx3
            rw [hrb, e1] at d1
            refine And.intro (fun q => absurd rfl q) (fun _ => ?_)
            refine ⟨-1, rfl, Or.inl ⟨Or.inr (Or.inr (fun q => ?_)), rfl, ?_, ?_⟩⟩
            · rcases q k2 (by omega) with h9 | h9
              · exact hn9 h9
              · omega
            · rw [hkb.2.2.2.1, hkb.2.2.2.2.2]
            · rw [hkb.2.2.2.2.1, hkb.2.2.2.2.2]
    · have e1 : I' 211 1 = I 211 1 := hkb.2.1 1
      have e2 : I' 211 2 = I 211 2 := hkb.2.1 2
      have hbs : ∀ m, xh_hs I m < 256 := fun m => h_set_8 _ (by omega)
      have huS : ∀ m, h_u (xh_qS I) (xh_hs I) m < 256 := fun m => h_u_lt hbs m
      have huN : ∀ m, h_u (xh_qN I) (xh_hs I) m < 256 := fun m => h_u_lt hbs m
      rcases hph with ⟨rfl, rfl, rfl⟩ | ⟨hm2, ⟨rfl, c, hc9, rfl, rfl⟩ | ⟨rfl, k, hk, rfl, rfl⟩⟩
      · -- 128
        refine And.intro (by decide) ?_
        intro z (hz : z = I' 211 1) _
        refine And.intro ?_ ?_
        · intro t1
          have hmn : m = (I 211 1).toNat := by omega
          have hnb : ¬ h_bad (r_b I) (I 209 2) (I 211 0) (I 211 1) := by
            rintro (q | q | q)
            · exact hS.2 q
            · exact q hS.1
            · exact q hok
          have hw0 := (h_ways_b (bt := r_b I) (o := xh_om I) (S := (I 209 2).toNat) (n := (I 211 2).toNat) (by omega) m).1
          refine And.intro ?_ ?_
          · intro t2
            refine And.intro (by decide) ?_
            refine And.intro (show 0 ≤ ((h_u (xh_qS I) (xh_hs I) m : Nat) : Int) ∧ ((h_u (xh_qS I) (xh_hs I) m : Nat) : Int) ≤ 255 by have := huS m; omega) ?_
            refine And.intro (show 0 ≤ ((h_u (xh_qN I) (xh_hs I) m : Nat) : Int) ∧ ((h_u (xh_qN I) (xh_hs I) m : Nat) : Int) ≤ 255 by have := huN m; omega) ?_
            have hoM : ∀ c, c < (I 211 2).toNat → 0 ≤ xh_om I c ∧ xh_om I c < (m : Int) := fun c hc9 => by
              have := how c (by omega)
              unfold xh_om
              omega
            have eS : h_u (xh_qS I) (xh_hs I) m = h_set (h_pS (r_b I) (xh_om I) (I 209 2).toNat (I 211 2).toNat) (I 211 2).toNat := h_u_his hoM (fun c hc9 => by
              have := hoM c hc9
              unfold h_pS xh_qS
              rw [show (((xh_om I c).toNat : Nat) : Int) = xh_om I c by omega])
            have eN : h_u (xh_qN I) (xh_hs I) m = h_set (h_pN (r_b I) (xh_om I) (I 209 2).toNat (I 211 2).toNat) (I 211 2).toNat := h_u_his hoM (fun c hc9 => by
              have := hoM c hc9
              have h9 := h_cnt_pos (f := xh_om I) hc9
              unfold h_pN xh_qN
              rw [show (((xh_om I c).toNat : Nat) : Int) = xh_om I c by omega]
              by_cases q : h_cnt (r_b I) (I 209 2).toNat (xh_om I c) = 0
              · rw [decide_eq_true q, decide_eq_false (by omega)]
                rfl
              · rw [decide_eq_false q, Bool.and_false])
            refine ⟨xh_w I m, rfl, Or.inr ⟨hnb, by rw [hmn]; rfl, Or.inl ⟨?_, ?_, ?_⟩⟩⟩
            · have hw0 : 0 ≤ xh_w I m := hw0
              omega
            · show h_lat 1 ((h_u (xh_qS I) (xh_hs I) m : Nat) : Int) = _
              unfold h_lat
              rw [if_neg (by decide), eS]
            · show h_lat 1 ((h_u (xh_qN I) (xh_hs I) m : Nat) : Int) = _
              unfold h_lat
              rw [if_neg (by decide), eN]
          · intro t2
            refine ⟨0, rfl, Or.inr ⟨hnb, ?_, Or.inr ⟨by omega, ?_, ?_⟩⟩⟩
            · rw [← hmn]
              exact t2.symm
            · rw [hkb.2.2.2.1, hkb.2.2.2.2.2]
            · rw [hkb.2.2.2.2.1, hkb.2.2.2.2.2]
        · intro t1
          exact ⟨50 * (7 - m) - 1 - 0, [(0, xR 210), (1, .inl (xh_w I m)), (2, .inl (h_u (xh_qS I) (xh_hs I) m : Nat)), (3, .inl (h_u (xh_qN I) (xh_hs I) m : Nat)), (4, .inl (m : Int)), (5, .inl (h_set (fun c => decide (xh_om I c = (m : Int))) 0 : Nat)), (6, .inl ((0 : Nat) : Int))], by omega, ⟨rfl, rfl, rfl, rfl, rfl, rfl, rfl, trivial⟩, rfl, rfl, hkb, hS, Or.inr (Or.inr ⟨hok, hh, m, hm, Or.inr ⟨by omega, Or.inl ⟨rfl, 0, by omega, rfl, rfl⟩⟩⟩)⟩
      · -- 145
        have hl9 := h_set_8 (fun c => decide (xh_om I c = (m : Int))) (show c ≤ 8 by omega)
        refine And.intro (by decide) ?_
        intro z (hz : z = I' 211 2) _
        refine And.intro ?_ ?_
        · intro t1
          have hcn : c = (I 211 2).toNat := by omega
          exact ⟨50 * (7 - m) - 20 - 0, [(0, xR 210), (1, .inl (xh_w I m)), (2, .inl (h_u (xh_qS I) (xh_hs I) m : Nat)), (3, .inl (h_u (xh_qN I) (xh_hs I) m : Nat)), (4, .inl (m : Int)), (5, .inl (xh_hs I m : Nat)), (6, .inl ((0 : Nat) : Int))], by omega, ⟨rfl, rfl, rfl, rfl, rfl, by rw [hcn]; rfl, rfl, trivial⟩, rfl, rfl, hkb, hS, Or.inr (Or.inr ⟨hok, hh, m, hm, Or.inr ⟨hm2, Or.inr ⟨rfl, 0, (h_cnt_b _ _ _).1, rfl, rfl⟩⟩⟩)⟩
        · intro t1
          refine Or.inl ⟨by omega, ?_⟩
          refine And.intro (show 0 ≤ 22 + (c : Int) ∧ 22 + (c : Int) < 299 by omega) ?_
          intro w hw _
          have hw : w = I' 211 (22 + (c : Int)).toNat := hw
          have hw : w = xh_om I c := by
            rw [hw, hkb.2.1, show (22 + (c : Int)).toNat = 22 + c by omega]
            rfl
          refine And.intro ?_ ?_
          · intro t2
            refine And.intro ⟨by omega, by decide⟩ ?_
            have hst : x_or2 ((h_set (fun c => decide (xh_om I c = (m : Int))) c : Nat) : Int) 0 = ((h_set (fun c => decide (xh_om I c = (m : Int))) (c + 1) : Nat) : Int) := by
              rw [h_set_s, if_neg (show ¬ decide (xh_om I c = (m : Int)) = true by rw [decide_eq_true_eq, ← hw]; exact t2)]
              exact xh_or2 (b := 0)
            exact Or.inl ⟨by omega, 50 * (7 - m) - 1 - (c + 1), [(0, xR 210), (1, .inl (xh_w I m)), (2, .inl (h_u (xh_qS I) (xh_hs I) m : Nat)), (3, .inl (h_u (xh_qN I) (xh_hs I) m : Nat)), (4, .inl (m : Int)), (5, .inl (h_set (fun c => decide (xh_om I c = (m : Int))) (c + 1) : Nat)), (6, .inl ((c + 1 : Nat) : Int))], by omega, ⟨rfl, rfl, rfl, rfl, rfl, congrArg (fun q => some (Sum.inl q)) hst, rfl, trivial⟩, rfl, rfl, hkb, hS, Or.inr (Or.inr ⟨hok, hh, m, hm, Or.inr ⟨hm2, Or.inl ⟨rfl, c + 1, by omega, rfl, rfl⟩⟩⟩)⟩
          · intro t2
            refine And.intro ⟨rfl, by omega, by omega⟩ ?_
            refine And.intro ⟨by omega, Int.natCast_nonneg _⟩ ?_
            have hst : x_or2 ((h_set (fun c => decide (xh_om I c = (m : Int))) c : Nat) : Int) ((2 ^ c : Nat) : Int) = ((h_set (fun c => decide (xh_om I c = (m : Int))) (c + 1) : Nat) : Int) := by
              rw [h_set_s, if_pos (show decide (xh_om I c = (m : Int)) = true by rw [decide_eq_true_eq, ← hw]; exact t2)]
              exact xh_or2
            exact Or.inl ⟨by omega, 50 * (7 - m) - 1 - (c + 1), [(0, xR 210), (1, .inl (xh_w I m)), (2, .inl (h_u (xh_qS I) (xh_hs I) m : Nat)), (3, .inl (h_u (xh_qN I) (xh_hs I) m : Nat)), (4, .inl (m : Int)), (5, .inl (h_set (fun c => decide (xh_om I c = (m : Int))) (c + 1) : Nat)), (6, .inl ((c + 1 : Nat) : Int))], by omega, ⟨rfl, rfl, rfl, rfl, rfl, congrArg (fun q => some (Sum.inl q)) hst, rfl, trivial⟩, rfl, rfl, hkb, hS, Or.inr (Or.inr ⟨hok, hh, m, hm, Or.inr ⟨hm2, Or.inl ⟨rfl, c + 1, by omega, rfl, rfl⟩⟩⟩)⟩
      · -- 193
        have hcb := h_cnt_b (r_b I) (I 209 2).toNat (m : Int)
        have hbb := h_cnt_b (xh_om I) (I 211 2).toNat (m : Int)
        have hpc : ((h_pc (xh_hs I m) : Nat) : Int) = h_cnt (xh_om I) (I 211 2).toNat (m : Int) := h_pc_set (by omega)
        have hm6 : m < 6 := by omega
        refine And.intro (show 0 ≤ (m : Int) ∧ (m : Int) < 6 by omega) ?_
        intro a ha _
        have ha : a = I' 218 m := ha
        have ha : a = h_cnt (r_b I) (I 209 2).toNat (m : Int) := ha.trans (hh m hm6)
        refine And.intro ?_ ?_
        · intro t1
          have hke : k = (h_cnt (r_b I) (I 209 2).toNat (m : Int)).toNat := by omega
          have hw1 : h_pi (xh_w I m) (h_cnt (xh_om I) (I 211 2).toNat (m : Int)) k = xh_w I (m + 1) := by
            unfold xh_w
            rw [h_ways_s, hke]
          refine And.intro (show 0 ≤ (m : Int) ∧ (m : Int) < 6 by omega) ?_
          intro a2 ha2 _
          have ha2 : a2 = I' 218 m := ha2
          have ha2 : a2 = h_cnt (r_b I) (I 209 2).toNat (m : Int) := ha2.trans (hh m hm6)
          refine And.intro ⟨xh_hs I m, rfl, hbs m⟩ ?_
          rintro rv I1 L1 ⟨g1, g2, v1, hx, rfl⟩
          subst g1
          subst g2
          have hx : ([.inl ((xh_hs I m : Nat) : Int)] : List xV) = [.inl (v1 : Int)] := hx
          simp only [List.cons.injEq, Sum.inl.injEq] at hx
          obtain rfl : v1 = xh_hs I m := by omega
          refine And.intro ?_ ?_
          · intro t2
            refine And.intro ⟨by omega, by decide⟩ ?_
            have hstS : x_or2 ((h_u (xh_qS I) (xh_hs I) m : Nat) : Int) 0 = ((h_u (xh_qS I) (xh_hs I) (m + 1) : Nat) : Int) := by
              rw [h_u_s, if_neg (show ¬ xh_qS I m = true by unfold xh_qS; rw [decide_eq_true_eq]; omega)]
              exact xh_or2 (b := 0)
            refine And.intro (show 0 ≤ (m : Int) ∧ (m : Int) < 6 by omega) ?_
            intro a3 ha3 _
            have ha3 : a3 = I1 218 m := ha3
            have ha3 : a3 = h_cnt (r_b I) (I 209 2).toNat (m : Int) := ha3.trans (hh m hm6)
            refine And.intro ?_ ?_
            · intro t3
              refine And.intro ⟨by omega, by decide⟩ ?_
              have hstN : x_or2 ((h_u (xh_qN I) (xh_hs I) m : Nat) : Int) 0 = ((h_u (xh_qN I) (xh_hs I) (m + 1) : Nat) : Int) := by
                rw [h_u_s, if_neg (show ¬ xh_qN I m = true by unfold xh_qN; rw [decide_eq_true_eq]; omega)]
                exact xh_or2 (b := 0)
              refine Or.inl ⟨by omega, ?_⟩
              exact ⟨50 * (7 - (m + 1)), [(0, xR 210), (1, .inl (xh_w I (m + 1))), (2, .inl (h_u (xh_qS I) (xh_hs I) (m + 1) : Nat)), (3, .inl (h_u (xh_qN I) (xh_hs I) (m + 1) : Nat)), (4, .inl ((m + 1 : Nat) : Int))], by omega, ⟨rfl, congrArg (fun q => some (Sum.inl q)) hw1, congrArg (fun q => some (Sum.inl q)) hstS, congrArg (fun q => some (Sum.inl q)) hstN, rfl, trivial⟩, rfl, rfl, hkb, hS, Or.inr (Or.inr ⟨hok, hh, m + 1, by omega, Or.inl ⟨rfl, rfl, rfl⟩⟩)⟩
            · intro t3
              refine And.intro ⟨by omega, by omega⟩ ?_
              have hstN : x_or2 ((h_u (xh_qN I) (xh_hs I) m : Nat) : Int) ((xh_hs I m : Nat) : Int) = ((h_u (xh_qN I) (xh_hs I) (m + 1) : Nat) : Int) := by
                rw [h_u_s, if_pos (show xh_qN I m = true by unfold xh_qN; rw [decide_eq_true_eq]; omega)]
                exact xh_or2
              refine Or.inl ⟨by omega, ?_⟩
              exact ⟨50 * (7 - (m + 1)), [(0, xR 210), (1, .inl (xh_w I (m + 1))), (2, .inl (h_u (xh_qS I) (xh_hs I) (m + 1) : Nat)), (3, .inl (h_u (xh_qN I) (xh_hs I) (m + 1) : Nat)), (4, .inl ((m + 1 : Nat) : Int))], by omega, ⟨rfl, congrArg (fun q => some (Sum.inl q)) hw1, congrArg (fun q => some (Sum.inl q)) hstS, congrArg (fun q => some (Sum.inl q)) hstN, rfl, trivial⟩, rfl, rfl, hkb, hS, Or.inr (Or.inr ⟨hok, hh, m + 1, by omega, Or.inl ⟨rfl, rfl, rfl⟩⟩)⟩
          · intro t2
            refine And.intro ⟨by omega, by omega⟩ ?_
            have hstS : x_or2 ((h_u (xh_qS I) (xh_hs I) m : Nat) : Int) ((xh_hs I m : Nat) : Int) = ((h_u (xh_qS I) (xh_hs I) (m + 1) : Nat) : Int) := by
              rw [h_u_s, if_pos (show xh_qS I m = true by unfold xh_qS; rw [decide_eq_true_eq]; omega)]
              exact xh_or2
            refine And.intro (show 0 ≤ (m : Int) ∧ (m : Int) < 6 by omega) ?_
            intro a3 ha3 _
            have ha3 : a3 = I1 218 m := ha3
            have ha3 : a3 = h_cnt (r_b I) (I 209 2).toNat (m : Int) := ha3.trans (hh m hm6)
            refine And.intro ?_ ?_
            · intro t3
              refine And.intro ⟨by omega, by decide⟩ ?_
              have hstN : x_or2 ((h_u (xh_qN I) (xh_hs I) m : Nat) : Int) 0 = ((h_u (xh_qN I) (xh_hs I) (m + 1) : Nat) : Int) := by
                rw [h_u_s, if_neg (show ¬ xh_qN I m = true by unfold xh_qN; rw [decide_eq_true_eq]; omega)]
                exact xh_or2 (b := 0)
              refine Or.inl ⟨by omega, ?_⟩
              exact ⟨50 * (7 - (m + 1)), [(0, xR 210), (1, .inl (xh_w I (m + 1))), (2, .inl (h_u (xh_qS I) (xh_hs I) (m + 1) : Nat)), (3, .inl (h_u (xh_qN I) (xh_hs I) (m + 1) : Nat)), (4, .inl ((m + 1 : Nat) : Int))], by omega, ⟨rfl, congrArg (fun q => some (Sum.inl q)) hw1, congrArg (fun q => some (Sum.inl q)) hstS, congrArg (fun q => some (Sum.inl q)) hstN, rfl, trivial⟩, rfl, rfl, hkb, hS, Or.inr (Or.inr ⟨hok, hh, m + 1, by omega, Or.inl ⟨rfl, rfl, rfl⟩⟩)⟩
            · intro t3
              refine And.intro ⟨by omega, by omega⟩ ?_
              have hstN : x_or2 ((h_u (xh_qN I) (xh_hs I) m : Nat) : Int) ((xh_hs I m : Nat) : Int) = ((h_u (xh_qN I) (xh_hs I) (m + 1) : Nat) : Int) := by
                rw [h_u_s, if_pos (show xh_qN I m = true by unfold xh_qN; rw [decide_eq_true_eq]; omega)]
                exact xh_or2
              refine Or.inl ⟨by omega, ?_⟩
              exact ⟨50 * (7 - (m + 1)), [(0, xR 210), (1, .inl (xh_w I (m + 1))), (2, .inl (h_u (xh_qS I) (xh_hs I) (m + 1) : Nat)), (3, .inl (h_u (xh_qN I) (xh_hs I) (m + 1) : Nat)), (4, .inl ((m + 1 : Nat) : Int))], by omega, ⟨rfl, congrArg (fun q => some (Sum.inl q)) hw1, congrArg (fun q => some (Sum.inl q)) hstS, congrArg (fun q => some (Sum.inl q)) hstN, rfl, trivial⟩, rfl, rfl, hkb, hS, Or.inr (Or.inr ⟨hok, hh, m + 1, by omega, Or.inl ⟨rfl, rfl, rfl⟩⟩)⟩
        · intro t1
          refine And.intro ⟨xh_hs I m, rfl, hbs m⟩ ?_
          rintro rv I1 L1 ⟨g1, g2, v1, hx, rfl⟩
          subst g1
          subst g2
          have hx : ([.inl ((xh_hs I m : Nat) : Int)] : List xV) = [.inl (v1 : Int)] := hx
          simp only [List.cons.injEq, Sum.inl.injEq] at hx
          obtain rfl : v1 = xh_hs I m := by omega
          refine Or.inl ⟨by omega, ?_⟩
          refine And.intro ⟨_, _, rfl⟩ ?_
          rintro rv I2 L2 ⟨g1, g2, a', b', hx2, rfl⟩
          subst g1
          subst g2
          cases hx2
          have hzf : (if (0 : Int) ≤ ((h_pc (xh_hs I m) : Nat) : Int) - (k : Int) then ((h_pc (xh_hs I m) : Nat) : Int) - (k : Int) else 0) = if 0 < h_cnt (xh_om I) (I 211 2).toNat (m : Int) - (k : Int) then h_cnt (xh_om I) (I 211 2).toNat (m : Int) - (k : Int) else 0 := by
            rw [hpc]
            by_cases q : 0 < h_cnt (xh_om I) (I 211 2).toNat (m : Int) - (k : Int)
            · rw [if_pos q, if_pos (by omega)]
            · rw [if_neg q]
              by_cases q2 : 0 ≤ h_cnt (xh_om I) (I 211 2).toNat (m : Int) - (k : Int)
              · rw [if_pos q2]
                omega
              · rw [if_neg q2]
          have hnext : h_pi (xh_w I m) (h_cnt (xh_om I) (I 211 2).toNat (m : Int)) k * (if (0 : Int) ≤ ((h_pc (xh_hs I m) : Nat) : Int) - (k : Int) then ((h_pc (xh_hs I m) : Nat) : Int) - (k : Int) else 0) = h_pi (xh_w I m) (h_cnt (xh_om I) (I 211 2).toNat (m : Int)) (k + 1) := by rw [h_pi_s, hzf]
          have hwb := h_way_in (bt := r_b I) (o := xh_om I) (S := (I 209 2).toNat) (n := (I 211 2).toNat) (m := m) (k := k + 1) (by omega) (by omega) (by omega)
          have hwb : 0 ≤ h_pi (xh_w I m) (h_cnt (xh_om I) (I 211 2).toNat (m : Int)) (k + 1) ∧ h_pi (xh_w I m) (h_cnt (xh_om I) (I 211 2).toNat (m : Int)) (k + 1) ≤ 16777216 := hwb
          rw [← hnext] at hwb
          refine Or.inl ⟨by omega, ?_⟩
          refine Or.inl ⟨by omega, ?_⟩
          exact ⟨50 * (7 - m) - 20 - (k + 1), [(0, xR 210), (1, .inl (h_pi (xh_w I m) (h_cnt (xh_om I) (I 211 2).toNat (m : Int)) (k + 1))), (2, .inl (h_u (xh_qS I) (xh_hs I) m : Nat)), (3, .inl (h_u (xh_qN I) (xh_hs I) m : Nat)), (4, .inl (m : Int)), (5, .inl (xh_hs I m : Nat)), (6, .inl ((k + 1 : Nat) : Int))], by omega, ⟨rfl, congrArg (fun q => some (Sum.inl q)) hnext, rfl, rfl, rfl, rfl, rfl, trivial⟩, rfl, rfl, hkb, hS, Or.inr (Or.inr ⟨hok, hh, m, hm, Or.inr ⟨hm2, Or.inr ⟨rfl, k + 1, by omega, rfl, rfl⟩⟩⟩)⟩
end XHK
