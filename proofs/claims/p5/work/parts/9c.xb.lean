/-! ===== the class's tape: the next TOKEN, and what is taken ===== -/
/-- the tape's cells tell this TOKEN -/
def c_tok (T : Int × Int × Int × Int) (I L : xF) : Prop :=
  I 1 4 = T.2.1 ∧ (2 ≤ T.1 → I 1 5 = T.2.2.1) ∧
  ((T.1 = 0 ∧ I 1 6 = 0) ∨ (T.1 = 1 ∧ I 1 6 = 1) ∨
   (T.1 = 2 ∧ L 1 8 = T.2.2.2 ∧ ((∃ w : Nat, x_W32[w]? = some T.2.2.2 ∧ I 1 6 = 2 ∧ I 1 7 = w) ∨ ((∀ w : Nat, x_W32[w]? ≠ some T.2.2.2) ∧ I 1 6 = 3))) ∨
   (T.1 = 4 ∧ I 1 6 = 4 ∧ I 1 7 = T.2.2.2) ∨ (T.1 = 5 ∧ I 1 6 = 5 ∧ I 1 7 = T.2.2.2))
theorem x_seg1 {n k : Nat} {lo hi : Int} (h : k < n) : y_seg [(n, lo, hi)] k = some (lo, hi) := by
  unfold y_seg
  rw [if_pos h]
theorem t_tok_pos {b : Nat → Int} {n most pos : Int} (h0 : 0 ≤ pos) (h1 : pos ≤ n) (h : 2 ≤ (t_tok b n most pos).1) : pos < (t_tok b n most pos).2.2.1 ∧ (t_tok b n most pos).2.2.1 ≤ n := by
  have hs := t_skip_le (b := b) h1
  have he := t_end_le (b := b) hs.2
  unfold t_tok at h ⊢
  split at h
  next hc =>
    split at h
    · exact absurd (show (2 : Int) ≤ 1 from h) (by decide)
    · exact absurd (show (2 : Int) ≤ 0 from h) (by decide)
  next hc =>
    rw [if_neg hc]
    split at h
    next hc2 =>
      rw [if_pos hc2]
      split at h
      next hc3 =>
        rw [if_pos hc3]
        dsimp only
        omega
      · exact absurd (show (2 : Int) ≤ 1 from h) (by decide)
    next hc2 =>
      rw [if_neg hc2]
      split at h
      next hc3 =>
        rw [if_pos hc3]
        dsimp only
        omega
      next hc3 =>
        rw [if_neg hc3]
        split at h
        next hc4 =>
          rw [if_pos hc4]
          dsimp only
          omega
        · exact absurd (show (2 : Int) ≤ 1 from h) (by decide)
section XT4
variable {EX : (Nat → Prop) → State → Heap → Prop} {l : Launch} {kc : Nat → ClassId} {D : va_G} {xb : Nat} {ad : Nat → Option Nat}
def xr_adv : xPre := fun za I _ => za = [xR 2] ∧ 0 ≤ I 1 5 ∧ I 1 5 ≤ I 1 2 ∧ I 1 2 ≤ 940
def xo_adv : xPost := fun _ I L rv I' L' => rv = none ∧ x_fi x_s4567 I I' ∧ x_fi x_s8c L L' ∧ c_tok (t_tok (I 2) (I 1 2) (I 1 3) (I 1 5)) I' L'
def ct_adv : List (Nat × Nat × xPre × xPost) := [(101, 0, xr_unbl, xo_unbl), (102, 0, xr_t, xo_stop), (103, 0, xr_run, xo_run), (105, 0, xr_sgn, xo_sgn), (104, 0, xr_t, xo_tell)]
theorem ct_adv_ok (hE : z_EX EX) : x_ctok EX l zTB zNT kc D vwCl xb yTY ad yP0 (x_ctl ct_adv) := x_ctl_cons (xk_unbl hE) (x_ctl_cons (xk_stop hE) (x_ctl_cons (xk_run hE) (x_ctl_cons (xk_sgn hE) (x_ctl_cons (xk_tell hE) x_ctl_nil))))
theorem x_s567_w : ∀ r k, x_s567 r k = true → x_s4567 r k = true := by
  intro r k h
  unfold x_s567 at h
  unfold x_s4567
  simp only [Bool.and_eq_true, Bool.or_eq_true] at h ⊢
  refine ⟨h.1, ?_⟩
  rcases h.2 with h | h | h <;> (obtain rfl := Nat.eq_of_beq_eq_true h; decide)
theorem x_s67_w : ∀ r k, x_s67 r k = true → x_s4567 r k = true := by
  intro r k h
  unfold x_s67 at h
  unfold x_s4567
  simp only [Bool.and_eq_true, Bool.or_eq_true] at h ⊢
  refine ⟨h.1, ?_⟩
  rcases h.2 with h | h <;> (obtain rfl := Nat.eq_of_beq_eq_true h; decide)
set_option maxHeartbeats 2000000 in
theorem xk_adv (hE : z_EX EX) : x_Ok EX l zTB zNT kc D vwCl xb yTY ad yP0 100 1 xr_adv xo_adv := by
  refine x_meth (M := ym_X10_advance) hE y_prog 80 rfl (by decide) (ct_adv_ok hE) (fun za I L ⟨h, _⟩ => by subst h; exact (by decide : 1 ≤ 1)) (fun za I L ⟨h, h0, h1, h940⟩ => ?_)
  subst h
  intro q (hq : q = I 1 5) _
  refine And.intro ⟨q, rfl, by omega, by omega⟩ ?_
  rintro rv I1 L1 ⟨e1, e2, x, hx, rfl⟩
  subst e1
  subst e2
  cases hx
  subst hq
  have hs := t_skip_le (b := I1 2) h1
  refine And.intro (show 0 ≤ t_skip (I1 2) (I1 1 2) (I1 1 5) ∧ t_skip (I1 2) (I1 1 2) (I1 1 5) ≤ 940 by omega) ?_
  generalize hsk : t_skip (I1 2) (I1 1 2) (I1 1 5) = sk at hs ⊢
  have htok : t_tok (I1 2) (I1 1 2) (I1 1 3) (I1 1 5) = (if I1 1 2 ≤ sk ∨ I1 1 3 ≤ sk then (if I1 1 3 < I1 1 2 then (1, I1 1 3, I1 1 3, 0) else (0, I1 1 2, I1 1 2, 0)) else if t_end (I1 2) (I1 1 2) sk = sk then (if t_sg (I1 2 sk.toNat) then (5, sk, sk + 1, I1 2 sk.toNat) else (1, sk, sk + 1, 0)) else if t_nl (I1 2) sk (t_end (I1 2) (I1 1 2) sk - sk).toNat = (t_end (I1 2) (I1 1 2) sk - sk).toNat ∧ (t_end (I1 2) (I1 1 2) sk - sk).toNat ≤ 7 then (2, sk, t_end (I1 2) (I1 1 2) sk, t_sp (I1 2) sk (t_end (I1 2) (I1 1 2) sk - sk).toNat) else if t_nl (I1 2) sk (t_end (I1 2) (I1 1 2) sk - sk).toNat = 0 ∧ (t_end (I1 2) (I1 1 2) sk - sk).toNat ≤ 3 then (4, sk, t_end (I1 2) (I1 1 2) sk, t_val (I1 2) sk (t_end (I1 2) (I1 1 2) sk - sk).toNat) else (1, sk, t_end (I1 2) (I1 1 2) sk, 0)) := by
    unfold t_tok
    rw [hsk]
  intro p1 (hp1 : p1 = sk) _ m1 (hm1 : m1 = I1 1 2) (bm1 : 0 ≤ m1 ∧ m1 ≤ 940)
  have hstop : (I1 1 2 ≤ sk ∨ I1 1 3 ≤ sk) → ∀ rv I' L', xo_stop [xR 2] (x_u I1 1 4 sk) L1 rv I' L' → xo_adv [xR 2] I1 L1 none I' L' := by
    rintro hc rv I' L' ⟨_, rfl, rfl⟩
    refine ⟨rfl, x_fi_u (x_fi_u (x_fi_u (x_fi_u x_fi_refl rfl) rfl) rfl) rfl, x_fi_refl, ?_⟩
    rw [htok, if_pos hc]
    show c_tok _ (x_u (x_u (x_u (x_u I1 1 4 sk) 1 6 (if I1 1 3 < I1 1 2 then 1 else 0)) 1 4 (if I1 1 3 < I1 1 2 then I1 1 3 else I1 1 2)) 1 5 (if I1 1 3 < I1 1 2 then I1 1 3 else I1 1 2)) _
    by_cases hg : I1 1 3 < I1 1 2
    · simp only [if_pos hg]
      exact ⟨rfl, fun h => absurd (show (2 : Int) ≤ 1 from h) (by decide), Or.inr (Or.inl ⟨rfl, rfl⟩)⟩
    · simp only [if_neg hg]
      exact ⟨rfl, fun h => absurd (show (2 : Int) ≤ 0 from h) (by decide), Or.inl ⟨rfl, rfl⟩⟩
  refine And.intro ?_ ?_
  · intro t1
    refine And.intro rfl ?_
    intro rv I' L' h
    have h9 := h.1
    subst h9
    exact hstop (Or.inl (by omega)) _ _ _ h
  · intro t1 p2 (hp2 : p2 = sk) _ m2 (hm2 : m2 = I1 1 3) _
    refine And.intro ?_ ?_
    · intro t2
      have hnot : ¬ (I1 1 2 ≤ sk ∨ I1 1 3 ≤ sk) := by omega
      refine And.intro ⟨rfl, show 0 ≤ sk by omega, show sk < I1 1 2 by omega, show I1 1 2 ≤ 940 by omega⟩ ?_
      rintro rv I2 L2 ⟨rfl, hfi, hfl, k, lt, d, he, hr, h5, h6⟩
      have e4 : I2 1 4 = sk := hfi 1 4 rfl
      have he : t_end (I1 2) (I1 1 2) sk = sk + k := he
      have h5 : I2 1 5 = sk + k := h5
      have hr : x_rn (I1 2) (I1 1 2) sk k lt d (I2 1 7) (L2 1 8) := hr
      have hkt : (t_end (I1 2) (I1 1 2) sk - sk).toNat = k := by rw [he]; omega
      have hfi1 : x_fi x_s4567 I1 I2 := x_fi_trans (x_fi_u x_fi_refl rfl) (x_fi_w hfi x_s567_w)
      intro b5 (hb5 : b5 = I2 1 5) _ p3 (hp3 : p3 = I2 1 4) (bp3 : 0 ≤ p3 ∧ p3 ≤ 940)
      refine And.intro ?_ ?_
      · intro t3
        have hk0 : k ≠ 0 := by omega
        have htk : t_tok (I1 2) (I1 1 2) (I1 1 3) (I1 1 5) = (if lt = k ∧ k ≤ 7 then (2, sk, sk + k, t_sp (I1 2) sk k) else if lt = 0 ∧ k ≤ 3 then (4, sk, sk + k, t_val (I1 2) sk k) else (1, sk, sk + k, 0)) := by
          rw [htok, if_neg hnot, if_neg (by omega), hkt, he, ← hr.2.1]
        intro k1 (hk1 : k1 = I2 1 6) _
        refine And.intro ?_ ?_
        · intro t4
          refine ⟨rfl, hfi1, hfl, ?_⟩
          rw [htk]
          have h62 : ¬ (lt = k ∧ k ≤ 7) := fun q => by
            rw [if_pos q] at h6
            omega
          rw [if_neg h62] at h6 ⊢
          by_cases h4 : lt = 0 ∧ k ≤ 3
          · rw [if_pos h4] at h6 ⊢
            exact ⟨e4, fun _ => h5, Or.inr (Or.inr (Or.inr (Or.inl ⟨rfl, h6, hr.2.2.2.2.1 h4.1 h4.2⟩)))⟩
          · rw [if_neg h4] at h6 ⊢
            exact ⟨e4, fun h => absurd (show (2 : Int) ≤ 1 from h) (by decide), Or.inr (Or.inl ⟨rfl, h6⟩)⟩
        · intro t4
          have h62 : lt = k ∧ k ≤ 7 := Classical.byContradiction (fun q => by
            rw [if_neg q] at h6
            split at h6 <;> omega)
          refine And.intro rfl ?_
          rintro rv I3 L3 ⟨rfl, rfl, hf3, hw⟩
          have hsp := hr.2.2.2.1 h62.1 h62.2
          refine ⟨rfl, x_fi_trans hfi1 (x_fi_w hf3 x_s67_w), hfl, ?_⟩
          rw [htk, if_pos h62]
          refine ⟨(hf3 1 4 rfl).trans e4, fun _ => (hf3 1 5 rfl).trans h5, Or.inr (Or.inr (Or.inl ⟨rfl, hsp, ?_⟩))⟩
          rw [← hsp]
          exact hw
      · intro t3
        have hk0 : k = 0 := by omega
        subst hk0
        intro p4 (hp4 : p4 = I2 1 4) _
        refine And.intro (show 0 ≤ p4 ∧ p4 < 940 by omega) ?_
        intro c (hc : c = I2 2 p4.toNat) hsg
        have bc : 0 ≤ c ∧ c ≤ 255 := hsg _ (x_seg1 (by omega))
        have hcc : c = I1 2 sk.toNat := by
          rw [hc, show p4 = sk by omega]
          exact hfi 2 _ rfl
        refine And.intro ⟨c, rfl, bc⟩ ?_
        rintro rv I3 L3 ⟨c', hc', rfl, rfl, rfl⟩
        cases hc'
        refine ⟨rfl, x_fi_u (x_fi_u (x_fi_u hfi1 rfl) rfl) rfl, hfl, ?_⟩
        rw [htok, if_neg hnot, if_pos (by omega), ← hcc]
        by_cases hsgn : t_sg c
        · rw [if_pos hsgn, if_pos hsgn]
          exact ⟨e4, fun _ => (show I2 1 4 + 1 = sk + 1 by omega), Or.inr (Or.inr (Or.inr (Or.inr ⟨rfl, rfl, rfl⟩)))⟩
        · rw [if_neg hsgn, if_neg hsgn]
          exact ⟨e4, fun h => absurd (show (2 : Int) ≤ 1 from h) (by decide), Or.inr (Or.inl ⟨rfl, rfl⟩)⟩
    · intro t2
      refine And.intro rfl ?_
      intro rv I' L' h
      have h9 := h.1
      subst h9
      exact hstop (Or.inr (by omega)) _ _ _ h
end XT4
