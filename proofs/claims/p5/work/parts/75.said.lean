section HSAID
variable {EX : (Nat → Prop) → State → Heap → Prop} {l : Launch} {kc : Nat → ClassId} {D : va_G} {xb : Nat} {ad : Nat → Option Nat}
def h_saidD (a : Nat × Nat) : Prop := (a.2 = 0 ∧ a.1 ≤ 44) ∨ ((a.2 = 1 ∨ a.2 = 2 ∨ a.2 = 3) ∧ a.1 ≤ 43) ∨ (a.2 = 4 ∧ a.1 ≤ 44) ∨ a = (0, 9)
def h_saidr (a : Nat × Nat) : Nat := match a.2 with
  | 0 => 3 * (45 - a.1) + 2
  | 1 => 3 * (45 - a.1) + 1
  | 2 => 3 * (45 - a.1) + 1
  | 3 => 3 * (45 - a.1) + 1
  | 4 => 3 * (45 - a.1) + 1
  | _ => 200
/-- of what sort a code is -/
def h_sort (k : Nat) (x : Int32) : Prop := match k with
  | 1 => x.toInt = 20
  | 2 => x.toInt = 21 ∨ x.toInt = 22
  | _ => x.toInt ≠ 20 ∧ x.toInt ≠ 21 ∧ x.toInt ≠ 22
def h_saidF (_ : va_W) (a : Nat × Nat) (ls : Array Slot) (ws : va_W) : Prop := w_WF ws 211 118 ∧ (a.2 = 9 ∨ a.2 = 4 ∨ ∃ x : Int32, ls[2]? = some (.val (.int x)) ∧ 0 ≤ x.toInt ∧ w_D (w_at ws 211 118) a.1 = some x.toInt.toNat ∧ (a.2 = 0 ∨ ∃ v : Int32, w_at ws 211 118 a.1 = some v ∧ h_sort a.2 v ∧ (a.2 = 1 → 1 ≤ x.toInt) ∧ (a.2 = 2 → 2 ≤ x.toInt)))
theorem h_saidfr {ws ws' : va_W} (h : y_fr h_saidE ws ws') (k : Nat) : y_at ws' 211 k = y_at ws 211 k := h 211 k (by unfold y_in h_saidE; simp)
theorem h_said_wf {ws ws' : va_W} (h : y_fr h_saidE ws ws') (hw : w_WF ws 211 118) : w_WF ws' 211 118 := by
  intro n hn i hi
  rw [h_saidfr h] at hn
  obtain ⟨d, hd⟩ := hw n hn i hi
  exact ⟨d, by rw [← hd]; exact w_D_same (fun j _ => h_saidfr h _)⟩
theorem h_lst {env : List Int} {nL : Nat} {zl : List (Nat × yV)} {ls : Array Slot} (h : y_l env ad nL zl ls) {i : Nat} {t : yI} (hg : y_get zl i = some (.inl t)) : ∃ x : Int32, ls[i]? = some (.val (.int x)) ∧ y_e env t = some x.toInt := by
  obtain ⟨v, h1, x, rfl, h2⟩ := y_l_at h hg
  exact ⟨x, h1, h2⟩
theorem h_said_go2 {a : Nat × Nat} (ha : a.2 = 0 ∧ a.1 ≤ 44) : y_go2 kc yTYV ad 5 h_saidD h_said h_saidr h_saidF a := by
  obtain ⟨c, k⟩ := a
  obtain ⟨h0, hc⟩ := ha
  dsimp only at h0 hc
  subst h0
  intro w0 ws ls vs ⟨hwf, hx⟩ hw hv hlv _
  obtain ⟨x, hx1, hx2, hx3, _⟩ := (hx.resolve_left (show ¬ (0 : Nat) = 9 by decide)).resolve_left (show ¬ (0 : Nat) = 4 by decide)
  dsimp only at hx3
  obtain ⟨m, m1, m2, m3⟩ := y_ty_ok (r := 211) (k := 118) hw (q := (0, 44)) (by decide +kernel)
  dsimp only at m2 m3
  have hxc := w_D_le hx3
  -- the same locals, n said closer
  have hloc : ∀ (lo hi : Int) (b : Nat × Nat) (fs : List yF), h_said b = (4, [(0, .inr (some 210)), (1, .inl (0, 7)), (2, .inl (lo, hi)), (3, .inl ((c : Int), (c : Int)))], fs, [], false) → lo ≤ x.toInt → x.toInt ≤ hi → ∃ us : List Value, z_L (y_pv ad) ((h_said b).2.1.map (fun a => a.2)) us ∧ lv_has ls 5 (((h_said b).2.1.map (fun a => a.1)).zip us) := by
    intro lo hi b fs hb h1 h2
    rw [hb]
    obtain ⟨v0, v1, v2, v3, rfl⟩ : ∃ v0 v1 v2 v3, vs = [v0, v1, v2, v3] := by
      match vs, hv with
      | [v0, v1, v2, v3], _ => exact ⟨v0, v1, v2, v3, rfl⟩
      | [], h => exact h.elim
      | [_], h => exact h.2.elim
      | [_, _], h => exact h.2.2.elim
      | [_, _, _], h => exact h.2.2.2.elim
      | _ :: _ :: _ :: _ :: _ :: _, h => exact h.2.2.2.2.elim
    have e2 := hlv.2.2 (2, v2) (by simp [h_said])
    dsimp only at e2
    rw [hx1] at e2
    cases e2
    exact ⟨[v0, v1, .int x, v3], ⟨hv.1, hv.2.1, ⟨x, rfl, h1, h2⟩, hv.2.2.2.1, trivial⟩, hlv⟩
  by_cases hcm : m.toInt ≤ (c : Int)
  · refine ⟨(c, 4), Or.inr (Or.inr (Or.inl ⟨rfl, hc⟩)), (show 3 * (45 - c) + 1 < 3 * (45 - c) + 2 by omega), rfl, (fun h => h), ⟨hwf, Or.inr (Or.inl rfl)⟩, hloc 0 44 (c, 4) _ rfl hx2 (by omega), fun f hf => ?_⟩
    have := List.mem_singleton.mp hf
    subst this
    exact ⟨m, m1, m2, hcm, fun _ _ e => by cases e⟩
  · obtain ⟨d1, hd1⟩ := hwf m m1 (c + 1) (by omega)
    unfold w_D at hd1
    rw [hx3] at hd1
    have hc43 : c ≤ 43 := by omega
    have hfs : ∀ (lo hi : Int) (v : Int32), w_at ws 211 118 c = some v → lo ≤ v.toInt → v.toInt ≤ hi → ∀ f ∈ ([((211, 118), ((c : Int) + 1, 44), none), ((211, 119 + 3 * c), (lo, hi), none)] : List yF), y_fv2 [] ws f := by
      intro lo hi v hv' h1 h2 f hf
      rcases List.mem_cons.mp hf with rfl | hf
      · exact ⟨m, m1, by dsimp only; omega, m3, fun _ _ e => by cases e⟩
      · have := List.mem_singleton.mp hf
        subst this
        exact ⟨v, hv', h1, h2, fun _ _ e => by cases e⟩
    split at hd1
    next d0 v h1 h2 =>
      cases h1
      have hty : ∃ v' : Int32, y_at ws 211 (119 + 3 * c) = some v' ∧ (0 : Int) ≤ v'.toInt ∧ v'.toInt ≤ 22 := by
        have h9 : ((List.range 44).all fun c => (match y_ty yTYV 211 (119 + 3 * c) with | some q => decide (q.1 = 0) && decide (q.2 = 22) | none => false)) = true := by decide +kernel
        have h8 := List.all_eq_true.mp h9 c (List.mem_range.mpr (by omega))
        split at h8
        next q hq =>
          rw [Bool.and_eq_true] at h8
          obtain ⟨v', e1, e2, e3⟩ := y_ty_ok hw hq
          exact ⟨v', e1, by rw [of_decide_eq_true h8.1] at e2; exact e2, by rw [of_decide_eq_true h8.2] at e3; exact e3⟩
        next => cases h8
      obtain ⟨v', e1, e2, e3⟩ := hty
      have ev : v' = v := Option.some.inj (e1.symm.trans h2)
      subst ev
      split at hd1
      next hv20 =>
        split at hd1
        next hn1 => exact ⟨(c, 1), Or.inr (Or.inl ⟨Or.inl rfl, hc43⟩), (show 3 * (45 - c) + 1 < 3 * (45 - c) + 2 by omega), rfl, (fun h => h), ⟨hwf, Or.inr (Or.inr ⟨x, hx1, hx2, hx3, Or.inr ⟨v', h2, hv20, (fun _ => by omega), (fun h => absurd (show (1 : Nat) = 2 from h) (by decide))⟩⟩)⟩, hloc 1 44 (c, 1) _ rfl (by omega) (by omega), hfs 20 20 v' h2 (by omega) (by omega)⟩
        next => cases hd1
      next hv20 =>
        split at hd1
        next hv21 =>
          split at hd1
          next hn2 => exact ⟨(c, 2), Or.inr (Or.inl ⟨Or.inr (Or.inl rfl), hc43⟩), (show 3 * (45 - c) + 1 < 3 * (45 - c) + 2 by omega), rfl, (fun h => h), ⟨hwf, Or.inr (Or.inr ⟨x, hx1, hx2, hx3, Or.inr ⟨v', h2, hv21, (fun h => absurd (show (2 : Nat) = 1 from h) (by decide)), (fun _ => by omega)⟩⟩)⟩, hloc 2 44 (c, 2) _ rfl (by omega) (by omega), hfs 21 22 v' h2 (by omega) (by omega)⟩
          next => cases hd1
        next hv21 => exact ⟨(c, 3), Or.inr (Or.inl ⟨Or.inr (Or.inr rfl), hc43⟩), (show 3 * (45 - c) + 1 < 3 * (45 - c) + 2 by omega), rfl, (fun h => h), ⟨hwf, Or.inr (Or.inr ⟨x, hx1, hx2, hx3, Or.inr ⟨v', h2, ⟨hv20, fun h => hv21 (Or.inl h), fun h => hv21 (Or.inr h)⟩, (fun h => absurd (show (3 : Nat) = 1 from h) (by decide)), (fun h => absurd (show (3 : Nat) = 2 from h) (by decide))⟩⟩)⟩, hloc 0 43 (c, 3) _ rfl (by omega) (by omega), hfs 0 19 v' h2 (by omega) (by omega)⟩
    next h9 => exact absurd hd1 (by simp)
end HSAID
