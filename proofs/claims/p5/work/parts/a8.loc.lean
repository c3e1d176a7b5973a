theorem hl_loc {xs : Nat → Int32} {ad : Nat → Option Nat} {zl : List (Nat × yV)} (e2 : hl_lc zl = true) {i : Nat} {env : List Int} (he : hl_env i xs <+: env) {ls : Array Slot} (h1 : y_l env ad 7 zl ls) : y_l (hl_env i xs) ad 7 hl_zl ls := by
  unfold hl_lc at e2
  rw [Bool.and_eq_true] at e2
  obtain ⟨f1, f2⟩ := e2
  split at f1
  next g0 g1 g2 =>
    split at f2
    next g3 g4 =>
      obtain ⟨v0, a0, b0⟩ := y_l_at h1 g0
      obtain ⟨v1, a1, b1⟩ := y_l_at h1 g1
      obtain ⟨v2, a2, b2⟩ := y_l_at h1 g2
      obtain ⟨v3, a3, b3⟩ := y_l_at h1 g3
      obtain ⟨v4, a4, x4, rfl, b4⟩ := y_l_at h1 g4
      obtain ⟨lv, hlv, _⟩ := h1
      refine ⟨[(0, v0), (1, v1), (2, v2), (3, v3), (4, .int x4)], ⟨hlv.1, hlv.2.1, fun r hr => ?_⟩, ⟨rfl, b0⟩, ⟨rfl, b1⟩, ⟨rfl, b2⟩, ⟨rfl, b3⟩, ⟨rfl, x4, rfl, ?_⟩, trivial⟩
      · rcases List.mem_cons.mp hr with rfl | hr
        · exact a0
        rcases List.mem_cons.mp hr with rfl | hr
        · exact a1
        rcases List.mem_cons.mp hr with rfl | hr
        · exact a2
        rcases List.mem_cons.mp hr with rfl | hr
        · exact a3
        have := List.mem_singleton.mp hr
        subst this
        exact a4
      · have he0 : env[0]? = some (i : Int) := y_pre_get he rfl
        unfold y_e at b4
        dsimp only at b4
        rw [he0] at b4
        exact (show y_e (hl_env i xs) (.inr (0, 0)) = some ((i : Int) + 0) from rfl).trans b4
    next => cases f2
  next => cases f1
