def ykx_0 : yCon := (83, [.inr (some 30), .inl ((.ofNat 0), (.ofNat 5))], [], [(some (.inl ((.ofNat 0), (.ofNat 0))), [], false), (some (.inl ((.ofNat 1), (.ofNat 2147483647))), [], false)], [], 1, false, [])
def yhx_0 : List yCut := []
def ykx_1 : yCon := (76, [.inr (some 30), .inl ((.ofNat 0), (.ofNat 5))], [], [(some (.inl ((.ofNat 0), (.ofNat 255))), [], false)], [], 1, false, [])
def yhx_1 : List yCut := []
def ykx_2 : yCon := (80, [.inr (some 30), .inl ((.ofNat 0), (.ofNat 5))], [], [(some (.inl ((.ofNat 0), (.ofNat 255))), [], false)], [], 3, false, [])
def yhx_2 : List yCut := [(4, [(0, .inr (some 30)), (1, .inl ((.ofNat 0), (.ofNat 5))), (2, .inl ((.ofNat 0), (.ofNat 255))), (3, .inl ((.ofNat 0), (.ofNat 8)))], [], [.inl (.ofNat 1), .inr (.inl 3)], false)]
def ykx_3 : yCon := (81, [.inr (some 30), .inl ((.ofNat 0), (.ofNat 5))], [], [(some (.inl ((.negSucc 2147483647), (.ofNat 2147483647))), [], false)], [], 3, false, [])
def yhx_3 : List yCut := [(4, [(0, .inr (some 30)), (1, .inl ((.ofNat 0), (.ofNat 5))), (2, .inl ((.negSucc 2147483647), (.ofNat 2147483647))), (3, .inl ((.ofNat 0), (.ofNat 8)))], [], [.inl (.ofNat 1), .inr (.inl 3)], false)]
def yCx_0 : List (List (List yCon)) := yCTabV
theorem ycx_0 : y_ckE yP0 yTYV zTF yRC yGR yCx_0 ykx_0 yhx_0 540 = true := by decide +kernel
theorem ydx_0 : ∀ h ∈ yhx_0, y_ckH yP0 yTYV zTF yRC yGR yCx_0 ykx_0 yhx_0 540 h = true := fun _ h => absurd h List.not_mem_nil
def yCx_1 : List (List (List yCon)) := y_cput yCx_0 83 ykx_0
theorem ycx_1 : y_ckE yP0 yTYV zTF yRC yGR yCx_1 ykx_1 yhx_1 508 = true := by decide +kernel
theorem ydx_1 : ∀ h ∈ yhx_1, y_ckH yP0 yTYV zTF yRC yGR yCx_1 ykx_1 yhx_1 508 h = true := fun _ h => absurd h List.not_mem_nil
def yCx_2 : List (List (List yCon)) := y_cput yCx_1 76 ykx_1
theorem ycx_2 : y_ckE yP0 yTYV zTF yRC yGR yCx_2 ykx_2 yhx_2 650 = true := by decide +kernel
theorem ydx_2 : ∀ h ∈ yhx_2, y_ckH yP0 yTYV zTF yRC yGR yCx_2 ykx_2 yhx_2 650 h = true := List.forall_mem_cons.mpr ⟨by decide +kernel, fun _ h => absurd h List.not_mem_nil⟩
def yCx_3 : List (List (List yCon)) := y_cput yCx_2 80 ykx_2
theorem ycx_3 : y_ckE yP0 yTYV zTF yRC yGR yCx_3 ykx_3 yhx_3 654 = true := by decide +kernel
theorem ydx_3 : ∀ h ∈ yhx_3, y_ckH yP0 yTYV zTF yRC yGR yCx_3 ykx_3 yhx_3 654 h = true := List.forall_mem_cons.mpr ⟨by decide +kernel, fun _ h => absurd h List.not_mem_nil⟩
section HX
variable {EX : (Nat → Prop) → State → Heap → Prop} {l : Launch} {kc : Nat → ClassId} {D : va_G} {xb : Nat} {ad : Nat → Option Nat} {RI : va_W → Prop}
theorem yqa_0 (hE : z_EX EX) : ∀ (j : Nat) (K : yCon), K ∈ y_cget yCx_0 j → K.1 = j ∧ (K.2.2.2.2.2.1 < 1000 → y_ConOk EX l zTB zNT kc D vwCl xb yTYV yGR (fun _ => True) ad yP0 K) := fun j K hK => ⟨yCT_jV hK, fun _ => y_consV hE hK⟩
theorem yqx_0 (hE : z_EX EX) : y_ConOk EX l zTB zNT kc D vwCl xb yTYV yGR (fun _ => True) ad yP0 ykx_0 := y_chk_ok (RC := yRC) hE (fun _ _ _ h => h) y_prog (fun j K hK => ⟨(yqa_0 (l := l) (kc := kc) (D := D) (xb := xb) (ad := ad) hE j K hK).1, fun h9 => (yqa_0 hE j K hK).2 (Nat.lt_of_lt_of_le h9 (by decide))⟩) ycx_0 ydx_0
theorem yqa_1 (hE : z_EX EX) : ∀ (j : Nat) (K : yCon), K ∈ y_cget yCx_1 j → K.1 = j ∧ (K.2.2.2.2.2.1 < 1000 → y_ConOk EX l zTB zNT kc D vwCl xb yTYV yGR (fun _ => True) ad yP0 K) := fun j K hK => by
  rcases y_cput_in hK with ⟨hj, rfl⟩ | hK
  · exact ⟨hj.symm, fun _ => yqx_0 hE⟩
  · exact yqa_0 hE j K hK
theorem yqx_1 (hE : z_EX EX) : y_ConOk EX l zTB zNT kc D vwCl xb yTYV yGR (fun _ => True) ad yP0 ykx_1 := y_chk_ok (RC := yRC) hE (fun _ _ _ h => h) y_prog (fun j K hK => ⟨(yqa_1 (l := l) (kc := kc) (D := D) (xb := xb) (ad := ad) hE j K hK).1, fun h9 => (yqa_1 hE j K hK).2 (Nat.lt_of_lt_of_le h9 (by decide))⟩) ycx_1 ydx_1
theorem yqa_2 (hE : z_EX EX) : ∀ (j : Nat) (K : yCon), K ∈ y_cget yCx_2 j → K.1 = j ∧ (K.2.2.2.2.2.1 < 1000 → y_ConOk EX l zTB zNT kc D vwCl xb yTYV yGR (fun _ => True) ad yP0 K) := fun j K hK => by
  rcases y_cput_in hK with ⟨hj, rfl⟩ | hK
  · exact ⟨hj.symm, fun _ => yqx_1 hE⟩
  · exact yqa_1 hE j K hK
theorem yqx_2 (hE : z_EX EX) : y_ConOk EX l zTB zNT kc D vwCl xb yTYV yGR (fun _ => True) ad yP0 ykx_2 := y_chk_ok (RC := yRC) hE (fun _ _ _ h => h) y_prog (fun j K hK => ⟨(yqa_2 (l := l) (kc := kc) (D := D) (xb := xb) (ad := ad) hE j K hK).1, fun h9 => (yqa_2 hE j K hK).2 (Nat.lt_of_lt_of_le h9 (by decide))⟩) ycx_2 ydx_2
theorem yqa_3 (hE : z_EX EX) : ∀ (j : Nat) (K : yCon), K ∈ y_cget yCx_3 j → K.1 = j ∧ (K.2.2.2.2.2.1 < 1000 → y_ConOk EX l zTB zNT kc D vwCl xb yTYV yGR (fun _ => True) ad yP0 K) := fun j K hK => by
  rcases y_cput_in hK with ⟨hj, rfl⟩ | hK
  · exact ⟨hj.symm, fun _ => yqx_2 hE⟩
  · exact yqa_2 hE j K hK
theorem yqx_3 (hE : z_EX EX) : y_ConOk EX l zTB zNT kc D vwCl xb yTYV yGR (fun _ => True) ad yP0 ykx_3 := y_chk_ok (RC := yRC) hE (fun _ _ _ h => h) y_prog (fun j K hK => ⟨(yqa_3 (l := l) (kc := kc) (D := D) (xb := xb) (ad := ad) hE j K hK).1, fun h9 => (yqa_3 hE j K hK).2 (Nat.lt_of_lt_of_le h9 (by decide))⟩) ycx_3 ydx_3
end HX
def hm_CT : List (List (List yCon)) := (y_cput (y_cput (y_cput (y_cput yCTabV 83 ykx_0) 76 ykx_1) 80 ykx_2) 81 ykx_3)
section HX2
variable {EX : (Nat → Prop) → State → Heap → Prop} {l : Launch} {kc : Nat → ClassId} {D : va_G} {xb : Nat} {ad : Nat → Option Nat}
theorem hm_all (hE : z_EX EX) (j : Nat) (K : yCon) (h : K ∈ y_cget hm_CT j) : K.1 = j ∧ (K.2.2.2.2.2.1 < 30 → y_ConOk EX l zTB zNT kc D vwCl xb yTYV yGR w_R ad yP0 K) := by
  rcases y_cput_in h with ⟨hj, rfl⟩ | h
  · exact ⟨hj.symm, fun _ => y_anyRI rfl rfl (yqx_3 hE)⟩
  rcases y_cput_in h with ⟨hj, rfl⟩ | h
  · exact ⟨hj.symm, fun _ => y_anyRI rfl rfl (yqx_2 hE)⟩
  rcases y_cput_in h with ⟨hj, rfl⟩ | h
  · exact ⟨hj.symm, fun _ => y_anyRI rfl rfl (yqx_1 hE)⟩
  rcases y_cput_in h with ⟨hj, rfl⟩ | h
  · exact ⟨hj.symm, fun _ => y_anyRI rfl rfl (yqx_0 hE)⟩
  exact ⟨yCT_jV h, fun _ => y_consV hE h⟩
end HX2
