theorem zk_0 {p : Program} {l : Launch} {e : Env} {s : State} {m : MethodId} {below : List Frame} {meth : Method} {c : Code} {b : Nat} {xs : Nat → Int32} {kc : Nat → ClassId} {D : va_G} {EX : (Nat → Prop) → State → Heap → Prop} (h : zq_C EX p s m meth c b 6 xs kc D) : zLG p l e s m below meth c b xs kc D 220 zs0 := by
  have hz := z_any (xs 1)
  exact zl_one h (zl_B (lo := (-2147483648)) (hi := (2147483647)) (by omega) (by omega)) z_no_ok zr_0_0
theorem zk_1 {p : Program} {l : Launch} {e : Env} {s : State} {m : MethodId} {below : List Frame} {meth : Method} {c : Code} {b : Nat} {xs : Nat → Int32} {kc : Nat → ClassId} {D : va_G} {EX : (Nat → Prop) → State → Heap → Prop} (h : zq_C EX p s m meth c b 6 xs kc D) : zLG p l e s m below meth c b xs kc D 293 zs0 := by
  have hz := z_any (xs 1)
  by_cases g0 : (xs 1).toInt ≤ -1
  · exact zl_one h (zl_B (lo := (-2147483648)) (hi := (-1)) (by omega) (by omega)) z_no_ok zr_1_1
  · skip
    by_cases g1 : (xs 1).toInt ≤ 0
    · exact zl_one h (zl_B (lo := (0)) (hi := (0)) (by omega) (by omega)) z_no_ok zr_1_2
    · skip
      exact zl_one h (zl_B (lo := (1)) (hi := (2147483647)) (by omega) (by omega)) z_no_ok zr_1_3
theorem zk_2 {p : Program} {l : Launch} {e : Env} {s : State} {m : MethodId} {below : List Frame} {meth : Method} {c : Code} {b : Nat} {xs : Nat → Int32} {kc : Nat → ClassId} {D : va_G} {EX : (Nat → Prop) → State → Heap → Prop} (h : zq_C EX p s m meth c b 6 xs kc D) : zLG p l e s m below meth c b xs kc D 318 zs0 := by
  have hz := z_any (xs 1)
  exact zl_one h (zl_B (lo := (-2147483648)) (hi := (2147483647)) (by omega) (by omega)) (zg_ok4 h.2.2.2.1 (zl_B (lo := (-2147483648)) (hi := (2147483647)) (by omega) (by omega))) zr_2_4
theorem zk_3 {p : Program} {l : Launch} {e : Env} {s : State} {m : MethodId} {below : List Frame} {meth : Method} {c : Code} {b : Nat} {xs : Nat → Int32} {kc : Nat → ClassId} {D : va_G} {EX : (Nat → Prop) → State → Heap → Prop} (h : zq_C EX p s m meth c b 6 xs kc D) : zLG p l e s m below meth c b xs kc D 331 zs0 := by
  have hz := z_any (xs 1)
  exact zl_one h (zl_B (lo := (-2147483648)) (hi := (2147483647)) (by omega) (by omega)) z_no_ok zr_3_5
theorem zk_4 {p : Program} {l : Launch} {e : Env} {s : State} {m : MethodId} {below : List Frame} {meth : Method} {c : Code} {b : Nat} {xs : Nat → Int32} {kc : Nat → ClassId} {D : va_G} {EX : (Nat → Prop) → State → Heap → Prop} (h : zq_C EX p s m meth c b 6 xs kc D) : zLG p l e s m below meth c b xs kc D 344 zs0 := by
  have hz := z_any (xs 1)
  by_cases g0 : (xs 1).toInt ≤ -1
  · exact zl_one h (zl_B (lo := (-2147483648)) (hi := (-1)) (by omega) (by omega)) z_no_ok zr_4_6
  · skip
    exact zl_one h (zl_B (lo := (0)) (hi := (2147483647)) (by omega) (by omega)) z_no_ok zr_4_7
theorem zk_7 {p : Program} {l : Launch} {e : Env} {s : State} {m : MethodId} {below : List Frame} {meth : Method} {c : Code} {b : Nat} {xs : Nat → Int32} {kc : Nat → ClassId} {D : va_G} {EX : (Nat → Prop) → State → Heap → Prop} (h : zq_C EX p s m meth c b 6 xs kc D) : zLG p l e s m below meth c b xs kc D 517 zs0 := by
  have hz := z_any (xs 1)
  by_cases g0 : (xs 1).toInt ≤ -1
  · exact zl_one h (zl_B (lo := (-2147483648)) (hi := (-1)) (by omega) (by omega)) z_no_ok zr_7_8
  · skip
    by_cases g1 : (xs 1).toInt ≤ 0
    · exact zl_one h (zl_B (lo := (0)) (hi := (0)) (by omega) (by omega)) z_no_ok zr_7_9
    · skip
      by_cases g2 : (xs 1).toInt ≤ 1
      · exact zl_one h (zl_B (lo := (1)) (hi := (1)) (by omega) (by omega)) z_no_ok zr_7_10
      · skip
        by_cases g3 : (xs 1).toInt ≤ 2
        · exact zl_one h (zl_B (lo := (2)) (hi := (2)) (by omega) (by omega)) z_no_ok zr_7_11
        · skip
          by_cases g4 : (xs 1).toInt ≤ 3
          · exact zl_one h (zl_B (lo := (3)) (hi := (3)) (by omega) (by omega)) z_no_ok zr_7_12
          · skip
            by_cases g5 : (xs 1).toInt ≤ 4
            · exact zl_one h (zl_B (lo := (4)) (hi := (4)) (by omega) (by omega)) z_no_ok zr_7_13
            · skip
              by_cases g6 : (xs 1).toInt ≤ 5
              · exact zl_one h (zl_B (lo := (5)) (hi := (5)) (by omega) (by omega)) z_no_ok zr_7_14
              · skip
                by_cases g7 : (xs 1).toInt ≤ 6
                · exact zl_one h (zl_B (lo := (6)) (hi := (6)) (by omega) (by omega)) z_no_ok zr_7_15
                · skip
                  by_cases g8 : (xs 1).toInt ≤ 7
                  · exact zl_one h (zl_B (lo := (7)) (hi := (7)) (by omega) (by omega)) z_no_ok zr_7_16
                  · skip
                    exact zl_one h (zl_B (lo := (8)) (hi := (2147483647)) (by omega) (by omega)) z_no_ok zr_7_17
theorem zk_8 {p : Program} {l : Launch} {e : Env} {s : State} {m : MethodId} {below : List Frame} {meth : Method} {c : Code} {b : Nat} {xs : Nat → Int32} {kc : Nat → ClassId} {D : va_G} {EX : (Nat → Prop) → State → Heap → Prop} (h : zq_C EX p s m meth c b 6 xs kc D) : zLG p l e s m below meth c b xs kc D 542 zs0 := by
  have hz := z_any (xs 1)
  by_cases g0 : (xs 1).toInt ≤ -1
  · exact zl_one h (zl_B (lo := (-2147483648)) (hi := (-1)) (by omega) (by omega)) z_no_ok zr_8_18
  · skip
    exact zl_one h (zl_B (lo := (0)) (hi := (2147483647)) (by omega) (by omega)) z_no_ok zr_8_19
theorem zk_9 {p : Program} {l : Launch} {e : Env} {s : State} {m : MethodId} {below : List Frame} {meth : Method} {c : Code} {b : Nat} {xs : Nat → Int32} {kc : Nat → ClassId} {D : va_G} {EX : (Nat → Prop) → State → Heap → Prop} (h : zq_C EX p s m meth c b 6 xs kc D) : zLG p l e s m below meth c b xs kc D 579 zs0 := by
  have hz := z_any (xs 1)
  by_cases g0 : (xs 1).toInt ≤ -1
  · exact zl_one h (zl_B (lo := (-2147483648)) (hi := (-1)) (by omega) (by omega)) z_no_ok zr_9_20
  · skip
    exact zl_one h (zl_B (lo := (0)) (hi := (2147483647)) (by omega) (by omega)) z_no_ok zr_9_21
theorem zk_10 {p : Program} {l : Launch} {e : Env} {s : State} {m : MethodId} {below : List Frame} {meth : Method} {c : Code} {b : Nat} {xs : Nat → Int32} {kc : Nat → ClassId} {D : va_G} {EX : (Nat → Prop) → State → Heap → Prop} (h : zq_C EX p s m meth c b 6 xs kc D) : zLG p l e s m below meth c b xs kc D 616 zs0 := by
  have hz := z_any (xs 1)
  by_cases g0 : (xs 1).toInt ≤ -1
  · exact zl_one h (zl_B (lo := (-2147483648)) (hi := (-1)) (by omega) (by omega)) z_no_ok zr_10_22
  · skip
    exact zl_one h (zl_B (lo := (0)) (hi := (2147483647)) (by omega) (by omega)) z_no_ok zr_10_23
theorem zk_11 {p : Program} {l : Launch} {e : Env} {s : State} {m : MethodId} {below : List Frame} {meth : Method} {c : Code} {b : Nat} {xs : Nat → Int32} {kc : Nat → ClassId} {D : va_G} {EX : (Nat → Prop) → State → Heap → Prop} (h : zq_C EX p s m meth c b 6 xs kc D) : zLG p l e s m below meth c b xs kc D 653 zs0 := by
  have hz := z_any (xs 1)
  by_cases g0 : (xs 1).toInt ≤ -1
  · exact zl_one h (zl_B (lo := (-2147483648)) (hi := (-1)) (by omega) (by omega)) z_no_ok zr_11_24
  · skip
    exact zl_one h (zl_B (lo := (0)) (hi := (2147483647)) (by omega) (by omega)) z_no_ok zr_11_25
theorem zk_12 {p : Program} {l : Launch} {e : Env} {s : State} {m : MethodId} {below : List Frame} {meth : Method} {c : Code} {b : Nat} {xs : Nat → Int32} {kc : Nat → ClassId} {D : va_G} {EX : (Nat → Prop) → State → Heap → Prop} (h : zq_C EX p s m meth c b 6 xs kc D) : zLG p l e s m below meth c b xs kc D 678 zs0 := by
  have hz := z_any (xs 1)
  by_cases g0 : (xs 1).toInt ≤ 0
  · exact zl_one h (zl_B (lo := (-2147483648)) (hi := (0)) (by omega) (by omega)) z_no_ok zr_12_26
  · skip
    by_cases g1 : (xs 1).toInt ≤ 60
    · exact zl_one h (zl_B (lo := (1)) (hi := (60)) (by omega) (by omega)) (zl_D h.2.2.2.1 (by omega) (by omega)) zr_12_28
    · skip
      exact zl_one h (zl_B (lo := (61)) (hi := (2147483647)) (by omega) (by omega)) z_no_ok zr_12_27
theorem zk_13 {p : Program} {l : Launch} {e : Env} {s : State} {m : MethodId} {below : List Frame} {meth : Method} {c : Code} {b : Nat} {xs : Nat → Int32} {kc : Nat → ClassId} {D : va_G} {EX : (Nat → Prop) → State → Heap → Prop} (h : zq_C EX p s m meth c b 6 xs kc D) : zLG p l e s m below meth c b xs kc D 703 zs0 := by
  have hz := z_any (xs 1)
  exact zl_one h (zl_B (lo := (-2147483648)) (hi := (2147483647)) (by omega) (by omega)) z_no_ok zr_13_29
theorem zk_14 {p : Program} {l : Launch} {e : Env} {s : State} {m : MethodId} {below : List Frame} {meth : Method} {c : Code} {b : Nat} {xs : Nat → Int32} {kc : Nat → ClassId} {D : va_G} {EX : (Nat → Prop) → State → Heap → Prop} (h : zq_C EX p s m meth c b 6 xs kc D) : zLG p l e s m below meth c b xs kc D 716 zs0 := by
  have hz := z_any (xs 1)
  by_cases g0 : (xs 1).toInt ≤ -1
  · exact zl_one h (zl_B (lo := (-2147483648)) (hi := (-1)) (by omega) (by omega)) z_no_ok zr_14_30
  · skip
    exact zl_one h (zl_B (lo := (0)) (hi := (2147483647)) (by omega) (by omega)) z_no_ok zr_14_31
theorem zk_15 {p : Program} {l : Launch} {e : Env} {s : State} {m : MethodId} {below : List Frame} {meth : Method} {c : Code} {b : Nat} {xs : Nat → Int32} {kc : Nat → ClassId} {D : va_G} {EX : (Nat → Prop) → State → Heap → Prop} (h : zq_C EX p s m meth c b 6 xs kc D) : zLG p l e s m below meth c b xs kc D 753 zs0 := by
  have hz := z_any (xs 1)
  exact zl_one h (zl_B (lo := (-2147483648)) (hi := (2147483647)) (by omega) (by omega)) z_no_ok zr_15_32
theorem zk_16 {p : Program} {l : Launch} {e : Env} {s : State} {m : MethodId} {below : List Frame} {meth : Method} {c : Code} {b : Nat} {xs : Nat → Int32} {kc : Nat → ClassId} {D : va_G} {EX : (Nat → Prop) → State → Heap → Prop} (h : zq_C EX p s m meth c b 6 xs kc D) : zLG p l e s m below meth c b xs kc D 766 zs0 := by
  have hz := z_any (xs 1)
  by_cases g0 : (xs 1).toInt ≤ -1
  · exact zl_one h (zl_B (lo := (-2147483648)) (hi := (-1)) (by omega) (by omega)) z_no_ok zr_16_33
  · skip
    exact zl_one h (zl_B (lo := (0)) (hi := (2147483647)) (by omega) (by omega)) z_no_ok zr_16_34
theorem zk_17 {p : Program} {l : Launch} {e : Env} {s : State} {m : MethodId} {below : List Frame} {meth : Method} {c : Code} {b : Nat} {xs : Nat → Int32} {kc : Nat → ClassId} {D : va_G} {EX : (Nat → Prop) → State → Heap → Prop} (h : zq_C EX p s m meth c b 6 xs kc D) : zLG p l e s m below meth c b xs kc D 827 zs0 := by
  have hz := z_any (xs 1)
  exact zl_one h (zl_B (lo := (-2147483648)) (hi := (2147483647)) (by omega) (by omega)) z_no_ok zr_17_35
theorem zk_18 {p : Program} {l : Launch} {e : Env} {s : State} {m : MethodId} {below : List Frame} {meth : Method} {c : Code} {b : Nat} {xs : Nat → Int32} {kc : Nat → ClassId} {D : va_G} {EX : (Nat → Prop) → State → Heap → Prop} (h : zq_C EX p s m meth c b 6 xs kc D) : zLG p l e s m below meth c b xs kc D 840 zs0 := by
  have hz := z_any (xs 1)
  by_cases g0 : (xs 1).toInt ≤ -1
  · exact zl_one h (zl_B (lo := (-2147483648)) (hi := (-1)) (by omega) (by omega)) z_no_ok zr_18_36
  · skip
    exact zl_one h (zl_B (lo := (0)) (hi := (2147483647)) (by omega) (by omega)) z_no_ok zr_18_37
theorem zk_19 {p : Program} {l : Launch} {e : Env} {s : State} {m : MethodId} {below : List Frame} {meth : Method} {c : Code} {b : Nat} {xs : Nat → Int32} {kc : Nat → ClassId} {D : va_G} {EX : (Nat → Prop) → State → Heap → Prop} (h : zq_C EX p s m meth c b 6 xs kc D) : zLG p l e s m below meth c b xs kc D 865 zs0 := by
  have hz := z_any (xs 1)
  by_cases g0 : (xs 1).toInt ≤ -1
  · exact zl_one h (zl_B (lo := (-2147483648)) (hi := (-1)) (by omega) (by omega)) z_no_ok zr_19_38
  · skip
    exact zl_one h (zl_B (lo := (0)) (hi := (2147483647)) (by omega) (by omega)) z_no_ok zr_19_39
theorem zk_20 {p : Program} {l : Launch} {e : Env} {s : State} {m : MethodId} {below : List Frame} {meth : Method} {c : Code} {b : Nat} {xs : Nat → Int32} {kc : Nat → ClassId} {D : va_G} {EX : (Nat → Prop) → State → Heap → Prop} (h : zq_C EX p s m meth c b 6 xs kc D) : zLG p l e s m below meth c b xs kc D 890 zs0 := by
  have hz := z_any (xs 1)
  by_cases g0 : (xs 1).toInt ≤ -1
  · exact zl_one h (zl_B (lo := (-2147483648)) (hi := (-1)) (by omega) (by omega)) z_no_ok zr_20_40
  · skip
    by_cases g1 : (xs 1).toInt ≤ 0
    · exact zl_one h (zl_B (lo := (0)) (hi := (0)) (by omega) (by omega)) z_no_ok zr_20_41
    · skip
      exact zl_one h (zl_B (lo := (1)) (hi := (2147483647)) (by omega) (by omega)) z_no_ok zr_20_42
theorem zk_21 {p : Program} {l : Launch} {e : Env} {s : State} {m : MethodId} {below : List Frame} {meth : Method} {c : Code} {b : Nat} {xs : Nat → Int32} {kc : Nat → ClassId} {D : va_G} {EX : (Nat → Prop) → State → Heap → Prop} (h : zq_C EX p s m meth c b 6 xs kc D) : zLG p l e s m below meth c b xs kc D 915 zs0 := by
  have hz := z_any (xs 1)
  by_cases g0 : (xs 1).toInt ≤ -1
  · exact zl_one h (zl_B (lo := (-2147483648)) (hi := (-1)) (by omega) (by omega)) z_no_ok zr_21_43
  · skip
    exact zl_one h (zl_B (lo := (0)) (hi := (2147483647)) (by omega) (by omega)) z_no_ok zr_21_44
theorem zk_22 {p : Program} {l : Launch} {e : Env} {s : State} {m : MethodId} {below : List Frame} {meth : Method} {c : Code} {b : Nat} {xs : Nat → Int32} {kc : Nat → ClassId} {D : va_G} {EX : (Nat → Prop) → State → Heap → Prop} (h : zq_C EX p s m meth c b 6 xs kc D) : zLG p l e s m below meth c b xs kc D 952 zs0 := by
  have hz := z_any (xs 1)
  by_cases g0 : (xs 1).toInt ≤ -1
  · exact zl_one h (zl_B (lo := (-2147483648)) (hi := (-1)) (by omega) (by omega)) z_no_ok zr_22_45
  · skip
    exact zl_one h (zl_B (lo := (0)) (hi := (2147483647)) (by omega) (by omega)) z_no_ok zr_22_46
theorem zk_23 {p : Program} {l : Launch} {e : Env} {s : State} {m : MethodId} {below : List Frame} {meth : Method} {c : Code} {b : Nat} {xs : Nat → Int32} {kc : Nat → ClassId} {D : va_G} {EX : (Nat → Prop) → State → Heap → Prop} (h : zq_C EX p s m meth c b 6 xs kc D) : zLG p l e s m below meth c b xs kc D 989 zs0 := by
  have hz := z_any (xs 1)
  by_cases g0 : (xs 1).toInt ≤ 0
  · exact zl_one h (zl_B (lo := (-2147483648)) (hi := (0)) (by omega) (by omega)) z_no_ok zr_23_47
  · skip
    by_cases g1 : (xs 1).toInt ≤ 60
    · exact zl_one h (zl_B (lo := (1)) (hi := (60)) (by omega) (by omega)) (zl_D h.2.2.2.1 (by omega) (by omega)) zr_23_49
    · skip
      exact zl_one h (zl_B (lo := (61)) (hi := (2147483647)) (by omega) (by omega)) z_no_ok zr_23_48
theorem zk_24 {p : Program} {l : Launch} {e : Env} {s : State} {m : MethodId} {below : List Frame} {meth : Method} {c : Code} {b : Nat} {xs : Nat → Int32} {kc : Nat → ClassId} {D : va_G} {EX : (Nat → Prop) → State → Heap → Prop} (h : zq_C EX p s m meth c b 6 xs kc D) : zLG p l e s m below meth c b xs kc D 1014 zs0 := by
  have hz := z_any (xs 1)
  exact zl_one h (zl_B (lo := (-2147483648)) (hi := (2147483647)) (by omega) (by omega)) z_no_ok zr_24_50
theorem zk_25 {p : Program} {l : Launch} {e : Env} {s : State} {m : MethodId} {below : List Frame} {meth : Method} {c : Code} {b : Nat} {xs : Nat → Int32} {kc : Nat → ClassId} {D : va_G} {EX : (Nat → Prop) → State → Heap → Prop} (h : zq_C EX p s m meth c b 6 xs kc D) : zLG p l e s m below meth c b xs kc D 1027 zs0 := by
  have hz := z_any (xs 1)
  by_cases g0 : (xs 1).toInt ≤ -1
  · exact zl_one h (zl_B (lo := (-2147483648)) (hi := (-1)) (by omega) (by omega)) z_no_ok zr_25_51
  · skip
    exact zl_one h (zl_B (lo := (0)) (hi := (2147483647)) (by omega) (by omega)) z_no_ok zr_25_52
theorem zk_26 {p : Program} {l : Launch} {e : Env} {s : State} {m : MethodId} {below : List Frame} {meth : Method} {c : Code} {b : Nat} {xs : Nat → Int32} {kc : Nat → ClassId} {D : va_G} {EX : (Nat → Prop) → State → Heap → Prop} (h : zq_C EX p s m meth c b 6 xs kc D) : zLG p l e s m below meth c b xs kc D 1052 zs0 := by
  have hz := z_any (xs 1)
  by_cases g0 : (xs 1).toInt ≤ -1
  · exact zl_one h (zl_B (lo := (-2147483648)) (hi := (-1)) (by omega) (by omega)) z_no_ok zr_26_53
  · skip
    exact zl_one h (zl_B (lo := (0)) (hi := (2147483647)) (by omega) (by omega)) z_no_ok zr_26_54
theorem zk_27 {p : Program} {l : Launch} {e : Env} {s : State} {m : MethodId} {below : List Frame} {meth : Method} {c : Code} {b : Nat} {xs : Nat → Int32} {kc : Nat → ClassId} {D : va_G} {EX : (Nat → Prop) → State → Heap → Prop} (h : zq_C EX p s m meth c b 6 xs kc D) : zLG p l e s m below meth c b xs kc D 1089 zs0 := by
  have hz := z_any (xs 1)
  exact zl_one h (zl_B (lo := (-2147483648)) (hi := (2147483647)) (by omega) (by omega)) z_no_ok zr_27_55
theorem zk_28 {p : Program} {l : Launch} {e : Env} {s : State} {m : MethodId} {below : List Frame} {meth : Method} {c : Code} {b : Nat} {xs : Nat → Int32} {kc : Nat → ClassId} {D : va_G} {EX : (Nat → Prop) → State → Heap → Prop} (h : zq_C EX p s m meth c b 6 xs kc D) : zLG p l e s m below meth c b xs kc D 1102 zs0 := by
  have hz := z_any (xs 1)
  exact zl_one h (zl_B (lo := (-2147483648)) (hi := (2147483647)) (by omega) (by omega)) z_no_ok zr_28_56
theorem zk_29 {p : Program} {l : Launch} {e : Env} {s : State} {m : MethodId} {below : List Frame} {meth : Method} {c : Code} {b : Nat} {xs : Nat → Int32} {kc : Nat → ClassId} {D : va_G} {EX : (Nat → Prop) → State → Heap → Prop} (h : zq_C EX p s m meth c b 6 xs kc D) : zLG p l e s m below meth c b xs kc D 1115 zs0 := by
  have hz := z_any (xs 1)
  exact zl_one h (zl_B (lo := (-2147483648)) (hi := (2147483647)) (by omega) (by omega)) z_no_ok zr_29_57
theorem zk_30 {p : Program} {l : Launch} {e : Env} {s : State} {m : MethodId} {below : List Frame} {meth : Method} {c : Code} {b : Nat} {xs : Nat → Int32} {kc : Nat → ClassId} {D : va_G} {EX : (Nat → Prop) → State → Heap → Prop} (h : zq_C EX p s m meth c b 6 xs kc D) : zLG p l e s m below meth c b xs kc D 1128 zs0 := by
  have hz := z_any (xs 1)
  exact zl_one h (zl_B (lo := (-2147483648)) (hi := (2147483647)) (by omega) (by omega)) z_no_ok zr_30_58
theorem zk_31 {p : Program} {l : Launch} {e : Env} {s : State} {m : MethodId} {below : List Frame} {meth : Method} {c : Code} {b : Nat} {xs : Nat → Int32} {kc : Nat → ClassId} {D : va_G} {EX : (Nat → Prop) → State → Heap → Prop} (h : zq_C EX p s m meth c b 6 xs kc D) : zLG p l e s m below meth c b xs kc D 1141 zs0 := by
  have hz := z_any (xs 1)
  exact zl_one h (zl_B (lo := (-2147483648)) (hi := (2147483647)) (by omega) (by omega)) z_no_ok zr_31_59
theorem zk_32 {p : Program} {l : Launch} {e : Env} {s : State} {m : MethodId} {below : List Frame} {meth : Method} {c : Code} {b : Nat} {xs : Nat → Int32} {kc : Nat → ClassId} {D : va_G} {EX : (Nat → Prop) → State → Heap → Prop} (h : zq_C EX p s m meth c b 6 xs kc D) : zLG p l e s m below meth c b xs kc D 1154 zs0 := by
  have hz := z_any (xs 1)
  by_cases g0 : (xs 1).toInt ≤ 0
  · exact zl_one h (zl_B (lo := (-2147483648)) (hi := (0)) (by omega) (by omega)) z_no_ok zr_32_60
  · skip
    by_cases g1 : (xs 1).toInt ≤ 60
    · exact zl_one h (zl_B (lo := (1)) (hi := (60)) (by omega) (by omega)) z_no_ok zr_32_61
    · skip
      exact zl_one h (zl_B (lo := (61)) (hi := (2147483647)) (by omega) (by omega)) z_no_ok zr_32_62
theorem zk_33 {p : Program} {l : Launch} {e : Env} {s : State} {m : MethodId} {below : List Frame} {meth : Method} {c : Code} {b : Nat} {xs : Nat → Int32} {kc : Nat → ClassId} {D : va_G} {EX : (Nat → Prop) → State → Heap → Prop} (h : zq_C EX p s m meth c b 6 xs kc D) : zLG p l e s m below meth c b xs kc D 1191 zs0 := by
  have hz := z_any (xs 1)
  by_cases g0 : (xs 1).toInt ≤ -1
  · exact zl_one h (zl_B (lo := (-2147483648)) (hi := (-1)) (by omega) (by omega)) z_no_ok zr_33_63
  · skip
    exact zl_one h (zl_B (lo := (0)) (hi := (2147483647)) (by omega) (by omega)) z_no_ok zr_33_64
theorem zk_34 {p : Program} {l : Launch} {e : Env} {s : State} {m : MethodId} {below : List Frame} {meth : Method} {c : Code} {b : Nat} {xs : Nat → Int32} {kc : Nat → ClassId} {D : va_G} {EX : (Nat → Prop) → State → Heap → Prop} (h : zq_C EX p s m meth c b 6 xs kc D) : zLG p l e s m below meth c b xs kc D 1240 zs0 := by
  have hz := z_any (xs 1)
  by_cases g0 : (xs 1).toInt ≤ -1
  · exact zl_one h (zl_B (lo := (-2147483648)) (hi := (-1)) (by omega) (by omega)) z_no_ok zr_34_65
  · skip
    by_cases g1 : (xs 1).toInt ≤ 0
    · exact zl_one h (zl_B (lo := (0)) (hi := (0)) (by omega) (by omega)) z_no_ok zr_34_66
    · skip
      by_cases g2 : (xs 1).toInt ≤ 1
      · exact zl_one h (zl_B (lo := (1)) (hi := (1)) (by omega) (by omega)) z_no_ok zr_34_67
      · skip
        exact zl_one h (zl_B (lo := (2)) (hi := (2147483647)) (by omega) (by omega)) z_no_ok zr_34_68
theorem zk_35 {p : Program} {l : Launch} {e : Env} {s : State} {m : MethodId} {below : List Frame} {meth : Method} {c : Code} {b : Nat} {xs : Nat → Int32} {kc : Nat → ClassId} {D : va_G} {EX : (Nat → Prop) → State → Heap → Prop} (h : zq_C EX p s m meth c b 6 xs kc D) : zLG p l e s m below meth c b xs kc D 1265 zs0 := by
  have hz := z_any (xs 1)
  by_cases g0 : (xs 1).toInt ≤ -1
  · exact zl_one h (zl_B (lo := (-2147483648)) (hi := (-1)) (by omega) (by omega)) z_no_ok zr_35_69
  · skip
    by_cases g1 : (xs 1).toInt ≤ 0
    · exact zl_one h (zl_B (lo := (0)) (hi := (0)) (by omega) (by omega)) z_no_ok zr_35_70
    · skip
      by_cases g2 : (xs 1).toInt ≤ 1
      · exact zl_one h (zl_B (lo := (1)) (hi := (1)) (by omega) (by omega)) z_no_ok zr_35_71
      · skip
        by_cases g3 : (xs 1).toInt ≤ 2
        · exact zl_one h (zl_B (lo := (2)) (hi := (2)) (by omega) (by omega)) z_no_ok zr_35_72
        · skip
          by_cases g4 : (xs 1).toInt ≤ 3
          · exact zl_one h (zl_B (lo := (3)) (hi := (3)) (by omega) (by omega)) z_no_ok zr_35_73
          · skip
            exact zl_one h (zl_B (lo := (4)) (hi := (2147483647)) (by omega) (by omega)) z_no_ok zr_35_74
theorem zk_36 {p : Program} {l : Launch} {e : Env} {s : State} {m : MethodId} {below : List Frame} {meth : Method} {c : Code} {b : Nat} {xs : Nat → Int32} {kc : Nat → ClassId} {D : va_G} {EX : (Nat → Prop) → State → Heap → Prop} (h : zq_C EX p s m meth c b 6 xs kc D) : zLG p l e s m below meth c b xs kc D 1290 zs0 := by
  have hz := z_any (xs 1)
  exact zl_one h (zl_B (lo := (-2147483648)) (hi := (2147483647)) (by omega) (by omega)) z_no_ok zr_36_75
theorem zk_37 {p : Program} {l : Launch} {e : Env} {s : State} {m : MethodId} {below : List Frame} {meth : Method} {c : Code} {b : Nat} {xs : Nat → Int32} {kc : Nat → ClassId} {D : va_G} {EX : (Nat → Prop) → State → Heap → Prop} (h : zq_C EX p s m meth c b 6 xs kc D) : zLG p l e s m below meth c b xs kc D 1303 zs0 := by
  have hz := z_any (xs 1)
  exact zl_one h (zl_B (lo := (-2147483648)) (hi := (2147483647)) (by omega) (by omega)) z_no_ok zr_37_76
theorem zk_38 {p : Program} {l : Launch} {e : Env} {s : State} {m : MethodId} {below : List Frame} {meth : Method} {c : Code} {b : Nat} {xs : Nat → Int32} {kc : Nat → ClassId} {D : va_G} {EX : (Nat → Prop) → State → Heap → Prop} (h : zq_C EX p s m meth c b 6 xs kc D) : zLG p l e s m below meth c b xs kc D 1328 zs0 := by
  have hz := z_any (xs 1)
  by_cases g0 : (xs 1).toInt ≤ -1
  · exact zl_one h (zl_B (lo := (-2147483648)) (hi := (-1)) (by omega) (by omega)) z_no_ok zr_38_77
  · skip
    by_cases g1 : (xs 1).toInt ≤ 0
    · exact zl_one h (zl_B (lo := (0)) (hi := (0)) (by omega) (by omega)) (zg_ok78 h.2.2.2.1 (zl_B (lo := (0)) (hi := (0)) (by omega) (by omega))) zr_38_78
    · skip
      by_cases g2 : (xs 1).toInt ≤ 1
      · exact zl_one h (zl_B (lo := (1)) (hi := (1)) (by omega) (by omega)) (zg_ok79 h.2.2.2.1 (zl_B (lo := (1)) (hi := (1)) (by omega) (by omega))) zr_38_79
      · skip
        exact zl_one h (zl_B (lo := (2)) (hi := (2147483647)) (by omega) (by omega)) z_no_ok zr_38_80
theorem zk_39 {p : Program} {l : Launch} {e : Env} {s : State} {m : MethodId} {below : List Frame} {meth : Method} {c : Code} {b : Nat} {xs : Nat → Int32} {kc : Nat → ClassId} {D : va_G} {EX : (Nat → Prop) → State → Heap → Prop} (h : zq_C EX p s m meth c b 6 xs kc D) : zLG p l e s m below meth c b xs kc D 1353 zs0 := by
  have hz := z_any (xs 1)
  by_cases g0 : (xs 1).toInt ≤ -1
  · exact zl_one h (zl_B (lo := (-2147483648)) (hi := (-1)) (by omega) (by omega)) z_no_ok zr_39_81
  · skip
    by_cases g1 : (xs 1).toInt ≤ 0
    · exact zl_one h (zl_B (lo := (0)) (hi := (0)) (by omega) (by omega)) z_no_ok zr_39_82
    · skip
      by_cases g2 : (xs 1).toInt ≤ 1
      · exact zl_one h (zl_B (lo := (1)) (hi := (1)) (by omega) (by omega)) z_no_ok zr_39_83
      · skip
        exact zl_one h (zl_B (lo := (2)) (hi := (2147483647)) (by omega) (by omega)) z_no_ok zr_39_84
theorem zk_40 {p : Program} {l : Launch} {e : Env} {s : State} {m : MethodId} {below : List Frame} {meth : Method} {c : Code} {b : Nat} {xs : Nat → Int32} {kc : Nat → ClassId} {D : va_G} {EX : (Nat → Prop) → State → Heap → Prop} (h : zq_C EX p s m meth c b 6 xs kc D) : zLG p l e s m below meth c b xs kc D 1378 zs0 := by
  have hz := z_any (xs 1)
  by_cases g0 : (xs 1).toInt ≤ -1
  · exact zl_one h (zl_B (lo := (-2147483648)) (hi := (-1)) (by omega) (by omega)) z_no_ok zr_40_85
  · skip
    by_cases g1 : (xs 1).toInt ≤ 0
    · exact zl_one h (zl_B (lo := (0)) (hi := (0)) (by omega) (by omega)) z_no_ok zr_40_86
    · skip
      by_cases g2 : (xs 1).toInt ≤ 1
      · exact zl_one h (zl_B (lo := (1)) (hi := (1)) (by omega) (by omega)) z_no_ok zr_40_87
      · skip
        by_cases g3 : (xs 1).toInt ≤ 2
        · exact zl_one h (zl_B (lo := (2)) (hi := (2)) (by omega) (by omega)) z_no_ok zr_40_88
        · skip
          by_cases g4 : (xs 1).toInt ≤ 3
          · exact zl_one h (zl_B (lo := (3)) (hi := (3)) (by omega) (by omega)) z_no_ok zr_40_89
          · skip
            by_cases g5 : (xs 1).toInt ≤ 4
            · exact zl_one h (zl_B (lo := (4)) (hi := (4)) (by omega) (by omega)) z_no_ok zr_40_90
            · skip
              by_cases g6 : (xs 1).toInt ≤ 5
              · exact zl_one h (zl_B (lo := (5)) (hi := (5)) (by omega) (by omega)) z_no_ok zr_40_91
              · skip
                by_cases g7 : (xs 1).toInt ≤ 6
                · exact zl_one h (zl_B (lo := (6)) (hi := (6)) (by omega) (by omega)) z_no_ok zr_40_92
                · skip
                  by_cases g8 : (xs 1).toInt ≤ 7
                  · exact zl_one h (zl_B (lo := (7)) (hi := (7)) (by omega) (by omega)) z_no_ok zr_40_93
                  · skip
                    exact zl_one h (zl_B (lo := (8)) (hi := (2147483647)) (by omega) (by omega)) z_no_ok zr_40_94
theorem zk_41 {p : Program} {l : Launch} {e : Env} {s : State} {m : MethodId} {below : List Frame} {meth : Method} {c : Code} {b : Nat} {xs : Nat → Int32} {kc : Nat → ClassId} {D : va_G} {EX : (Nat → Prop) → State → Heap → Prop} (h : zq_C EX p s m meth c b 6 xs kc D) : zLG p l e s m below meth c b xs kc D 1403 zs0 := by
  have hz := z_any (xs 1)
  exact zl_one h (zl_B (lo := (-2147483648)) (hi := (2147483647)) (by omega) (by omega)) z_no_ok zr_41_95
