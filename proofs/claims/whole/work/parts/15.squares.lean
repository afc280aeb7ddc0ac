set_option maxHeartbeats 4000000 in
set_option maxRecDepth 100000 in
theorem c_X8_product {l : Launch} {D : va_G} {cI cL cZ cX cG : ClassId} (ad : Nat → Nat) (o : Nat) (o2 : Nat) (f : Nat → Int) (g : Nat → Int)  : Ct l D (gT cI cL cZ cX cG) yX8_product cX8_product 2 (some .long) ({ frames := 0, cells := 0, slots := 0, locals := 0 }) [.ref (ad (o)), .ref (ad (o2))] ([l3C0 cI cL cZ ad (o) (f), l3C0 cI cL cZ ad (o2) (g)]) (fun vv_ ww_ => vv_ = some (lV (pr3 f g)) ∧ ww_ = [l3C0 cI cL cZ ad (o) (f), l3C0 cI cL cZ ad (o2) (g)]) := by
  refine Ct.of (by decide) (Nat.le_of_ble_eq_true rfl) (fun G hG => ?_)
  show G 0 [(0, .ref (ad (o))), (1, .ref (ad (o2)))] [] ([l3C0 cI cL cZ ad (o) (f), l3C0 cI cL cZ ad (o2) (g)])
  refine g_aload_n (pc := 0) hG 0 rfl dX8_product_0 ?_
  refine g_iconst (pc := 1) hG dX8_product_1 ?_
  refine g_laload (pc := 2) hG 0 0 rfl rfl (by omega) (by omega) (by decide) dX8_product_2 ?_
  refine g_aload_n (pc := 3) hG 1 rfl dX8_product_3 ?_
  refine g_iconst (pc := 4) hG dX8_product_4 ?_
  refine g_laload (pc := 5) hG 1 0 rfl rfl (by omega) (by omega) (by decide) dX8_product_5 ?_
  refine g_lmul (pc := 6) hG dX8_product_6 ?_
  refine g_aload_n (pc := 7) hG 0 rfl dX8_product_7 ?_
  refine g_iconst (pc := 8) hG dX8_product_8 ?_
  refine g_laload (pc := 9) hG 0 1 rfl rfl (by omega) (by omega) (by decide) dX8_product_9 ?_
  refine g_aload_n (pc := 10) hG 1 rfl dX8_product_10 ?_
  refine g_iconst (pc := 11) hG dX8_product_11 ?_
  refine g_laload (pc := 12) hG 1 1 rfl rfl (by omega) (by omega) (by decide) dX8_product_12 ?_
  refine g_lmul (pc := 13) hG dX8_product_13 ?_
  refine g_ladd (pc := 14) hG dX8_product_14 ?_
  refine g_aload_n (pc := 15) hG 0 rfl dX8_product_15 ?_
  refine g_iconst (pc := 16) hG dX8_product_16 ?_
  refine g_laload (pc := 17) hG 0 2 rfl rfl (by omega) (by omega) (by decide) dX8_product_17 ?_
  refine g_aload_n (pc := 18) hG 1 rfl dX8_product_18 ?_
  refine g_iconst (pc := 19) hG dX8_product_19 ?_
  refine g_laload (pc := 20) hG 1 2 rfl rfl (by omega) (by omega) (by decide) dX8_product_20 ?_
  refine g_lmul (pc := 21) hG dX8_product_21 ?_
  refine g_ladd (pc := 22) hG dX8_product_22 ?_
  exact g_lreturn (pc := 23) hG ⟨sL rfl, rfl⟩ dX8_product_23
set_option maxHeartbeats 4000000 in
set_option maxRecDepth 100000 in
theorem c_X8_rowProduct {l : Launch} {D : va_G} {cI cL cZ cX cG : ClassId} (ad : Nat → Nat) (o : Nat) (P : Nat → Int) (ts : Int) (rk : Int) (i : Nat) (a : Int) (b : Int) (c : Int) (hi : i < 3) : Ct l D (gT cI cL cZ cX cG) yX8_rowProduct cX8_rowProduct 9 (some .long) ({ frames := 0, cells := 0, slots := 0, locals := 0 }) [.ref (ad (o)), iV (((i : Nat) : Int)), lV (a), lV (b), lV (c)] ([sqoC0 cI cL cZ ad (o) (ts) (rk), l9C0 cI cL cZ ad (o + 1) (P)]) (fun vv_ ww_ => vv_ = some (lV (rp P i a b c)) ∧ ww_ = [sqoC0 cI cL cZ ad (o) (ts) (rk), l9C0 cI cL cZ ad (o + 1) (P)]) := by
  refine Ct.of (by decide) (Nat.le_of_ble_eq_true rfl) (fun G hG => ?_)
  show G 0 [(0, .ref (ad (o))), (1, iV (((i : Nat) : Int))), (2, lV (a)), (4, lV (b)), (6, lV (c))] [] ([sqoC0 cI cL cZ ad (o) (ts) (rk), l9C0 cI cL cZ ad (o + 1) (P)])
  refine g_iload_n (pc := 0) hG 1 rfl dX8_rowProduct_0 ?_
  refine g_iconst (pc := 1) hG dX8_rowProduct_1 ?_
  refine g_imul (pc := 2) hG dX8_rowProduct_2 ?_
  refine g_istore (pc := 3) hG (by decide) (lv' := [(8, iV (((i * 3 : Nat) : Int))), (0, .ref (ad (o))), (1, iV (((i : Nat) : Int))), (2, lV (a)), (4, lV (b)), (6, lV (c))]) rfl dX8_rowProduct_3 ?_
  refine g_aload_n (pc := 5) hG 1 rfl dX8_rowProduct_5 ?_
  refine g_get (pc := 6) hG fl8_9 0 rfl rfl dX8_rowProduct_6 ?_
  refine g_iload (pc := 9) hG 0 rfl dX8_rowProduct_9 ?_
  refine g_laload (pc := 11) hG 1 (i * 3) rfl rfl (by omega) (by omega) (by decide) dX8_rowProduct_11 ?_
  refine g_lload_n (pc := 12) hG 3 rfl dX8_rowProduct_12 ?_
  refine g_lmul (pc := 13) hG dX8_rowProduct_13 ?_
  refine g_aload_n (pc := 14) hG 1 rfl dX8_rowProduct_14 ?_
  refine g_get (pc := 15) hG fl8_9 0 rfl rfl dX8_rowProduct_15 ?_
  refine g_iload (pc := 18) hG 0 rfl dX8_rowProduct_18 ?_
  refine g_iconst (pc := 20) hG dX8_rowProduct_20 ?_
  refine g_iadd (pc := 21) hG dX8_rowProduct_21 ?_
  refine g_laload (pc := 22) hG 1 ((i * 3) + 1) rfl rfl (by omega) (by omega) (by decide) dX8_rowProduct_22 ?_
  refine g_lload (pc := 23) hG 4 rfl dX8_rowProduct_23 ?_
  refine g_lmul (pc := 25) hG dX8_rowProduct_25 ?_
  refine g_ladd (pc := 26) hG dX8_rowProduct_26 ?_
  refine g_aload_n (pc := 27) hG 1 rfl dX8_rowProduct_27 ?_
  refine g_get (pc := 28) hG fl8_9 0 rfl rfl dX8_rowProduct_28 ?_
  refine g_iload (pc := 31) hG 0 rfl dX8_rowProduct_31 ?_
  refine g_iconst (pc := 33) hG dX8_rowProduct_33 ?_
  refine g_iadd (pc := 34) hG dX8_rowProduct_34 ?_
  refine g_laload (pc := 35) hG 1 ((i * 3) + 2) rfl rfl (by omega) (by omega) (by decide) dX8_rowProduct_35 ?_
  refine g_lload (pc := 36) hG 5 rfl dX8_rowProduct_36 ?_
  refine g_lmul (pc := 38) hG dX8_rowProduct_38 ?_
  refine g_ladd (pc := 39) hG dX8_rowProduct_39 ?_
  exact g_lreturn (pc := 40) hG ⟨sL rfl, rfl⟩ dX8_rowProduct_40
set_option maxHeartbeats 4000000 in
set_option maxRecDepth 100000 in
theorem c_X8_bottom {l : Launch} {D : va_G} {cI cL cZ cX cG : ClassId} (ad : Nat → Nat) (o : Nat) (S : Nat → Int) (ts : Int) (r : Nat) (hr : r ≤ 3) : Ct l D (gT cI cL cZ cX cG) yX8_bottom cX8_bottom 1 (some .long) ({ frames := 0, cells := 0, slots := 0, locals := 0 }) [.ref (ad (o))] ([sqoC0 cI cL cZ ad (o) (ts) (((r : Nat) : Int)), l4C0 cI cL cZ ad (o + 4) (S)]) (fun vv_ ww_ => vv_ = some (lV (S r)) ∧ ww_ = [sqoC0 cI cL cZ ad (o) (ts) (((r : Nat) : Int)), l4C0 cI cL cZ ad (o + 4) (S)]) := by
  refine Ct.of (by decide) (Nat.le_of_ble_eq_true rfl) (fun G hG => ?_)
  show G 0 [(0, .ref (ad (o)))] [] ([sqoC0 cI cL cZ ad (o) (ts) (((r : Nat) : Int)), l4C0 cI cL cZ ad (o + 4) (S)])
  refine g_aload_n (pc := 0) hG 0 rfl dX8_bottom_0 ?_
  refine g_get (pc := 1) hG fl8_21 0 rfl rfl dX8_bottom_1 ?_
  refine g_aload_n (pc := 4) hG 0 rfl dX8_bottom_4 ?_
  refine g_get (pc := 5) hG fl8_45 0 rfl rfl dX8_bottom_5 ?_
  refine g_laload (pc := 8) hG 1 r rfl rfl (by omega) (by omega) (by decide) dX8_bottom_8 ?_
  exact g_lreturn (pc := 9) hG ⟨rfl, rfl⟩ dX8_bottom_9
set_option maxHeartbeats 4000000 in
set_option maxRecDepth 100000 in
theorem c_X8_leftTop {l : Launch} {D : va_G} {cI cL cZ cX cG : ClassId} (ad : Nat → Nat) (o : Nat) (R : Nat → Int) (T : Nat → Int) (S : Nat → Int) (ts : Int) (r : Nat) (hr : r ≤ 3) : Ct l D (gT cI cL cZ cX cG) yX8_leftTop cX8_leftTop 1 (some .long) ({ frames := 1, cells := 0, slots := 0, locals := 21 }) [.ref (ad (o))] ([sqoC0 cI cL cZ ad (o) (ts) (((r : Nat) : Int)), l3C0 cI cL cZ ad (o + 2) (R), l3C0 cI cL cZ ad (o + 3) (T), l4C0 cI cL cZ ad (o + 4) (S)]) (fun vv_ ww_ => vv_ = some (lV (ts * S r - pr3 R T)) ∧ ww_ = [sqoC0 cI cL cZ ad (o) (ts) (((r : Nat) : Int)), l3C0 cI cL cZ ad (o + 2) (R), l3C0 cI cL cZ ad (o + 3) (T), l4C0 cI cL cZ ad (o + 4) (S)]) := by
  refine Ct.of (by decide) (Nat.le_of_ble_eq_true rfl) (fun G hG => ?_)
  show G 0 [(0, .ref (ad (o)))] [] ([sqoC0 cI cL cZ ad (o) (ts) (((r : Nat) : Int)), l3C0 cI cL cZ ad (o + 2) (R), l3C0 cI cL cZ ad (o + 3) (T), l4C0 cI cL cZ ad (o + 4) (S)])
  refine g_aload_n (pc := 0) hG 0 rfl dX8_leftTop_0 ?_
  refine g_get (pc := 1) hG fl8_24 0 rfl rfl dX8_leftTop_1 ?_
  refine g_aload_n (pc := 4) hG 0 rfl dX8_leftTop_4 ?_
  refine g_callV (pc := 5) hG (As := []) (rest := [lV (ts)]) (c_X8_bottom (l := l) (D := D) (cI := cI) (cL := cL) (cZ := cZ) (cX := cX) (cG := cG) ad o S ts r (by omega)) (Sp.sel [0, 3] rfl (by decide)) cv8_53 ⟨rfl, rfl⟩ ⟨Nat.le_of_ble_eq_true rfl, Nat.le_of_ble_eq_true rfl⟩ 0 rfl rfl rfl rfl (Nat.le_of_ble_eq_true rfl) dX8_leftTop_5 (fun v w1 h => ?_)
  obtain ⟨rfl, rfl⟩ := h
  show G 8 [(0, .ref (ad (o)))] [lV (S r), lV (ts)] ([sqoC0 cI cL cZ ad (o) (ts) (((r : Nat) : Int)), l3C0 cI cL cZ ad (o + 2) (R), l3C0 cI cL cZ ad (o + 3) (T), l4C0 cI cL cZ ad (o + 4) (S)])
  refine g_lmul (pc := 8) hG dX8_leftTop_8 ?_
  refine g_aload_n (pc := 9) hG 0 rfl dX8_leftTop_9 ?_
  refine g_get (pc := 10) hG fl8_15 0 rfl rfl dX8_leftTop_10 ?_
  refine g_aload_n (pc := 13) hG 0 rfl dX8_leftTop_13 ?_
  refine g_get (pc := 14) hG fl8_18 0 rfl rfl dX8_leftTop_14 ?_
  refine g_callS (pc := 17) hG (As := [.ref (ad (o + 2)), .ref (ad (o + 3))]) (rest := [lV (ts * (S r))]) (c_X8_product (l := l) (D := D) (cI := cI) (cL := cL) (cZ := cZ) (cX := cX) (cG := cG) ad (o + 2) (o + 3) R T ) (Sp.sel [1, 2] rfl (by decide)) cs8_57 ⟨rfl, rfl⟩ ⟨Nat.le_of_ble_eq_true rfl, Nat.le_of_ble_eq_true rfl⟩ rfl rfl (Nat.le_of_ble_eq_true rfl) dX8_leftTop_17 (fun v w1 h _ => ?_)
  obtain ⟨rfl, rfl⟩ := h
  show G 20 [(0, .ref (ad (o)))] [lV (pr3 R T), lV (ts * (S r))] ([sqoC0 cI cL cZ ad (o) (ts) (((r : Nat) : Int)), l3C0 cI cL cZ ad (o + 2) (R), l3C0 cI cL cZ ad (o + 3) (T), l4C0 cI cL cZ ad (o + 4) (S)])
  refine g_lsub (pc := 20) hG dX8_leftTop_20 ?_
  exact g_lreturn (pc := 21) hG ⟨sL rfl, rfl⟩ dX8_leftTop_21
set_option maxHeartbeats 4000000 in
set_option maxRecDepth 100000 in
theorem c_X8_measure {l : Launch} {D : va_G} {cI cL cZ cX cG : ClassId} (ad : Nat → Nat) (o : Nat) (P : Nat → Int) (S : Nat → Int) (ts : Int) (rk : Int) (hP : PB P) : Ct l D (gT cI cL cZ cX cG) yX8_measure cX8_measure 4 none ({ frames := 0, cells := 0, slots := 0, locals := 0 }) [.ref (ad (o))] ([sqoC0 cI cL cZ ad (o) (ts) (rk), l9C0 cI cL cZ ad (o + 1) (P), l4C0 cI cL cZ ad (o + 4) (S)]) (fun vv_ ww_ => ∃ (S2 : Nat → Int), (∀ k, k ≤ 3 → S2 k = symF P k) ∧ vv_ = none ∧ ww_ = [sqoC0 cI cL cZ ad (o) (ts) (((rk0 P : Nat) : Int)), l9C0 cI cL cZ ad (o + 1) (P), l4C0 cI cL cZ ad (o + 4) (S2)]) := by
  refine Ct.of (by decide) (Nat.le_of_ble_eq_true rfl) (fun G hG => ?_)
  show G 0 [(0, .ref (ad (o)))] [] ([sqoC0 cI cL cZ ad (o) (ts) (rk), l9C0 cI cL cZ ad (o + 1) (P), l4C0 cI cL cZ ad (o + 4) (S)])
  refine g_aload_n (pc := 0) hG 0 rfl dX8_measure_0 ?_
  refine g_get (pc := 1) hG fl8_9 0 rfl rfl dX8_measure_1 ?_
  refine g_astore_n (pc := 4) hG (by decide) (lv' := [(1, .ref (ad (o + 1))), (0, .ref (ad (o)))]) rfl dX8_measure_4 ?_
  refine g_aload_n (pc := 5) hG 0 rfl dX8_measure_5 ?_
  refine g_iconst (pc := 6) hG dX8_measure_6 ?_
  refine g_laload (pc := 7) hG 1 4 rfl rfl (by omega) (by omega) (by decide) dX8_measure_7 ?_
  refine g_aload_n (pc := 8) hG 0 rfl dX8_measure_8 ?_
  refine g_bipush (pc := 9) hG dX8_measure_9 (by decide) ?_
  refine g_laload (pc := 11) hG 1 8 rfl rfl (by omega) (by omega) (by decide) dX8_measure_11 ?_
  refine g_lmul (pc := 12) hG dX8_measure_12 ?_
  refine g_aload_n (pc := 13) hG 0 rfl dX8_measure_13 ?_
  refine g_iconst (pc := 14) hG dX8_measure_14 ?_
  refine g_laload (pc := 15) hG 1 5 rfl rfl (by omega) (by omega) (by decide) dX8_measure_15 ?_
  refine g_aload_n (pc := 16) hG 0 rfl dX8_measure_16 ?_
  refine g_bipush (pc := 17) hG dX8_measure_17 (by decide) ?_
  refine g_laload (pc := 19) hG 1 7 rfl rfl (by omega) (by omega) (by decide) dX8_measure_19 ?_
  refine g_lmul (pc := 20) hG dX8_measure_20 ?_
  refine g_lsub (pc := 21) hG dX8_measure_21 ?_
  refine g_nmL (pc := 22) hG (fun x22 ex22 => ?_)
  refine g_lstore_n (pc := 22) hG (by decide) (lv' := [(2, lV (x22)), (1, .ref (ad (o + 1))), (0, .ref (ad (o)))]) rfl dX8_measure_22 ?_
  refine g_aload_n (pc := 23) hG 2 rfl dX8_measure_23 ?_
  refine g_get (pc := 24) hG fl8_21 0 rfl rfl dX8_measure_24 ?_
  refine g_iconst (pc := 27) hG dX8_measure_27 ?_
  refine g_lconst (z := 1) (pc := 28) hG dX8_measure_28 (by decide) ?_
  refine g_lastore (pc := 29) hG 2 0 rfl rfl (by omega) (by omega) (by decide) (ws' := [sqoC0 cI cL cZ ad (o) (ts) (rk), l9C0 cI cL cZ ad (o + 1) (P), l4C0 cI cL cZ ad (o + 4) (upZ S 0 1)]) rfl dX8_measure_29 ?_
  refine g_aload_n (pc := 30) hG 2 rfl dX8_measure_30 ?_
  refine g_get (pc := 31) hG fl8_21 0 rfl rfl dX8_measure_31 ?_
  refine g_iconst (pc := 34) hG dX8_measure_34 ?_
  refine g_aload_n (pc := 35) hG 1 rfl dX8_measure_35 ?_
  refine g_iconst (pc := 36) hG dX8_measure_36 ?_
  refine g_laload (pc := 37) hG 1 0 rfl rfl (by omega) (by omega) (by decide) dX8_measure_37 ?_
  refine g_aload_n (pc := 38) hG 1 rfl dX8_measure_38 ?_
  refine g_iconst (pc := 39) hG dX8_measure_39 ?_
  refine g_laload (pc := 40) hG 1 4 rfl rfl (by omega) (by omega) (by decide) dX8_measure_40 ?_
  refine g_ladd (pc := 41) hG dX8_measure_41 ?_
  refine g_aload_n (pc := 42) hG 1 rfl dX8_measure_42 ?_
  refine g_bipush (pc := 43) hG dX8_measure_43 (by decide) ?_
  refine g_laload (pc := 45) hG 1 8 rfl rfl (by omega) (by omega) (by decide) dX8_measure_45 ?_
  refine g_ladd (pc := 46) hG dX8_measure_46 ?_
  refine g_nmL (pc := 47) hG (fun x47 ex47 => ?_)
  refine g_lastore (pc := 47) hG 2 1 rfl rfl (by omega) (by omega) (by decide) (ws' := [sqoC0 cI cL cZ ad (o) (ts) (rk), l9C0 cI cL cZ ad (o + 1) (P), l4C0 cI cL cZ ad (o + 4) (upZ (upZ S 0 1) 1 x47)]) rfl dX8_measure_47 ?_
  refine g_aload_n (pc := 48) hG 2 rfl dX8_measure_48 ?_
  refine g_get (pc := 49) hG fl8_21 0 rfl rfl dX8_measure_49 ?_
  refine g_iconst (pc := 52) hG dX8_measure_52 ?_
  refine g_lload_n (pc := 53) hG 0 rfl dX8_measure_53 ?_
  refine g_aload_n (pc := 54) hG 1 rfl dX8_measure_54 ?_
  refine g_iconst (pc := 55) hG dX8_measure_55 ?_
  refine g_laload (pc := 56) hG 1 0 rfl rfl (by omega) (by omega) (by decide) dX8_measure_56 ?_
  refine g_aload_n (pc := 57) hG 1 rfl dX8_measure_57 ?_
  refine g_bipush (pc := 58) hG dX8_measure_58 (by decide) ?_
  refine g_laload (pc := 60) hG 1 8 rfl rfl (by omega) (by omega) (by decide) dX8_measure_60 ?_
  refine g_lmul (pc := 61) hG dX8_measure_61 ?_
  refine g_ladd (pc := 62) hG dX8_measure_62 ?_
  refine g_aload_n (pc := 63) hG 1 rfl dX8_measure_63 ?_
  refine g_iconst (pc := 64) hG dX8_measure_64 ?_
  refine g_laload (pc := 65) hG 1 2 rfl rfl (by omega) (by omega) (by decide) dX8_measure_65 ?_
  refine g_aload_n (pc := 66) hG 1 rfl dX8_measure_66 ?_
  refine g_bipush (pc := 67) hG dX8_measure_67 (by decide) ?_
  refine g_laload (pc := 69) hG 1 6 rfl rfl (by omega) (by omega) (by decide) dX8_measure_69 ?_
  refine g_lmul (pc := 70) hG dX8_measure_70 ?_
  refine g_lsub (pc := 71) hG dX8_measure_71 ?_
  refine g_aload_n (pc := 72) hG 1 rfl dX8_measure_72 ?_
  refine g_iconst (pc := 73) hG dX8_measure_73 ?_
  refine g_laload (pc := 74) hG 1 0 rfl rfl (by omega) (by omega) (by decide) dX8_measure_74 ?_
  refine g_aload_n (pc := 75) hG 1 rfl dX8_measure_75 ?_
  refine g_iconst (pc := 76) hG dX8_measure_76 ?_
  refine g_laload (pc := 77) hG 1 4 rfl rfl (by omega) (by omega) (by decide) dX8_measure_77 ?_
  refine g_lmul (pc := 78) hG dX8_measure_78 ?_
  refine g_ladd (pc := 79) hG dX8_measure_79 ?_
  refine g_aload_n (pc := 80) hG 1 rfl dX8_measure_80 ?_
  refine g_iconst (pc := 81) hG dX8_measure_81 ?_
  refine g_laload (pc := 82) hG 1 1 rfl rfl (by omega) (by omega) (by decide) dX8_measure_82 ?_
  refine g_aload_n (pc := 83) hG 1 rfl dX8_measure_83 ?_
  refine g_iconst (pc := 84) hG dX8_measure_84 ?_
  refine g_laload (pc := 85) hG 1 3 rfl rfl (by omega) (by omega) (by decide) dX8_measure_85 ?_
  refine g_lmul (pc := 86) hG dX8_measure_86 ?_
  refine g_lsub (pc := 87) hG dX8_measure_87 ?_
  refine g_nmL (pc := 88) hG (fun x88 ex88 => ?_)
  refine g_lastore (pc := 88) hG 2 2 rfl rfl (by omega) (by omega) (by decide) (ws' := [sqoC0 cI cL cZ ad (o) (ts) (rk), l9C0 cI cL cZ ad (o + 1) (P), l4C0 cI cL cZ ad (o + 4) (upZ (upZ (upZ S 0 1) 1 x47) 2 x88)]) rfl dX8_measure_88 ?_
  refine g_aload_n (pc := 89) hG 2 rfl dX8_measure_89 ?_
  refine g_get (pc := 90) hG fl8_21 0 rfl rfl dX8_measure_90 ?_
  refine g_iconst (pc := 93) hG dX8_measure_93 ?_
  refine g_aload_n (pc := 94) hG 1 rfl dX8_measure_94 ?_
  refine g_iconst (pc := 95) hG dX8_measure_95 ?_
  refine g_laload (pc := 96) hG 1 0 rfl rfl (by omega) (by omega) (by decide) dX8_measure_96 ?_
  refine g_lload_n (pc := 97) hG 0 rfl dX8_measure_97 ?_
  refine g_lmul (pc := 98) hG dX8_measure_98 ?_
  refine g_aload_n (pc := 99) hG 1 rfl dX8_measure_99 ?_
  refine g_iconst (pc := 100) hG dX8_measure_100 ?_
  refine g_laload (pc := 101) hG 1 1 rfl rfl (by omega) (by omega) (by decide) dX8_measure_101 ?_
  refine g_aload_n (pc := 102) hG 1 rfl dX8_measure_102 ?_
  refine g_iconst (pc := 103) hG dX8_measure_103 ?_
  refine g_laload (pc := 104) hG 1 3 rfl rfl (by omega) (by omega) (by decide) dX8_measure_104 ?_
  refine g_aload_n (pc := 105) hG 1 rfl dX8_measure_105 ?_
  refine g_bipush (pc := 106) hG dX8_measure_106 (by decide) ?_
  refine g_laload (pc := 108) hG 1 8 rfl rfl (by omega) (by omega) (by decide) dX8_measure_108 ?_
  refine g_lmul (pc := 109) hG dX8_measure_109 ?_
  refine g_aload_n (pc := 110) hG 1 rfl dX8_measure_110 ?_
  refine g_iconst (pc := 111) hG dX8_measure_111 ?_
  refine g_laload (pc := 112) hG 1 5 rfl rfl (by omega) (by omega) (by decide) dX8_measure_112 ?_
  refine g_aload_n (pc := 113) hG 1 rfl dX8_measure_113 ?_
  refine g_bipush (pc := 114) hG dX8_measure_114 (by decide) ?_
  refine g_laload (pc := 116) hG 1 6 rfl rfl (by omega) (by omega) (by decide) dX8_measure_116 ?_
  refine g_lmul (pc := 117) hG dX8_measure_117 ?_
  refine g_lsub (pc := 118) hG dX8_measure_118 ?_
  refine g_lmul (pc := 119) hG dX8_measure_119 ?_
  refine g_lsub (pc := 120) hG dX8_measure_120 ?_
  refine g_aload_n (pc := 121) hG 1 rfl dX8_measure_121 ?_
  refine g_iconst (pc := 122) hG dX8_measure_122 ?_
  refine g_laload (pc := 123) hG 1 2 rfl rfl (by omega) (by omega) (by decide) dX8_measure_123 ?_
  refine g_aload_n (pc := 124) hG 1 rfl dX8_measure_124 ?_
  refine g_iconst (pc := 125) hG dX8_measure_125 ?_
  refine g_laload (pc := 126) hG 1 3 rfl rfl (by omega) (by omega) (by decide) dX8_measure_126 ?_
  refine g_aload_n (pc := 127) hG 1 rfl dX8_measure_127 ?_
  refine g_bipush (pc := 128) hG dX8_measure_128 (by decide) ?_
  refine g_laload (pc := 130) hG 1 7 rfl rfl (by omega) (by omega) (by decide) dX8_measure_130 ?_
  refine g_lmul (pc := 131) hG dX8_measure_131 ?_
  refine g_aload_n (pc := 132) hG 1 rfl dX8_measure_132 ?_
  refine g_iconst (pc := 133) hG dX8_measure_133 ?_
  refine g_laload (pc := 134) hG 1 4 rfl rfl (by omega) (by omega) (by decide) dX8_measure_134 ?_
  refine g_aload_n (pc := 135) hG 1 rfl dX8_measure_135 ?_
  refine g_bipush (pc := 136) hG dX8_measure_136 (by decide) ?_
  refine g_laload (pc := 138) hG 1 6 rfl rfl (by omega) (by omega) (by decide) dX8_measure_138 ?_
  refine g_lmul (pc := 139) hG dX8_measure_139 ?_
  refine g_lsub (pc := 140) hG dX8_measure_140 ?_
  refine g_lmul (pc := 141) hG dX8_measure_141 ?_
  refine g_ladd (pc := 142) hG dX8_measure_142 ?_
  refine g_nmL (pc := 143) hG (fun x143 ex143 => ?_)
  refine g_lastore (pc := 143) hG 2 3 rfl rfl (by omega) (by omega) (by decide) (ws' := [sqoC0 cI cL cZ ad (o) (ts) (rk), l9C0 cI cL cZ ad (o + 1) (P), l4C0 cI cL cZ ad (o + 4) (upZ (upZ (upZ (upZ S 0 1) 1 x47) 2 x88) 3 x143)]) rfl dX8_measure_143 ?_
  refine g_aload_n (pc := 144) hG 2 rfl dX8_measure_144 ?_
  refine g_iconst (pc := 145) hG dX8_measure_145 ?_
  refine g_put (pc := 146) hG fp8_45 0 rfl rfl rfl (Nat.le_of_ble_eq_true rfl) (ws' := [sqoC0 cI cL cZ ad (o) (ts) (3), l9C0 cI cL cZ ad (o + 1) (P), l4C0 cI cL cZ ad (o + 4) (upZ (upZ (upZ (upZ S 0 1) 1 x47) 2 x88) 3 x143)]) rfl dX8_measure_146 ?_
  have hS4 := sym_arr (P := P) (S := S) (by assumption) ex47 ex88 ex143
  generalize (upZ (upZ (upZ (upZ S 0 1) 1 x47) 2 x88) 3 x143) = s4 at hS4
  have L149 : ∀ (fu149 : Nat) (r : Nat), r < fu149 → (r ≤ 3) → (∀ k, r < k → k ≤ 3 → symF P k = 0) → G 149 [(0, .ref (ad (o)))] [] ([sqoC0 cI cL cZ ad (o) (ts) (((r : Nat) : Int)), l9C0 cI cL cZ ad (o + 1) (P), l4C0 cI cL cZ ad (o + 4) (s4)]) := by
    intro fu149
    induction fu149 with
    | zero => intro r hm; exact absurd hm (Nat.not_lt_zero _)
    | succ fu149 ih149 =>
      intro r hm149 hr h0
      refine g_aload_n (pc := 149) hG 0 rfl dX8_measure_149 ?_
      refine g_get (pc := 150) hG fl8_45 0 rfl rfl dX8_measure_150 ?_
      have J183 : ∀ (_ : Unit), (((((r : Nat) : Int) ≤ 0)) ∨ ((¬ ((r : Nat) : Int) ≤ 0) ∧ (¬ s4 r = 0))) → G 183 [(0, .ref (ad (o)))] [] ([sqoC0 cI cL cZ ad (o) (ts) (((r : Nat) : Int)), l9C0 cI cL cZ ad (o + 1) (P), l4C0 cI cL cZ ad (o + 4) (s4)]) := by
        intro _ k183
        exact g_return (pc := 183) hG ⟨s4, hS4, rfl, by rw [rk_out hr h0 (by rcases k183 with h | h; exact Or.inl (by omega); exact Or.inr (by rw [← hS4 r hr]; exact h.2))]⟩ dX8_measure_183
      refine g_if_le (pc := 153) hG (by omega) (tgt := 183) (by decide) dX8_measure_153 (fun h153 => ?_) (fun h153 => ?_)
      · exact g_lv (pc := 183) hG [0] rfl (J183 () (Or.inl (h153)))
      · refine g_aload_n (pc := 156) hG 0 rfl dX8_measure_156 ?_
        refine g_get (pc := 157) hG fl8_21 0 rfl rfl dX8_measure_157 ?_
        refine g_aload_n (pc := 160) hG 0 rfl dX8_measure_160 ?_
        refine g_get (pc := 161) hG fl8_45 0 rfl rfl dX8_measure_161 ?_
        refine g_laload (pc := 164) hG 2 r rfl rfl (by omega) (by omega) (by decide) dX8_measure_164 ?_
        refine g_lconst (z := 0) (pc := 165) hG dX8_measure_165 (by decide) ?_
        have hb := sym_in hP (k := r)
        rw [← hS4 r hr] at hb
        refine g_lc_ne (pc := 166) hG (by omega) (by omega) (tgt := 183) (by decide) dX8_measure_166 dX8_measure_167 (fun h166 => ?_) (fun h166 => ?_)
        · exact g_lv (pc := 183) hG [0] rfl (J183 () (Or.inr (⟨h153, h166⟩)))
        · refine g_aload_n (pc := 170) hG 0 rfl dX8_measure_170 ?_
          refine g_dup (pc := 171) hG rfl dX8_measure_171 ?_
          refine g_get (pc := 172) hG fl8_45 0 rfl rfl dX8_measure_172 ?_
          refine g_iconst (pc := 175) hG dX8_measure_175 ?_
          refine g_isub (pc := 176) hG dX8_measure_176 ?_
          refine g_eqI (pc := 177) hG (show ((((r : Nat) : Int)) - 1) = ((r - 1 : Nat) : Int) by omega) ?_
          refine g_put (pc := 177) hG fp8_45 0 rfl rfl rfl (Nat.le_of_ble_eq_true rfl) (ws' := [sqoC0 cI cL cZ ad (o) (ts) (((r - 1 : Nat) : Int)), l9C0 cI cL cZ ad (o + 1) (P), l4C0 cI cL cZ ad (o + 4) (s4)]) rfl dX8_measure_177 ?_
          refine g_goto (pc := 180) hG (tgt := 149) (by decide) dX8_measure_180 ?_
          exact g_lv (pc := 149) hG [0] rfl (ih149 (r - 1) (by omega) (by omega) (fun k h1 h2 => by rcases Nat.lt_or_ge r k with h | h; exact h0 k h h2; (have : k = r := by omega); subst this; rw [← hS4 k h2]; exact h166))
  exact g_lv (pc := 149) hG [2] rfl (L149 _ 3 (Nat.lt_succ_self _) (by omega) (fun k h1 h2 => by omega))
set_option maxHeartbeats 4000000 in
set_option maxRecDepth 100000 in
theorem c_X8_solveFor {l : Launch} {D : va_G} {cI cL cZ cX cG : ClassId} (ad : Nat → Nat) (o : Nat) (o2 : Nat) (o3 : Nat) (P : Nat → Int) (S : Nat → Int) (f : Nat → Int) (g : Nat → Int) (ts : Int) (r : Nat) (hr : r ≤ 3) : Ct l D (gT cI cL cZ cX cG) yX8_solveFor cX8_solveFor 11 none ({ frames := 1, cells := 0, slots := 0, locals := 28 }) [.ref (ad (o)), .ref (ad (o2)), .ref (ad (o3))] ([sqoC0 cI cL cZ ad (o) (ts) (((r : Nat) : Int)), l9C0 cI cL cZ ad (o + 1) (P), l4C0 cI cL cZ ad (o + 4) (S), l3C0 cI cL cZ ad (o2) (f), l3C0 cI cL cZ ad (o3) (g)]) (fun vv_ ww_ => ∃ (g2 : Nat → Int), (∀ i, i < 3 → g2 i = slvF P S f r i) ∧ vv_ = none ∧ ww_ = [sqoC0 cI cL cZ ad (o) (ts) (((r : Nat) : Int)), l9C0 cI cL cZ ad (o + 1) (P), l4C0 cI cL cZ ad (o + 4) (S), l3C0 cI cL cZ ad (o2) (f), l3C0 cI cL cZ ad (o3) (g2)]) := by
  refine Ct.of (by decide) (Nat.le_of_ble_eq_true rfl) (fun G hG => ?_)
  show G 0 [(0, .ref (ad (o))), (1, .ref (ad (o2))), (2, .ref (ad (o3)))] [] ([sqoC0 cI cL cZ ad (o) (ts) (((r : Nat) : Int)), l9C0 cI cL cZ ad (o + 1) (P), l4C0 cI cL cZ ad (o + 4) (S), l3C0 cI cL cZ ad (o2) (f), l3C0 cI cL cZ ad (o3) (g)])
  refine g_iconst (pc := 0) hG dX8_solveFor_0 ?_
  refine g_istore_n (pc := 1) hG (by decide) (lv' := [(3, iV (0)), (0, .ref (ad (o))), (1, .ref (ad (o2))), (2, .ref (ad (o3)))]) rfl dX8_solveFor_1 ?_
  have L2 : ∀ (fu2 : Nat) (i : Nat) (g9 : Nat → Int), 3 - i < fu2 → (i ≤ 3) → (∀ j, j < i → g9 j = if r = 0 then 0 else f j) → G 2 [(0, .ref (ad (o))), (1, .ref (ad (o2))), (2, .ref (ad (o3))), (3, iV (((i : Nat) : Int)))] [] ([sqoC0 cI cL cZ ad (o) (ts) (((r : Nat) : Int)), l9C0 cI cL cZ ad (o + 1) (P), l4C0 cI cL cZ ad (o + 4) (S), l3C0 cI cL cZ ad (o2) (f), l3C0 cI cL cZ ad (o3) (g9)]) := by
    intro fu2
    induction fu2 with
    | zero => intro i g9 hm; exact absurd hm (Nat.not_lt_zero _)
    | succ fu2 ih2 =>
      intro i g9 hm2 hi h9
      refine g_iload_n (pc := 2) hG 3 rfl dX8_solveFor_2 ?_
      refine g_iconst (pc := 3) hG dX8_solveFor_3 ?_
      refine g_icmp_ge (pc := 4) hG (by omega) (by omega) (tgt := 30) (by decide) dX8_solveFor_4 (fun h4 => ?_) (fun h4 => ?_)
      · refine g_iconst (pc := 30) hG dX8_solveFor_30 ?_
        refine g_istore_n (pc := 31) hG (by decide) (lv' := [(3, iV (1)), (0, .ref (ad (o))), (1, .ref (ad (o2))), (2, .ref (ad (o3)))]) rfl dX8_solveFor_31 ?_
        have L32 : ∀ (fu32 : Nat) (s : Nat) (g8 : Nat → Int), 4 - s < fu32 → (1 ≤ s ∧ s ≤ 4) → (SI P S f r s g8) → G 32 [(0, .ref (ad (o))), (1, .ref (ad (o2))), (2, .ref (ad (o3))), (3, iV (((s : Nat) : Int)))] [] ([sqoC0 cI cL cZ ad (o) (ts) (((r : Nat) : Int)), l9C0 cI cL cZ ad (o + 1) (P), l4C0 cI cL cZ ad (o + 4) (S), l3C0 cI cL cZ ad (o2) (f), l3C0 cI cL cZ ad (o3) (g8)]) := by
          intro fu32
          induction fu32 with
          | zero => intro s g8 hm; exact absurd hm (Nat.not_lt_zero _)
          | succ fu32 ih32 =>
            intro s g8 hm32 hs h8
            refine g_iload_n (pc := 32) hG 3 rfl dX8_solveFor_32 ?_
            refine g_aload_n (pc := 33) hG 0 rfl dX8_solveFor_33 ?_
            refine g_get (pc := 34) hG fl8_45 0 rfl rfl dX8_solveFor_34 ?_
            refine g_icmp_ge (pc := 37) hG (by omega) (by omega) (tgt := 104) (by decide) dX8_solveFor_37 (fun h37 => ?_) (fun h37 => ?_)
            · exact g_return (pc := 104) hG ⟨g8, h8.out (by omega), rfl, rfl⟩ dX8_solveFor_104
            · refine g_aload_n (pc := 40) hG 2 rfl dX8_solveFor_40 ?_
              refine g_iconst (pc := 41) hG dX8_solveFor_41 ?_
              refine g_laload (pc := 42) hG 4 0 rfl rfl (by omega) (by omega) (by decide) dX8_solveFor_42 ?_
              refine g_lstore (pc := 43) hG (by decide) (lv' := [(4, lV (g8 0)), (0, .ref (ad (o))), (1, .ref (ad (o2))), (2, .ref (ad (o3))), (3, iV (((s : Nat) : Int)))]) rfl dX8_solveFor_43 ?_
              refine g_aload_n (pc := 45) hG 3 rfl dX8_solveFor_45 ?_
              refine g_iconst (pc := 46) hG dX8_solveFor_46 ?_
              refine g_laload (pc := 47) hG 4 1 rfl rfl (by omega) (by omega) (by decide) dX8_solveFor_47 ?_
              refine g_lstore (pc := 48) hG (by decide) (lv' := [(6, lV (g8 1)), (4, lV (g8 0)), (0, .ref (ad (o))), (1, .ref (ad (o2))), (2, .ref (ad (o3))), (3, iV (((s : Nat) : Int)))]) rfl dX8_solveFor_48 ?_
              refine g_aload_n (pc := 50) hG 4 rfl dX8_solveFor_50 ?_
              refine g_iconst (pc := 51) hG dX8_solveFor_51 ?_
              refine g_laload (pc := 52) hG 4 2 rfl rfl (by omega) (by omega) (by decide) dX8_solveFor_52 ?_
              refine g_lstore (pc := 53) hG (by decide) (lv' := [(8, lV (g8 2)), (6, lV (g8 1)), (4, lV (g8 0)), (0, .ref (ad (o))), (1, .ref (ad (o2))), (2, .ref (ad (o3))), (3, iV (((s : Nat) : Int)))]) rfl dX8_solveFor_53 ?_
              refine g_iconst (pc := 55) hG dX8_solveFor_55 ?_
              refine g_istore (pc := 56) hG (by decide) (lv' := [(10, iV (0)), (8, lV (g8 2)), (6, lV (g8 1)), (4, lV (g8 0)), (0, .ref (ad (o))), (1, .ref (ad (o2))), (2, .ref (ad (o3))), (3, iV (((s : Nat) : Int)))]) rfl dX8_solveFor_56 ?_
              have L58 : ∀ (fu58 : Nat) (i2 : Nat) (g7 : Nat → Int), 3 - i2 < fu58 → (i2 ≤ 3) → (∀ j, j < i2 → g7 j = S s * f j - rp P j (g8 0) (g8 1) (g8 2)) → G 58 [(0, .ref (ad (o))), (1, .ref (ad (o2))), (2, .ref (ad (o3))), (3, iV (((s : Nat) : Int))), (4, lV (g8 0)), (6, lV (g8 1)), (8, lV (g8 2)), (10, iV (((i2 : Nat) : Int)))] [] ([sqoC0 cI cL cZ ad (o) (ts) (((r : Nat) : Int)), l9C0 cI cL cZ ad (o + 1) (P), l4C0 cI cL cZ ad (o + 4) (S), l3C0 cI cL cZ ad (o2) (f), l3C0 cI cL cZ ad (o3) (g7)]) := by
                intro fu58
                induction fu58 with
                | zero => intro i2 g7 hm; exact absurd hm (Nat.not_lt_zero _)
                | succ fu58 ih58 =>
                  intro i2 g7 hm58 hi10 h7
                  refine g_iload (pc := 58) hG 7 rfl dX8_solveFor_58 ?_
                  refine g_iconst (pc := 60) hG dX8_solveFor_60 ?_
                  refine g_icmp_ge (pc := 61) hG (by omega) (by omega) (tgt := 98) (by decide) dX8_solveFor_61 (fun h61 => ?_) (fun h61 => ?_)
                  · refine g_iinc (pc := 98) hG 3 rfl (by decide) (lv' := [(3, iV ((((s : Nat) : Int)) + 1)), (0, .ref (ad (o))), (1, .ref (ad (o2))), (2, .ref (ad (o3))), (4, lV (g8 0)), (6, lV (g8 1)), (8, lV (g8 2)), (10, iV (((i2 : Nat) : Int)))]) rfl dX8_solveFor_98 ?_
                    refine g_goto (pc := 101) hG (tgt := 32) (by decide) dX8_solveFor_101 ?_
                    exact g_lv (pc := 32) hG [1, 2, 3, 0] rfl (ih32 (s + 1) g7 (by omega) (by omega) (h8.next (by omega) (by omega) hi10 h7))
                  · refine g_aload_n (pc := 64) hG 2 rfl dX8_solveFor_64 ?_
                    refine g_iload (pc := 65) hG 7 rfl dX8_solveFor_65 ?_
                    refine g_aload_n (pc := 67) hG 0 rfl dX8_solveFor_67 ?_
                    refine g_get (pc := 68) hG fl8_21 0 rfl rfl dX8_solveFor_68 ?_
                    refine g_iload_n (pc := 71) hG 3 rfl dX8_solveFor_71 ?_
                    refine g_laload (pc := 72) hG 2 s rfl rfl (by omega) (by omega) (by decide) dX8_solveFor_72 ?_
                    refine g_aload_n (pc := 73) hG 1 rfl dX8_solveFor_73 ?_
                    refine g_iload (pc := 74) hG 7 rfl dX8_solveFor_74 ?_
                    refine g_laload (pc := 76) hG 3 i2 rfl rfl (by omega) (by omega) (by decide) dX8_solveFor_76 ?_
                    refine g_lmul (pc := 77) hG dX8_solveFor_77 ?_
                    refine g_aload_n (pc := 78) hG 0 rfl dX8_solveFor_78 ?_
                    refine g_iload (pc := 79) hG 7 rfl dX8_solveFor_79 ?_
                    refine g_lload (pc := 81) hG 4 rfl dX8_solveFor_81 ?_
                    refine g_lload (pc := 83) hG 5 rfl dX8_solveFor_83 ?_
                    refine g_lload (pc := 85) hG 6 rfl dX8_solveFor_85 ?_
                    refine g_callV (pc := 87) hG (As := [iV (((i2 : Nat) : Int)), lV (g8 0), lV (g8 1), lV (g8 2)]) (rest := [lV ((S s) * (f i2)), iV (((i2 : Nat) : Int)), .ref (ad (o3))]) (c_X8_rowProduct (l := l) (D := D) (cI := cI) (cL := cL) (cZ := cZ) (cX := cX) (cG := cG) ad o P ts (((r : Nat) : Int)) i2 (g8 0) (g8 1) (g8 2) (by omega)) (Sp.sel [0, 1] rfl (by decide)) cv8_49 ⟨rfl, rfl⟩ ⟨Nat.le_of_ble_eq_true rfl, Nat.le_of_ble_eq_true rfl⟩ 0 rfl rfl rfl rfl (Nat.le_of_ble_eq_true rfl) dX8_solveFor_87 (fun v w1 h => ?_)
                    obtain ⟨rfl, rfl⟩ := h
                    show G 90 [(0, .ref (ad (o))), (1, .ref (ad (o2))), (2, .ref (ad (o3))), (3, iV (((s : Nat) : Int))), (4, lV (g8 0)), (6, lV (g8 1)), (8, lV (g8 2)), (10, iV (((i2 : Nat) : Int)))] [lV (rp P i2 (g8 0) (g8 1) (g8 2)), lV ((S s) * (f i2)), iV (((i2 : Nat) : Int)), .ref (ad (o3))] ([sqoC0 cI cL cZ ad (o) (ts) (((r : Nat) : Int)), l9C0 cI cL cZ ad (o + 1) (P), l4C0 cI cL cZ ad (o + 4) (S), l3C0 cI cL cZ ad (o2) (f), l3C0 cI cL cZ ad (o3) (g7)])
                    refine g_lsub (pc := 90) hG dX8_solveFor_90 ?_
                    refine g_nmL (pc := 91) hG (fun x91 ex91 => ?_)
                    refine g_lastore (pc := 91) hG 4 i2 rfl rfl (by omega) (by omega) (by decide) (ws' := [sqoC0 cI cL cZ ad (o) (ts) (((r : Nat) : Int)), l9C0 cI cL cZ ad (o + 1) (P), l4C0 cI cL cZ ad (o + 4) (S), l3C0 cI cL cZ ad (o2) (f), l3C0 cI cL cZ ad (o3) (upZ g7 i2 x91)]) rfl dX8_solveFor_91 ?_
                    refine g_iinc (pc := 92) hG 7 rfl (by decide) (lv' := [(10, iV ((((i2 : Nat) : Int)) + 1)), (0, .ref (ad (o))), (1, .ref (ad (o2))), (2, .ref (ad (o3))), (3, iV (((s : Nat) : Int))), (4, lV (g8 0)), (6, lV (g8 1)), (8, lV (g8 2))]) rfl dX8_solveFor_92 ?_
                    refine g_goto (pc := 95) hG (tgt := 58) (by decide) dX8_solveFor_95 ?_
                    exact g_lv (pc := 58) hG [1, 2, 3, 4, 5, 6, 7, 0] rfl (ih58 (i2 + 1) (upZ g7 i2 x91) (by omega) (by omega) (fill_step h7 (by assumption)))
              exact g_lv (pc := 58) hG [4, 5, 6, 7, 3, 2, 1, 0] rfl (L58 _ 0 g8 (Nat.lt_succ_self _) (by omega) (fun j h => absurd h (Nat.not_lt_zero _)))
        exact g_lv (pc := 32) hG [1, 2, 3, 0] rfl (L32 _ 1 g9 (Nat.lt_succ_self _) (by omega) (SI.init (by omega) h9))
      · refine g_aload_n (pc := 7) hG 2 rfl dX8_solveFor_7 ?_
        refine g_iload_n (pc := 8) hG 3 rfl dX8_solveFor_8 ?_
        refine g_aload_n (pc := 9) hG 0 rfl dX8_solveFor_9 ?_
        refine g_get (pc := 10) hG fl8_45 0 rfl rfl dX8_solveFor_10 ?_
        have J23 : ∀ (j23s0 : Int), (((¬ ((r : Nat) : Int) = 0) ∧ j23s0 = f i) ∨ ((((r : Nat) : Int) = 0) ∧ j23s0 = 0)) → G 23 [(0, .ref (ad (o))), (1, .ref (ad (o2))), (2, .ref (ad (o3))), (3, iV (((i : Nat) : Int)))] [lV (j23s0), iV (((i : Nat) : Int)), .ref (ad (o3))] ([sqoC0 cI cL cZ ad (o) (ts) (((r : Nat) : Int)), l9C0 cI cL cZ ad (o + 1) (P), l4C0 cI cL cZ ad (o + 4) (S), l3C0 cI cL cZ ad (o2) (f), l3C0 cI cL cZ ad (o3) (g9)]) := by
          intro j23s0 k23
          refine g_lastore (pc := 23) hG 4 i rfl rfl (by omega) (by omega) (by decide) (ws' := [sqoC0 cI cL cZ ad (o) (ts) (((r : Nat) : Int)), l9C0 cI cL cZ ad (o + 1) (P), l4C0 cI cL cZ ad (o + 4) (S), l3C0 cI cL cZ ad (o2) (f), l3C0 cI cL cZ ad (o3) (upZ g9 i j23s0)]) rfl dX8_solveFor_23 ?_
          refine g_iinc (pc := 24) hG 3 rfl (by decide) (lv' := [(3, iV ((((i : Nat) : Int)) + 1)), (0, .ref (ad (o))), (1, .ref (ad (o2))), (2, .ref (ad (o3)))]) rfl dX8_solveFor_24 ?_
          refine g_goto (pc := 27) hG (tgt := 2) (by decide) dX8_solveFor_27 ?_
          exact g_lv (pc := 2) hG [1, 2, 3, 0] rfl (ih2 (i + 1) (upZ g9 i j23s0) (by omega) (by omega) (fill_step h9 (by rcases k23 with h | h <;> simp_all)))
        refine g_if_ne (pc := 13) hG (by omega) (tgt := 20) (by decide) dX8_solveFor_13 (fun h13 => ?_) (fun h13 => ?_)
        · refine g_aload_n (pc := 20) hG 1 rfl dX8_solveFor_20 ?_
          refine g_iload_n (pc := 21) hG 3 rfl dX8_solveFor_21 ?_
          refine g_laload (pc := 22) hG 3 i rfl rfl (by omega) (by omega) (by decide) dX8_solveFor_22 ?_
          exact g_lv (pc := 23) hG [0, 1, 2, 3] rfl (J23 (f i) (Or.inl ⟨h13, rfl⟩))
        · refine g_lconst (z := 0) (pc := 16) hG dX8_solveFor_16 (by decide) ?_
          refine g_goto (pc := 17) hG (tgt := 23) (by decide) dX8_solveFor_17 ?_
          exact g_lv (pc := 23) hG [0, 1, 2, 3] rfl (J23 0 (Or.inr (⟨h13, rfl⟩)))
  exact g_lv (pc := 2) hG [1, 2, 3, 0] rfl (L2 _ 0 g (Nat.lt_succ_self _) (by omega) (fun j h => absurd h (Nat.not_lt_zero _)))
set_option maxHeartbeats 4000000 in
set_option maxRecDepth 100000 in
theorem c_X8_solve {l : Launch} {D : va_G} {cI cL cZ cX cG : ClassId} (ad : Nat → Nat) (o : Nat) (P : Nat → Int) (R : Nat → Int) (T : Nat → Int) (S : Nat → Int) (ts : Int) (rk : Int) (hP : PB P) : Ct l D (gT cI cL cZ cX cG) yX8_solve cX8_solve 1 none ({ frames := 2, cells := 0, slots := 0, locals := 58 }) [.ref (ad (o))] ([sqoC0 cI cL cZ ad (o) (ts) (rk), l9C0 cI cL cZ ad (o + 1) (P), l3C0 cI cL cZ ad (o + 2) (R), l3C0 cI cL cZ ad (o + 3) (T), l4C0 cI cL cZ ad (o + 4) (S)]) (fun vv_ ww_ => ∃ (T2 : Nat → Int), ∃ (S2 : Nat → Int), (∀ k, k ≤ 3 → S2 k = symF P k) ∧ (∀ i, i < 3 → T2 i = slv P R i) ∧ vv_ = none ∧ ww_ = [sqoC0 cI cL cZ ad (o) (ts) (((rk0 P : Nat) : Int)), l9C0 cI cL cZ ad (o + 1) (P), l3C0 cI cL cZ ad (o + 2) (R), l3C0 cI cL cZ ad (o + 3) (T2), l4C0 cI cL cZ ad (o + 4) (S2)]) := by
  refine Ct.of (by decide) (Nat.le_of_ble_eq_true rfl) (fun G hG => ?_)
  show G 0 [(0, .ref (ad (o)))] [] ([sqoC0 cI cL cZ ad (o) (ts) (rk), l9C0 cI cL cZ ad (o + 1) (P), l3C0 cI cL cZ ad (o + 2) (R), l3C0 cI cL cZ ad (o + 3) (T), l4C0 cI cL cZ ad (o + 4) (S)])
  refine g_aload_n (pc := 0) hG 0 rfl dX8_solve_0 ?_
  refine g_callV (pc := 1) hG (As := []) (rest := []) (c_X8_measure (l := l) (D := D) (cI := cI) (cL := cL) (cZ := cZ) (cX := cX) (cG := cG) ad o P S ts rk (by omega)) (Sp.sel [0, 1, 4] rfl (by decide)) cv8_38 ⟨rfl, rfl⟩ ⟨Nat.le_of_ble_eq_true rfl, Nat.le_of_ble_eq_true rfl⟩ 0 rfl rfl rfl rfl (Nat.le_of_ble_eq_true rfl) dX8_solve_1 (fun v w1 h => ?_)
  obtain ⟨S2_1, hS_1, rfl, rfl⟩ := h
  show G 4 [(0, .ref (ad (o)))] [] ([sqoC0 cI cL cZ ad (o) (ts) (((rk0 P : Nat) : Int)), l9C0 cI cL cZ ad (o + 1) (P), l3C0 cI cL cZ ad (o + 2) (R), l3C0 cI cL cZ ad (o + 3) (T), l4C0 cI cL cZ ad (o + 4) (S2_1)])
  refine g_aload_n (pc := 4) hG 0 rfl dX8_solve_4 ?_
  refine g_aload_n (pc := 5) hG 0 rfl dX8_solve_5 ?_
  refine g_get (pc := 6) hG fl8_15 0 rfl rfl dX8_solve_6 ?_
  refine g_aload_n (pc := 9) hG 0 rfl dX8_solve_9 ?_
  refine g_get (pc := 10) hG fl8_18 0 rfl rfl dX8_solve_10 ?_
  refine g_callV (pc := 13) hG (As := [.ref (ad (o + 2)), .ref (ad (o + 3))]) (rest := []) (c_X8_solveFor (l := l) (D := D) (cI := cI) (cL := cL) (cZ := cZ) (cX := cX) (cG := cG) ad o (o + 2) (o + 3) P S2_1 R T ts (rk0 P) (rk_le P)) (Sp.sel [0, 1, 4, 2, 3] rfl (by decide)) cv8_41 ⟨rfl, rfl⟩ ⟨Nat.le_of_ble_eq_true rfl, Nat.le_of_ble_eq_true rfl⟩ 0 rfl rfl rfl rfl (Nat.le_of_ble_eq_true rfl) dX8_solve_13 (fun v w1 h => ?_)
  obtain ⟨g2_13, hg_13, rfl, rfl⟩ := h
  show G 16 [(0, .ref (ad (o)))] [] ([sqoC0 cI cL cZ ad (o) (ts) ((((rk0 P) : Nat) : Int)), l9C0 cI cL cZ ad (o + 1) (P), l3C0 cI cL cZ ad (o + 2) (R), l3C0 cI cL cZ ad (o + 3) (g2_13), l4C0 cI cL cZ ad (o + 4) (S2_1)])
  exact g_return (pc := 16) hG ⟨g2_13, S2_1, hS_1, slv_of hS_1 hg_13, rfl, rfl⟩ dX8_solve_16
set_option maxHeartbeats 4000000 in
set_option maxRecDepth 100000 in
theorem c_X8_copyColumns {l : Launch} {D : va_G} {cI cL cZ cX cG : ClassId} (ad : Nat → Nat) (o : Nat) (o2 : Nat) (P : Nat → Int) (R : Nat → Int) (ts : Int) (rk : Int) (P9 : Nat → Int) (R9 : Nat → Int) (ts9 : Int) (rk9 : Int) (mk : Nat) (hm : mk < 8) : Ct l D (gT cI cL cZ cX cG) yX8_copyColumns cX8_copyColumns 7 none ({ frames := 0, cells := 0, slots := 0, locals := 0 }) [.ref (ad (o)), .ref (ad (o2)), iV (((mk : Nat) : Int))] ([sqoC0 cI cL cZ ad (o) (ts) (rk), l9C0 cI cL cZ ad (o + 1) (P), l3C0 cI cL cZ ad (o + 2) (R), sqoC0 cI cL cZ ad (o2) (ts9) (rk9), l9C0 cI cL cZ ad (o2 + 1) (P9), l3C0 cI cL cZ ad (o2 + 2) (R9)]) (fun vv_ ww_ => ∃ (P2 : Nat → Int), ∃ (R2 : Nat → Int), (∀ i j, i < 3 → j < 3 → P2 (i * 3 + j) = if mk.testBit i = true ∧ mk.testBit j = true then P9 (i * 3 + j) else 0) ∧ (∀ i, i < 3 → R2 i = if mk.testBit i = true then R9 i else 0) ∧ vv_ = none ∧ ww_ = [sqoC0 cI cL cZ ad (o) (ts9) (rk), l9C0 cI cL cZ ad (o + 1) (P2), l3C0 cI cL cZ ad (o + 2) (R2), sqoC0 cI cL cZ ad (o2) (ts9) (rk9), l9C0 cI cL cZ ad (o2 + 1) (P9), l3C0 cI cL cZ ad (o2 + 2) (R9)]) := by
  refine Ct.of (by decide) (Nat.le_of_ble_eq_true rfl) (fun G hG => ?_)
  show G 0 [(0, .ref (ad (o))), (1, .ref (ad (o2))), (2, iV (((mk : Nat) : Int)))] [] ([sqoC0 cI cL cZ ad (o) (ts) (rk), l9C0 cI cL cZ ad (o + 1) (P), l3C0 cI cL cZ ad (o + 2) (R), sqoC0 cI cL cZ ad (o2) (ts9) (rk9), l9C0 cI cL cZ ad (o2 + 1) (P9), l3C0 cI cL cZ ad (o2 + 2) (R9)])
  refine g_iconst (pc := 0) hG dX8_copyColumns_0 ?_
  refine g_istore_n (pc := 1) hG (by decide) (lv' := [(3, iV (0)), (0, .ref (ad (o))), (1, .ref (ad (o2))), (2, iV (((mk : Nat) : Int)))]) rfl dX8_copyColumns_1 ?_
  have L2 : ∀ (fu2 : Nat) (i : Nat) (p9 : Nat → Int) (r9 : Nat → Int), 3 - i < fu2 → (i ≤ 3) → (GCp P9 mk p9 i 0) → (∀ j, j < i → r9 j = if mk.testBit j = true then R9 j else 0) → G 2 [(0, .ref (ad (o))), (1, .ref (ad (o2))), (2, iV (((mk : Nat) : Int))), (3, iV (((i : Nat) : Int)))] [] ([sqoC0 cI cL cZ ad (o) (ts) (rk), l9C0 cI cL cZ ad (o + 1) (p9), l3C0 cI cL cZ ad (o + 2) (r9), sqoC0 cI cL cZ ad (o2) (ts9) (rk9), l9C0 cI cL cZ ad (o2 + 1) (P9), l3C0 cI cL cZ ad (o2 + 2) (R9)]) := by
    intro fu2
    induction fu2 with
    | zero => intro i p9 r9 hm; exact absurd hm (Nat.not_lt_zero _)
    | succ fu2 ih2 =>
      intro i p9 r9 hm2 hi hp hr
      refine g_iload_n (pc := 2) hG 3 rfl dX8_copyColumns_2 ?_
      refine g_iconst (pc := 3) hG dX8_copyColumns_3 ?_
      refine g_icmp_ge (pc := 4) hG (by omega) (by omega) (tgt := 104) (by decide) dX8_copyColumns_4 (fun h4 => ?_) (fun h4 => ?_)
      · refine g_aload_n (pc := 104) hG 0 rfl dX8_copyColumns_104 ?_
        refine g_aload_n (pc := 105) hG 1 rfl dX8_copyColumns_105 ?_
        refine g_get (pc := 106) hG fl8_24 3 rfl rfl dX8_copyColumns_106 ?_
        refine g_put (pc := 109) hG fp8_24 0 rfl rfl rfl (Nat.le_of_ble_eq_true rfl) (ws' := [sqoC0 cI cL cZ ad (o) (ts9) (rk), l9C0 cI cL cZ ad (o + 1) (p9), l3C0 cI cL cZ ad (o + 2) (r9), sqoC0 cI cL cZ ad (o2) (ts9) (rk9), l9C0 cI cL cZ ad (o2 + 1) (P9), l3C0 cI cL cZ ad (o2 + 2) (R9)]) rfl dX8_copyColumns_109 ?_
        exact g_return (pc := 112) hG ⟨p9, r9, hp.out (by omega), fun j h => hr j (by omega), rfl, rfl⟩ dX8_copyColumns_112
      · refine g_iload_n (pc := 7) hG 2 rfl dX8_copyColumns_7 ?_
        refine g_iload_n (pc := 8) hG 3 rfl dX8_copyColumns_8 ?_
        refine g_ishr (z := ((mk >>> i : Nat) : Int)) (pc := 9) hG (by exact sh_r hm (by omega)) dX8_copyColumns_9 ?_
        refine g_iconst (pc := 10) hG dX8_copyColumns_10 ?_
        refine g_iand (z := ((mk >>> i &&& 1 : Nat) : Int)) (pc := 11) hG (by exact sh_1 hm i) dX8_copyColumns_11 ?_
        have J20 : ∀ (j20s0 : Bool), (((((mk >>> i &&& 1 : Nat) : Int) = 0) ∧ j20s0 = false) ∨ ((¬ ((mk >>> i &&& 1 : Nat) : Int) = 0) ∧ j20s0 = true)) → G 20 [(0, .ref (ad (o))), (1, .ref (ad (o2))), (2, iV (((mk : Nat) : Int))), (3, iV (((i : Nat) : Int)))] [bV (j20s0)] ([sqoC0 cI cL cZ ad (o) (ts) (rk), l9C0 cI cL cZ ad (o + 1) (p9), l3C0 cI cL cZ ad (o + 2) (r9), sqoC0 cI cL cZ ad (o2) (ts9) (rk9), l9C0 cI cL cZ ad (o2 + 1) (P9), l3C0 cI cL cZ ad (o2 + 2) (R9)]) := by
          intro j20s0 k20
          have hb20 : j20s0 = mk.testBit i := by rcases k20 with ⟨h, rfl⟩ | ⟨h, rfl⟩; exact (sh_f h).symm; exact (sh_t h).symm
          refine g_istore (pc := 20) hG (by decide) (lv' := [(4, bV (j20s0)), (0, .ref (ad (o))), (1, .ref (ad (o2))), (2, iV (((mk : Nat) : Int))), (3, iV (((i : Nat) : Int)))]) rfl dX8_copyColumns_20 ?_
          refine g_iconst (pc := 22) hG dX8_copyColumns_22 ?_
          refine g_istore (pc := 23) hG (by decide) (lv' := [(5, iV (0)), (4, bV (j20s0)), (0, .ref (ad (o))), (1, .ref (ad (o2))), (2, iV (((mk : Nat) : Int))), (3, iV (((i : Nat) : Int)))]) rfl dX8_copyColumns_23 ?_
          have L25 : ∀ (fu25 : Nat) (j : Nat) (p8 : Nat → Int), 3 - j < fu25 → (j ≤ 3) → (GCp P9 mk p8 i j) → G 25 [(0, .ref (ad (o))), (1, .ref (ad (o2))), (2, iV (((mk : Nat) : Int))), (3, iV (((i : Nat) : Int))), (4, bV (j20s0)), (5, iV (((j : Nat) : Int)))] [] ([sqoC0 cI cL cZ ad (o) (ts) (rk), l9C0 cI cL cZ ad (o + 1) (p8), l3C0 cI cL cZ ad (o + 2) (r9), sqoC0 cI cL cZ ad (o2) (ts9) (rk9), l9C0 cI cL cZ ad (o2 + 1) (P9), l3C0 cI cL cZ ad (o2 + 2) (R9)]) := by
            intro fu25
            induction fu25 with
            | zero => intro j p8 hm; exact absurd hm (Nat.not_lt_zero _)
            | succ fu25 ih25 =>
              intro j p8 hm25 hj hp8
              refine g_iload (pc := 25) hG 5 rfl dX8_copyColumns_25 ?_
              refine g_iconst (pc := 27) hG dX8_copyColumns_27 ?_
              refine g_icmp_ge (pc := 28) hG (by omega) (by omega) (tgt := 77) (by decide) dX8_copyColumns_28 (fun h28 => ?_) (fun h28 => ?_)
              · refine g_aload_n (pc := 77) hG 0 rfl dX8_copyColumns_77 ?_
                refine g_get (pc := 78) hG fl8_15 0 rfl rfl dX8_copyColumns_78 ?_
                refine g_iload_n (pc := 81) hG 3 rfl dX8_copyColumns_81 ?_
                refine g_iload (pc := 82) hG 4 rfl dX8_copyColumns_82 ?_
                have J97 : ∀ (j97s0 : Int), (((j20s0 = false) ∧ j97s0 = 0) ∨ ((j20s0 = true) ∧ j97s0 = R9 i)) → G 97 [(0, .ref (ad (o))), (1, .ref (ad (o2))), (2, iV (((mk : Nat) : Int))), (3, iV (((i : Nat) : Int))), (4, bV (j20s0)), (5, iV (((j : Nat) : Int)))] [lV (j97s0), iV (((i : Nat) : Int)), .ref (ad (o + 2))] ([sqoC0 cI cL cZ ad (o) (ts) (rk), l9C0 cI cL cZ ad (o + 1) (p8), l3C0 cI cL cZ ad (o + 2) (r9), sqoC0 cI cL cZ ad (o2) (ts9) (rk9), l9C0 cI cL cZ ad (o2 + 1) (P9), l3C0 cI cL cZ ad (o2 + 2) (R9)]) := by
                  intro j97s0 k97
                  refine g_lastore (pc := 97) hG 2 i rfl rfl (by omega) (by omega) (by decide) (ws' := [sqoC0 cI cL cZ ad (o) (ts) (rk), l9C0 cI cL cZ ad (o + 1) (p8), l3C0 cI cL cZ ad (o + 2) (upZ r9 i j97s0), sqoC0 cI cL cZ ad (o2) (ts9) (rk9), l9C0 cI cL cZ ad (o2 + 1) (P9), l3C0 cI cL cZ ad (o2 + 2) (R9)]) rfl dX8_copyColumns_97 ?_
                  refine g_iinc (pc := 98) hG 3 rfl (by decide) (lv' := [(3, iV ((((i : Nat) : Int)) + 1)), (0, .ref (ad (o))), (1, .ref (ad (o2))), (2, iV (((mk : Nat) : Int))), (4, bV (j20s0)), (5, iV (((j : Nat) : Int)))]) rfl dX8_copyColumns_98 ?_
                  refine g_goto (pc := 101) hG (tgt := 2) (by decide) dX8_copyColumns_101 ?_
                  exact g_lv (pc := 2) hG [1, 2, 3, 0] rfl (ih2 (i + 1) p8 (upZ r9 i j97s0) (by omega) (by omega) (hp8.next (by omega)) (fill_step hr (by rw [hb20] at k97; rcases k97 with h | h <;> simp_all)))
                refine g_ifb_eq (pc := 84) hG (tgt := 96) (by decide) dX8_copyColumns_84 (fun h84 => ?_) (fun h84 => ?_)
                · refine g_lconst (z := 0) (pc := 96) hG dX8_copyColumns_96 (by decide) ?_
                  exact g_lv (pc := 97) hG [0, 1, 2, 3, 4, 5] rfl (J97 0 (Or.inl ⟨h84, rfl⟩))
                · refine g_aload_n (pc := 87) hG 1 rfl dX8_copyColumns_87 ?_
                  refine g_get (pc := 88) hG fl8_15 3 rfl rfl dX8_copyColumns_88 ?_
                  refine g_iload_n (pc := 91) hG 3 rfl dX8_copyColumns_91 ?_
                  refine g_laload (pc := 92) hG 5 i rfl rfl (by omega) (by omega) (by decide) dX8_copyColumns_92 ?_
                  refine g_goto (pc := 93) hG (tgt := 97) (by decide) dX8_copyColumns_93 ?_
                  exact g_lv (pc := 97) hG [0, 1, 2, 3, 4, 5] rfl (J97 (R9 i) (Or.inr (⟨h84, rfl⟩)))
              · refine g_iload_n (pc := 31) hG 3 rfl dX8_copyColumns_31 ?_
                refine g_iconst (pc := 32) hG dX8_copyColumns_32 ?_
                refine g_imul (pc := 33) hG dX8_copyColumns_33 ?_
                refine g_iload (pc := 34) hG 5 rfl dX8_copyColumns_34 ?_
                refine g_iadd (pc := 36) hG dX8_copyColumns_36 ?_
                refine g_istore (pc := 37) hG (by decide) (lv' := [(6, iV ((((i * 3) + j : Nat) : Int))), (0, .ref (ad (o))), (1, .ref (ad (o2))), (2, iV (((mk : Nat) : Int))), (3, iV (((i : Nat) : Int))), (4, bV (j20s0)), (5, iV (((j : Nat) : Int)))]) rfl dX8_copyColumns_37 ?_
                refine g_aload_n (pc := 39) hG 1 rfl dX8_copyColumns_39 ?_
                refine g_get (pc := 40) hG fl8_9 0 rfl rfl dX8_copyColumns_40 ?_
                refine g_iload (pc := 43) hG 0 rfl dX8_copyColumns_43 ?_
                refine g_iload (pc := 45) hG 5 rfl dX8_copyColumns_45 ?_
                have J70 : ∀ (j70s0 : Int), (((j20s0 = false) ∧ j70s0 = 0) ∨ ((j20s0 = true) ∧ (((mk >>> j &&& 1 : Nat) : Int) = 0) ∧ j70s0 = 0) ∨ ((j20s0 = true) ∧ (¬ ((mk >>> j &&& 1 : Nat) : Int) = 0) ∧ j70s0 = P9 ((i * 3) + j))) → G 70 [(0, .ref (ad (o))), (1, .ref (ad (o2))), (2, iV (((mk : Nat) : Int))), (3, iV (((i : Nat) : Int))), (4, bV (j20s0)), (5, iV (((j : Nat) : Int))), (6, iV ((((i * 3) + j : Nat) : Int)))] [lV (j70s0), iV ((((i * 3) + j : Nat) : Int)), .ref (ad (o + 1))] ([sqoC0 cI cL cZ ad (o) (ts) (rk), l9C0 cI cL cZ ad (o + 1) (p8), l3C0 cI cL cZ ad (o + 2) (r9), sqoC0 cI cL cZ ad (o2) (ts9) (rk9), l9C0 cI cL cZ ad (o2 + 1) (P9), l3C0 cI cL cZ ad (o2 + 2) (R9)]) := by
                  intro j70s0 k70
                  refine g_lastore (pc := 70) hG 1 ((i * 3) + j) rfl rfl (by omega) (by omega) (by decide) (ws' := [sqoC0 cI cL cZ ad (o) (ts) (rk), l9C0 cI cL cZ ad (o + 1) (upZ p8 ((i * 3) + j) j70s0), l3C0 cI cL cZ ad (o + 2) (r9), sqoC0 cI cL cZ ad (o2) (ts9) (rk9), l9C0 cI cL cZ ad (o2 + 1) (P9), l3C0 cI cL cZ ad (o2 + 2) (R9)]) rfl dX8_copyColumns_70 ?_
                  refine g_iinc (pc := 71) hG 5 rfl (by decide) (lv' := [(5, iV ((((j : Nat) : Int)) + 1)), (0, .ref (ad (o))), (1, .ref (ad (o2))), (2, iV (((mk : Nat) : Int))), (3, iV (((i : Nat) : Int))), (4, bV (j20s0)), (6, iV ((((i * 3) + j : Nat) : Int)))]) rfl dX8_copyColumns_71 ?_
                  refine g_goto (pc := 74) hG (tgt := 25) (by decide) dX8_copyColumns_74 ?_
                  exact g_lv (pc := 25) hG [1, 2, 3, 4, 5, 0] rfl (ih25 (j + 1) (upZ p8 ((i * 3) + j) j70s0) (by omega) (by omega) (hp8.step (by omega) (by omega) (by rw [hb20] at k70; exact cp_val k70)))
                refine g_ifb_eq (pc := 47) hG (tgt := 69) (by decide) dX8_copyColumns_47 (fun h47 => ?_) (fun h47 => ?_)
                · refine g_lconst (z := 0) (pc := 69) hG dX8_copyColumns_69 (by decide) ?_
                  exact g_lv (pc := 70) hG [1, 2, 3, 4, 5, 6, 0] rfl (J70 0 (Or.inl ⟨h47, rfl⟩))
                · refine g_iload_n (pc := 50) hG 3 rfl dX8_copyColumns_50 ?_
                  refine g_iload (pc := 51) hG 6 rfl dX8_copyColumns_51 ?_
                  refine g_ishr (z := ((mk >>> j : Nat) : Int)) (pc := 53) hG (by exact sh_r hm (by omega)) dX8_copyColumns_53 ?_
                  refine g_iconst (pc := 54) hG dX8_copyColumns_54 ?_
                  refine g_iand (z := ((mk >>> j &&& 1 : Nat) : Int)) (pc := 55) hG (by exact sh_1 hm j) dX8_copyColumns_55 ?_
                  refine g_if_eq (pc := 56) hG (by exact sh_in mk j) (tgt := 69) (by decide) dX8_copyColumns_56 (fun h56 => ?_) (fun h56 => ?_)
                  · refine g_lconst (z := 0) (pc := 69) hG dX8_copyColumns_69 (by decide) ?_
                    exact g_lv (pc := 70) hG [1, 2, 3, 4, 5, 6, 0] rfl (J70 0 (Or.inr (Or.inl ⟨h47, h56, rfl⟩)))
                  · refine g_aload_n (pc := 59) hG 2 rfl dX8_copyColumns_59 ?_
                    refine g_get (pc := 60) hG fl8_9 3 rfl rfl dX8_copyColumns_60 ?_
                    refine g_iload (pc := 63) hG 0 rfl dX8_copyColumns_63 ?_
                    refine g_laload (pc := 65) hG 4 ((i * 3) + j) rfl rfl (by omega) (by omega) (by decide) dX8_copyColumns_65 ?_
                    refine g_goto (pc := 66) hG (tgt := 70) (by decide) dX8_copyColumns_66 ?_
                    exact g_lv (pc := 70) hG [1, 2, 3, 4, 5, 6, 0] rfl (J70 (P9 ((i * 3) + j)) (Or.inr (Or.inr (⟨h47, h56, rfl⟩))))
          exact g_lv (pc := 25) hG [2, 3, 4, 5, 1, 0] rfl (L25 _ 0 p9 (Nat.lt_succ_self _) (by omega) (hp))
        refine g_if_eq (pc := 12) hG (by exact sh_in mk i) (tgt := 19) (by decide) dX8_copyColumns_12 (fun h12 => ?_) (fun h12 => ?_)
        · refine g_iconst (pc := 19) hG dX8_copyColumns_19 ?_
          exact g_lv (pc := 20) hG [0, 1, 2, 3] rfl (J20 false (Or.inl ⟨h12, rfl⟩))
        · refine g_iconst (pc := 15) hG dX8_copyColumns_15 ?_
          refine g_goto (pc := 16) hG (tgt := 20) (by decide) dX8_copyColumns_16 ?_
          exact g_lv (pc := 20) hG [0, 1, 2, 3] rfl (J20 true (Or.inr (⟨h12, rfl⟩)))
  exact g_lv (pc := 2) hG [1, 2, 3, 0] rfl (L2 _ 0 P R (Nat.lt_succ_self _) (by omega) (GCp.init) (fun j h => absurd h (Nat.not_lt_zero _)))
