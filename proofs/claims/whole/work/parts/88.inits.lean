/-! the constructors -/
set_option maxHeartbeats 4000000 in
set_option maxRecDepth 100000 in
theorem ctX1 (l : Launch) (D : va_G) (cI cL cZ cX cG : ClassId) (h : Nat) : CtI l D (gT cI cL cZ cX cG) yX1_init cX1_init 1 { frames := 1, cells := 0, slots := 0, locals := 12 } [.ref h] [(h, ob 1 [bV false, lV 0, lV 0, lV 0])] (fun w1 => w1 = [(h, ob 1 [bV true, lV 0, lV (1), lV 0])]) 0 0 := by
  refine CtI.of (by decide) rfl (Nat.le_of_ble_eq_true rfl) (fun G hG => ?_)
  show G 0 [(0, .ref h)] [] [(h, ob 1 [bV false, lV 0, lV 0, lV 0])] 0 0
  refine ct_aload_n (pc := 0) hG 0 rfl dX1_init_0 ?_
  refine ct_object (pc := 1) hG wi_301 wi_70 wi_71 dX1_init_1 (by decide) (by decide) ?_
  refine ct_aload_n (pc := 4) hG 0 rfl dX1_init_4 ?_
  refine ct_iconst (pc := 5) hG dX1_init_5 ?_
  refine ct_val (pc := 6) hG (show iV 1 = bV true from rfl) ?_
  refine ct_put (ws' := [(h, ob 1 [bV true, lV 0, lV 0, lV 0])]) (pc := 6) hG fp1_9 0 rfl (bI_n true) (bI_fit true) (Nat.le_of_ble_eq_true rfl) rfl dX1_init_6 ?_
  refine ct_aload_n (pc := 9) hG 0 rfl dX1_init_9 ?_
  refine ct_lconst (pc := 10) hG (z := 1) dX1_init_10 (by decide) ?_
  refine ct_put (ws' := [(h, ob 1 [bV true, lV 0, lV (1), lV 0])]) (pc := 11) hG fp1_15 0 rfl rfl rfl (Nat.le_of_ble_eq_true rfl) rfl dX1_init_11 ?_
  exact ct_ret (pc := 14) hG (by decide) (by decide) [0] rfl rfl (by decide) rfl dX1_init_14
set_option maxHeartbeats 4000000 in
set_option maxRecDepth 100000 in
theorem ctX3 (l : Launch) (D : va_G) (cI cL cZ cX cG : ClassId) (h : Nat) : CtI l D (gT cI cL cZ cX cG) yX3_init cX3_init 1 { frames := 1, cells := 1, slots := 2600, locals := 12 } [.ref h] [(h, ob 2 [.null, lV 0, lV 0])] (fun w1 => ∃ q8 : Nat, w1 = [(h, ob 2 [.ref q8, lV 0, lV 0]), (q8, aI cI 2600 (fun _ => 0))]) 1 2600 := by
  refine CtI.of (by decide) rfl (Nat.le_of_ble_eq_true rfl) (fun G hG => ?_)
  show G 0 [(0, .ref h)] [] [(h, ob 2 [.null, lV 0, lV 0])] 0 0
  refine ct_aload_n (pc := 0) hG 0 rfl dX3_init_0 ?_
  refine ct_object (pc := 1) hG wi_228 wi_70 wi_71 dX3_init_1 (by decide) (by decide) ?_
  refine ct_aload_n (pc := 4) hG 0 rfl dX3_init_4 ?_
  refine ct_sipush (pc := 5) hG dX3_init_5 (by decide) ?_
  refine ct_newI (N := 2600) (pc := 8) hG rfl (by decide) wi_106 (by decide) (by decide) dX3_init_8 (fun q8 => ?_)
  refine ct_ws hG (ws' := [(h, ob 2 [.null, lV 0, lV 0]), (q8, aI cI 2600 (fun _ => 0))]) rfl ?_
  refine ct_kn hG (k' := 1) (n' := 2600) rfl rfl ?_
  refine ct_putF (ws' := [(h, ob 2 [.ref q8, lV 0, lV 0]), (q8, aI cI 2600 (fun _ => 0))]) (pc := 10) hG ff3_13 0 rfl rfl rfl (Nat.le_of_ble_eq_true rfl) rfl dX3_init_10 ?_
  exact ct_ret (pc := 13) hG (by decide) (by decide) [0, 1] rfl rfl (by decide) ⟨q8, rfl⟩ dX3_init_13
set_option maxHeartbeats 4000000 in
set_option maxRecDepth 100000 in
theorem ctX4 (l : Launch) (D : va_G) (cI cL cZ cX cG : ClassId) (h : Nat) : CtI l D (gT cI cL cZ cX cG) yX4_init cX4_init 1 { frames := 1, cells := 1, slots := 3, locals := 12 } [.ref h] [(h, ob 3 [.null, lV 0, lV 0, lV 0, lV 0, lV 0, lV 0])] (fun w1 => ∃ q6 : Nat, w1 = [(h, ob 3 [.ref q6, lV 0, lV 0, lV 0, lV 0, lV 0, lV 0]), (q6, aL cL 3 (fun _ => 0))]) 1 3 := by
  refine CtI.of (by decide) rfl (Nat.le_of_ble_eq_true rfl) (fun G hG => ?_)
  show G 0 [(0, .ref h)] [] [(h, ob 3 [.null, lV 0, lV 0, lV 0, lV 0, lV 0, lV 0])] 0 0
  refine ct_aload_n (pc := 0) hG 0 rfl dX4_init_0 ?_
  refine ct_object (pc := 1) hG wi_197 wi_70 wi_71 dX4_init_1 (by decide) (by decide) ?_
  refine ct_aload_n (pc := 4) hG 0 rfl dX4_init_4 ?_
  refine ct_iconst (pc := 5) hG dX4_init_5 ?_
  refine ct_newL (N := 3) (pc := 6) hG rfl (by decide) wi_191 (by decide) (by decide) dX4_init_6 (fun q6 => ?_)
  refine ct_ws hG (ws' := [(h, ob 3 [.null, lV 0, lV 0, lV 0, lV 0, lV 0, lV 0]), (q6, aL cL 3 (fun _ => 0))]) rfl ?_
  refine ct_kn hG (k' := 1) (n' := 3) rfl rfl ?_
  refine ct_putF (ws' := [(h, ob 3 [.ref q6, lV 0, lV 0, lV 0, lV 0, lV 0, lV 0]), (q6, aL cL 3 (fun _ => 0))]) (pc := 8) hG ff4_9 0 rfl rfl rfl (Nat.le_of_ble_eq_true rfl) rfl dX4_init_8 ?_
  exact ct_ret (pc := 11) hG (by decide) (by decide) [0, 1] rfl rfl (by decide) ⟨q6, rfl⟩ dX4_init_11
set_option maxHeartbeats 4000000 in
set_option maxRecDepth 100000 in
theorem ctX5 (l : Launch) (D : va_G) (cI cL cZ cX cG : ClassId) (h : Nat) : CtI l D (gT cI cL cZ cX cG) yX5_init cX5_init 1 { frames := 1, cells := 1, slots := 10, locals := 12 } [.ref h] [(h, ob 4 [.null, iV 0, iV 0])] (fun w1 => ∃ q7 : Nat, w1 = [(h, ob 4 [.ref q7, iV 0, iV 0]), (q7, aI cI 10 (fun _ => 0))]) 1 10 := by
  refine CtI.of (by decide) rfl (Nat.le_of_ble_eq_true rfl) (fun G hG => ?_)
  show G 0 [(0, .ref h)] [] [(h, ob 4 [.null, iV 0, iV 0])] 0 0
  refine ct_aload_n (pc := 0) hG 0 rfl dX5_init_0 ?_
  refine ct_object (pc := 1) hG wi_150 wi_70 wi_71 dX5_init_1 (by decide) (by decide) ?_
  refine ct_aload_n (pc := 4) hG 0 rfl dX5_init_4 ?_
  refine ct_bipush (pc := 5) hG dX5_init_5 (by decide) ?_
  refine ct_newI (N := 10) (pc := 7) hG rfl (by decide) wi_106 (by decide) (by decide) dX5_init_7 (fun q7 => ?_)
  refine ct_ws hG (ws' := [(h, ob 4 [.null, iV 0, iV 0]), (q7, aI cI 10 (fun _ => 0))]) rfl ?_
  refine ct_kn hG (k' := 1) (n' := 10) rfl rfl ?_
  refine ct_putF (ws' := [(h, ob 4 [.ref q7, iV 0, iV 0]), (q7, aI cI 10 (fun _ => 0))]) (pc := 9) hG ff5_9 0 rfl rfl rfl (Nat.le_of_ble_eq_true rfl) rfl dX5_init_9 ?_
  exact ct_ret (pc := 12) hG (by decide) (by decide) [0, 1] rfl rfl (by decide) ⟨q7, rfl⟩ dX5_init_12
set_option maxHeartbeats 4000000 in
set_option maxRecDepth 100000 in
theorem ctX6 (l : Launch) (D : va_G) (cI cL cZ cX cG : ClassId) (h : Nat) : CtI l D (gT cI cL cZ cX cG) yX6_init cX6_init 1 { frames := 1, cells := 5, slots := 130, locals := 12 } [.ref h] [(h, ob 5 [.null, .null, .null, .null, .null, iV 0])] (fun w1 => ∃ q7 q15 q23 q31 q39 : Nat, w1 = [(h, ob 5 [.ref q7, .ref q15, .ref q23, .ref q31, .ref q39, iV 0]), (q7, aI cI 26 (fun _ => 0)), (q15, aI cI 26 (fun _ => 0)), (q23, aI cI 26 (fun _ => 0)), (q31, aI cI 26 (fun _ => 0)), (q39, aI cI 26 (fun _ => 0))]) 5 130 := by
  refine CtI.of (by decide) rfl (Nat.le_of_ble_eq_true rfl) (fun G hG => ?_)
  show G 0 [(0, .ref h)] [] [(h, ob 5 [.null, .null, .null, .null, .null, iV 0])] 0 0
  refine ct_aload_n (pc := 0) hG 0 rfl dX6_init_0 ?_
  refine ct_object (pc := 1) hG wi_113 wi_70 wi_71 dX6_init_1 (by decide) (by decide) ?_
  refine ct_aload_n (pc := 4) hG 0 rfl dX6_init_4 ?_
  refine ct_bipush (pc := 5) hG dX6_init_5 (by decide) ?_
  refine ct_newI (N := 26) (pc := 7) hG rfl (by decide) wi_106 (by decide) (by decide) dX6_init_7 (fun q7 => ?_)
  refine ct_ws hG (ws' := [(h, ob 5 [.null, .null, .null, .null, .null, iV 0]), (q7, aI cI 26 (fun _ => 0))]) rfl ?_
  refine ct_kn hG (k' := 1) (n' := 26) rfl rfl ?_
  refine ct_putF (ws' := [(h, ob 5 [.ref q7, .null, .null, .null, .null, iV 0]), (q7, aI cI 26 (fun _ => 0))]) (pc := 9) hG ff6_11 0 rfl rfl rfl (Nat.le_of_ble_eq_true rfl) rfl dX6_init_9 ?_
  refine ct_aload_n (pc := 12) hG 0 rfl dX6_init_12 ?_
  refine ct_bipush (pc := 13) hG dX6_init_13 (by decide) ?_
  refine ct_newI (N := 26) (pc := 15) hG rfl (by decide) wi_106 (by decide) (by decide) dX6_init_15 (fun q15 => ?_)
  refine ct_ws hG (ws' := [(h, ob 5 [.ref q7, .null, .null, .null, .null, iV 0]), (q7, aI cI 26 (fun _ => 0)), (q15, aI cI 26 (fun _ => 0))]) rfl ?_
  refine ct_kn hG (k' := 2) (n' := 52) rfl rfl ?_
  refine ct_putF (ws' := [(h, ob 5 [.ref q7, .ref q15, .null, .null, .null, iV 0]), (q7, aI cI 26 (fun _ => 0)), (q15, aI cI 26 (fun _ => 0))]) (pc := 17) hG ff6_15 0 rfl rfl rfl (Nat.le_of_ble_eq_true rfl) rfl dX6_init_17 ?_
  refine ct_aload_n (pc := 20) hG 0 rfl dX6_init_20 ?_
  refine ct_bipush (pc := 21) hG dX6_init_21 (by decide) ?_
  refine ct_newI (N := 26) (pc := 23) hG rfl (by decide) wi_106 (by decide) (by decide) dX6_init_23 (fun q23 => ?_)
  refine ct_ws hG (ws' := [(h, ob 5 [.ref q7, .ref q15, .null, .null, .null, iV 0]), (q7, aI cI 26 (fun _ => 0)), (q15, aI cI 26 (fun _ => 0)), (q23, aI cI 26 (fun _ => 0))]) rfl ?_
  refine ct_kn hG (k' := 3) (n' := 78) rfl rfl ?_
  refine ct_putF (ws' := [(h, ob 5 [.ref q7, .ref q15, .ref q23, .null, .null, iV 0]), (q7, aI cI 26 (fun _ => 0)), (q15, aI cI 26 (fun _ => 0)), (q23, aI cI 26 (fun _ => 0))]) (pc := 25) hG ff6_18 0 rfl rfl rfl (Nat.le_of_ble_eq_true rfl) rfl dX6_init_25 ?_
  refine ct_aload_n (pc := 28) hG 0 rfl dX6_init_28 ?_
  refine ct_bipush (pc := 29) hG dX6_init_29 (by decide) ?_
  refine ct_newI (N := 26) (pc := 31) hG rfl (by decide) wi_106 (by decide) (by decide) dX6_init_31 (fun q31 => ?_)
  refine ct_ws hG (ws' := [(h, ob 5 [.ref q7, .ref q15, .ref q23, .null, .null, iV 0]), (q7, aI cI 26 (fun _ => 0)), (q15, aI cI 26 (fun _ => 0)), (q23, aI cI 26 (fun _ => 0)), (q31, aI cI 26 (fun _ => 0))]) rfl ?_
  refine ct_kn hG (k' := 4) (n' := 104) rfl rfl ?_
  refine ct_putF (ws' := [(h, ob 5 [.ref q7, .ref q15, .ref q23, .ref q31, .null, iV 0]), (q7, aI cI 26 (fun _ => 0)), (q15, aI cI 26 (fun _ => 0)), (q23, aI cI 26 (fun _ => 0)), (q31, aI cI 26 (fun _ => 0))]) (pc := 33) hG ff6_21 0 rfl rfl rfl (Nat.le_of_ble_eq_true rfl) rfl dX6_init_33 ?_
  refine ct_aload_n (pc := 36) hG 0 rfl dX6_init_36 ?_
  refine ct_bipush (pc := 37) hG dX6_init_37 (by decide) ?_
  refine ct_newI (N := 26) (pc := 39) hG rfl (by decide) wi_106 (by decide) (by decide) dX6_init_39 (fun q39 => ?_)
  refine ct_ws hG (ws' := [(h, ob 5 [.ref q7, .ref q15, .ref q23, .ref q31, .null, iV 0]), (q7, aI cI 26 (fun _ => 0)), (q15, aI cI 26 (fun _ => 0)), (q23, aI cI 26 (fun _ => 0)), (q31, aI cI 26 (fun _ => 0)), (q39, aI cI 26 (fun _ => 0))]) rfl ?_
  refine ct_kn hG (k' := 5) (n' := 130) rfl rfl ?_
  refine ct_putF (ws' := [(h, ob 5 [.ref q7, .ref q15, .ref q23, .ref q31, .ref q39, iV 0]), (q7, aI cI 26 (fun _ => 0)), (q15, aI cI 26 (fun _ => 0)), (q23, aI cI 26 (fun _ => 0)), (q31, aI cI 26 (fun _ => 0)), (q39, aI cI 26 (fun _ => 0))]) (pc := 41) hG ff6_24 0 rfl rfl rfl (Nat.le_of_ble_eq_true rfl) rfl dX6_init_41 ?_
  exact ct_ret (pc := 44) hG (by decide) (by decide) [0, 1, 2, 3, 4, 5] rfl rfl (by decide) ⟨q7, q15, q23, q31, q39, rfl⟩ dX6_init_44
set_option maxHeartbeats 4000000 in
set_option maxRecDepth 100000 in
theorem ctX7 (l : Launch) (D : va_G) (cI cL cZ cX cG : ClassId) (h : Nat) : CtI l D (gT cI cL cZ cX cG) yX7_init cX7_init 1 { frames := 1, cells := 2, slots := 108, locals := 12 } [.ref h] [(h, ob 6 [.null, .null, iV 0])] (fun w1 => ∃ q7 q15 : Nat, w1 = [(h, ob 6 [.ref q7, .ref q15, iV 0]), (q7, aL cL 54 (fun _ => 0)), (q15, aL cL 54 (fun _ => 0))]) 2 108 := by
  refine CtI.of (by decide) rfl (Nat.le_of_ble_eq_true rfl) (fun G hG => ?_)
  show G 0 [(0, .ref h)] [] [(h, ob 6 [.null, .null, iV 0])] 0 0
  refine ct_aload_n (pc := 0) hG 0 rfl dX7_init_0 ?_
  refine ct_object (pc := 1) hG wi_282 wi_70 wi_71 dX7_init_1 (by decide) (by decide) ?_
  refine ct_aload_n (pc := 4) hG 0 rfl dX7_init_4 ?_
  refine ct_bipush (pc := 5) hG dX7_init_5 (by decide) ?_
  refine ct_newL (N := 54) (pc := 7) hG rfl (by decide) wi_191 (by decide) (by decide) dX7_init_7 (fun q7 => ?_)
  refine ct_ws hG (ws' := [(h, ob 6 [.null, .null, iV 0]), (q7, aL cL 54 (fun _ => 0))]) rfl ?_
  refine ct_kn hG (k' := 1) (n' := 54) rfl rfl ?_
  refine ct_putF (ws' := [(h, ob 6 [.ref q7, .null, iV 0]), (q7, aL cL 54 (fun _ => 0))]) (pc := 9) hG ff7_9 0 rfl rfl rfl (Nat.le_of_ble_eq_true rfl) rfl dX7_init_9 ?_
  refine ct_aload_n (pc := 12) hG 0 rfl dX7_init_12 ?_
  refine ct_bipush (pc := 13) hG dX7_init_13 (by decide) ?_
  refine ct_newL (N := 54) (pc := 15) hG rfl (by decide) wi_191 (by decide) (by decide) dX7_init_15 (fun q15 => ?_)
  refine ct_ws hG (ws' := [(h, ob 6 [.ref q7, .null, iV 0]), (q7, aL cL 54 (fun _ => 0)), (q15, aL cL 54 (fun _ => 0))]) rfl ?_
  refine ct_kn hG (k' := 2) (n' := 108) rfl rfl ?_
  refine ct_putF (ws' := [(h, ob 6 [.ref q7, .ref q15, iV 0]), (q7, aL cL 54 (fun _ => 0)), (q15, aL cL 54 (fun _ => 0))]) (pc := 17) hG ff7_13 0 rfl rfl rfl (Nat.le_of_ble_eq_true rfl) rfl dX7_init_17 ?_
  exact ct_ret (pc := 20) hG (by decide) (by decide) [0, 1, 2] rfl rfl (by decide) ⟨q7, q15, rfl⟩ dX7_init_20
set_option maxHeartbeats 4000000 in
set_option maxRecDepth 100000 in
theorem ctX8 (l : Launch) (D : va_G) (cI cL cZ cX cG : ClassId) (h : Nat) : CtI l D (gT cI cL cZ cX cG) yX8_init cX8_init 1 { frames := 1, cells := 4, slots := 19, locals := 12 } [.ref h] [(h, ob 7 [.null, .null, .null, .null, lV 0, iV 0])] (fun w1 => ∃ q7 q14 q21 q28 : Nat, w1 = [(h, ob 7 [.ref q7, .ref q14, .ref q21, .ref q28, lV 0, iV 0]), (q7, aL cL 9 (fun _ => 0)), (q14, aL cL 3 (fun _ => 0)), (q21, aL cL 3 (fun _ => 0)), (q28, aL cL 4 (fun _ => 0))]) 4 19 := by
  refine CtI.of (by decide) rfl (Nat.le_of_ble_eq_true rfl) (fun G hG => ?_)
  show G 0 [(0, .ref h)] [] [(h, ob 7 [.null, .null, .null, .null, lV 0, iV 0])] 0 0
  refine ct_aload_n (pc := 0) hG 0 rfl dX8_init_0 ?_
  refine ct_object (pc := 1) hG wi_166 wi_70 wi_71 dX8_init_1 (by decide) (by decide) ?_
  refine ct_aload_n (pc := 4) hG 0 rfl dX8_init_4 ?_
  refine ct_bipush (pc := 5) hG dX8_init_5 (by decide) ?_
  refine ct_newL (N := 9) (pc := 7) hG rfl (by decide) wi_191 (by decide) (by decide) dX8_init_7 (fun q7 => ?_)
  refine ct_ws hG (ws' := [(h, ob 7 [.null, .null, .null, .null, lV 0, iV 0]), (q7, aL cL 9 (fun _ => 0))]) rfl ?_
  refine ct_kn hG (k' := 1) (n' := 9) rfl rfl ?_
  refine ct_putF (ws' := [(h, ob 7 [.ref q7, .null, .null, .null, lV 0, iV 0]), (q7, aL cL 9 (fun _ => 0))]) (pc := 9) hG ff8_9 0 rfl rfl rfl (Nat.le_of_ble_eq_true rfl) rfl dX8_init_9 ?_
  refine ct_aload_n (pc := 12) hG 0 rfl dX8_init_12 ?_
  refine ct_iconst (pc := 13) hG dX8_init_13 ?_
  refine ct_newL (N := 3) (pc := 14) hG rfl (by decide) wi_191 (by decide) (by decide) dX8_init_14 (fun q14 => ?_)
  refine ct_ws hG (ws' := [(h, ob 7 [.ref q7, .null, .null, .null, lV 0, iV 0]), (q7, aL cL 9 (fun _ => 0)), (q14, aL cL 3 (fun _ => 0))]) rfl ?_
  refine ct_kn hG (k' := 2) (n' := 12) rfl rfl ?_
  refine ct_putF (ws' := [(h, ob 7 [.ref q7, .ref q14, .null, .null, lV 0, iV 0]), (q7, aL cL 9 (fun _ => 0)), (q14, aL cL 3 (fun _ => 0))]) (pc := 16) hG ff8_15 0 rfl rfl rfl (Nat.le_of_ble_eq_true rfl) rfl dX8_init_16 ?_
  refine ct_aload_n (pc := 19) hG 0 rfl dX8_init_19 ?_
  refine ct_iconst (pc := 20) hG dX8_init_20 ?_
  refine ct_newL (N := 3) (pc := 21) hG rfl (by decide) wi_191 (by decide) (by decide) dX8_init_21 (fun q21 => ?_)
  refine ct_ws hG (ws' := [(h, ob 7 [.ref q7, .ref q14, .null, .null, lV 0, iV 0]), (q7, aL cL 9 (fun _ => 0)), (q14, aL cL 3 (fun _ => 0)), (q21, aL cL 3 (fun _ => 0))]) rfl ?_
  refine ct_kn hG (k' := 3) (n' := 15) rfl rfl ?_
  refine ct_putF (ws' := [(h, ob 7 [.ref q7, .ref q14, .ref q21, .null, lV 0, iV 0]), (q7, aL cL 9 (fun _ => 0)), (q14, aL cL 3 (fun _ => 0)), (q21, aL cL 3 (fun _ => 0))]) (pc := 23) hG ff8_18 0 rfl rfl rfl (Nat.le_of_ble_eq_true rfl) rfl dX8_init_23 ?_
  refine ct_aload_n (pc := 26) hG 0 rfl dX8_init_26 ?_
  refine ct_iconst (pc := 27) hG dX8_init_27 ?_
  refine ct_newL (N := 4) (pc := 28) hG rfl (by decide) wi_191 (by decide) (by decide) dX8_init_28 (fun q28 => ?_)
  refine ct_ws hG (ws' := [(h, ob 7 [.ref q7, .ref q14, .ref q21, .null, lV 0, iV 0]), (q7, aL cL 9 (fun _ => 0)), (q14, aL cL 3 (fun _ => 0)), (q21, aL cL 3 (fun _ => 0)), (q28, aL cL 4 (fun _ => 0))]) rfl ?_
  refine ct_kn hG (k' := 4) (n' := 19) rfl rfl ?_
  refine ct_putF (ws' := [(h, ob 7 [.ref q7, .ref q14, .ref q21, .ref q28, lV 0, iV 0]), (q7, aL cL 9 (fun _ => 0)), (q14, aL cL 3 (fun _ => 0)), (q21, aL cL 3 (fun _ => 0)), (q28, aL cL 4 (fun _ => 0))]) (pc := 30) hG ff8_21 0 rfl rfl rfl (Nat.le_of_ble_eq_true rfl) rfl dX8_init_30 ?_
  exact ct_ret (pc := 33) hG (by decide) (by decide) [0, 1, 2, 3, 4] rfl rfl (by decide) ⟨q7, q14, q21, q28, rfl⟩ dX8_init_33
set_option maxHeartbeats 4000000 in
set_option maxRecDepth 100000 in
theorem ctX9 (l : Launch) (D : va_G) (cI cL cZ cX cG : ClassId) (h : Nat) : CtI l D (gT cI cL cZ cX cG) yX9_init cX9_init 1 { frames := 1, cells := 3, slots := 120, locals := 12 } [.ref h] [(h, ob 8 [.null, .null, .null, iV 0, iV 0, iV 0])] (fun w1 => ∃ q7 q15 q23 : Nat, w1 = [(h, ob 8 [.ref q7, .ref q15, .ref q23, iV (1), iV 0, iV 0]), (q7, aI cI 72 (fun _ => 0)), (q15, aI cI 24 (fun _ => 0)), (q23, aZ cZ 24 (fun _ => false))]) 3 120 := by
  refine CtI.of (by decide) rfl (Nat.le_of_ble_eq_true rfl) (fun G hG => ?_)
  show G 0 [(0, .ref h)] [] [(h, ob 8 [.null, .null, .null, iV 0, iV 0, iV 0])] 0 0
  refine ct_aload_n (pc := 0) hG 0 rfl dX9_init_0 ?_
  refine ct_object (pc := 1) hG wi_77 wi_70 wi_71 dX9_init_1 (by decide) (by decide) ?_
  refine ct_aload_n (pc := 4) hG 0 rfl dX9_init_4 ?_
  refine ct_bipush (pc := 5) hG dX9_init_5 (by decide) ?_
  refine ct_newI (N := 72) (pc := 7) hG rfl (by decide) wi_106 (by decide) (by decide) dX9_init_7 (fun q7 => ?_)
  refine ct_ws hG (ws' := [(h, ob 8 [.null, .null, .null, iV 0, iV 0, iV 0]), (q7, aI cI 72 (fun _ => 0))]) rfl ?_
  refine ct_kn hG (k' := 1) (n' := 72) rfl rfl ?_
  refine ct_putF (ws' := [(h, ob 8 [.ref q7, .null, .null, iV 0, iV 0, iV 0]), (q7, aI cI 72 (fun _ => 0))]) (pc := 9) hG ff9_9 0 rfl rfl rfl (Nat.le_of_ble_eq_true rfl) rfl dX9_init_9 ?_
  refine ct_aload_n (pc := 12) hG 0 rfl dX9_init_12 ?_
  refine ct_bipush (pc := 13) hG dX9_init_13 (by decide) ?_
  refine ct_newI (N := 24) (pc := 15) hG rfl (by decide) wi_106 (by decide) (by decide) dX9_init_15 (fun q15 => ?_)
  refine ct_ws hG (ws' := [(h, ob 8 [.ref q7, .null, .null, iV 0, iV 0, iV 0]), (q7, aI cI 72 (fun _ => 0)), (q15, aI cI 24 (fun _ => 0))]) rfl ?_
  refine ct_kn hG (k' := 2) (n' := 96) rfl rfl ?_
  refine ct_putF (ws' := [(h, ob 8 [.ref q7, .ref q15, .null, iV 0, iV 0, iV 0]), (q7, aI cI 72 (fun _ => 0)), (q15, aI cI 24 (fun _ => 0))]) (pc := 17) hG ff9_15 0 rfl rfl rfl (Nat.le_of_ble_eq_true rfl) rfl dX9_init_17 ?_
  refine ct_aload_n (pc := 20) hG 0 rfl dX9_init_20 ?_
  refine ct_bipush (pc := 21) hG dX9_init_21 (by decide) ?_
  refine ct_newZ (N := 24) (pc := 23) hG rfl (by decide) wi_107 (by decide) (by decide) dX9_init_23 (fun q23 => ?_)
  refine ct_ws hG (ws' := [(h, ob 8 [.ref q7, .ref q15, .null, iV 0, iV 0, iV 0]), (q7, aI cI 72 (fun _ => 0)), (q15, aI cI 24 (fun _ => 0)), (q23, aZ cZ 24 (fun _ => false))]) rfl ?_
  refine ct_kn hG (k' := 3) (n' := 120) rfl rfl ?_
  refine ct_putF (ws' := [(h, ob 8 [.ref q7, .ref q15, .ref q23, iV 0, iV 0, iV 0]), (q7, aI cI 72 (fun _ => 0)), (q15, aI cI 24 (fun _ => 0)), (q23, aZ cZ 24 (fun _ => false))]) (pc := 25) hG ff9_18 0 rfl rfl rfl (Nat.le_of_ble_eq_true rfl) rfl dX9_init_25 ?_
  refine ct_aload_n (pc := 28) hG 0 rfl dX9_init_28 ?_
  refine ct_iconst (pc := 29) hG dX9_init_29 ?_
  refine ct_put (ws' := [(h, ob 8 [.ref q7, .ref q15, .ref q23, iV (1), iV 0, iV 0]), (q7, aI cI 72 (fun _ => 0)), (q15, aI cI 24 (fun _ => 0)), (q23, aZ cZ 24 (fun _ => false))]) (pc := 30) hG fp9_22 0 rfl rfl rfl (Nat.le_of_ble_eq_true rfl) rfl dX9_init_30 ?_
  exact ct_ret (pc := 33) hG (by decide) (by decide) [0, 1, 2, 3] rfl rfl (by decide) ⟨q7, q15, q23, rfl⟩ dX9_init_33
set_option maxHeartbeats 4000000 in
set_option maxRecDepth 100000 in
theorem ctX0 (l : Launch) (D : va_G) (cI cL cZ cX cG : ClassId) (h : Nat) : CtI l D (gT cI cL cZ cX cG) yX0_init cX0_init 1 { frames := 2, cells := 12, slots := 55, locals := 32 } [.ref h] [(h, ob 0 [.null, .null, .null, .null, .null, .null, .null, .null, iV 0])] (fun w1 => ∃ q5 q7_9 q14_9 q21_9 q28_9 q17 q24 q31 q38 q46 q54 q62 : Nat, w1 = [(h, ob 0 [.ref q5, .ref q17, .ref q24, .ref q31, .ref q38, .ref q46, .ref q54, .ref q62, iV 0]), (q5, ob 7 [.ref q7_9, .ref q14_9, .ref q21_9, .ref q28_9, lV 0, iV 0]), (q7_9, aL cL 9 (fun _ => 0)), (q14_9, aL cL 3 (fun _ => 0)), (q21_9, aL cL 3 (fun _ => 0)), (q28_9, aL cL 4 (fun _ => 0)), (q17, aL cL 3 (fun _ => 0)), (q24, aL cL 3 (fun _ => 0)), (q31, aL cL 3 (fun _ => 0)), (q38, aL cL 3 (fun _ => 0)), (q46, aL cL 6 (fun _ => 0)), (q54, aL cL 6 (fun _ => 0)), (q62, aZ cZ 6 (fun _ => false))]) 12 55 := by
  refine CtI.of (by decide) rfl (Nat.le_of_ble_eq_true rfl) (fun G hG => ?_)
  show G 0 [(0, .ref h)] [] [(h, ob 0 [.null, .null, .null, .null, .null, .null, .null, .null, iV 0])] 0 0
  refine ct_aload_n (pc := 0) hG 0 rfl dX0_init_0 ?_
  refine ct_object (pc := 1) hG wi_246 wi_70 wi_71 dX0_init_1 (by decide) (by decide) ?_
  refine ct_aload_n (pc := 4) hG 0 rfl dX0_init_4 ?_
  refine ct_new (C := RX8) (T := TX8) (N := 6) (ci := 7) (ty := tyX8) (fs := [.null, .null, .null, .null, lV 0, iV 0]) (pc := 5) hG rfl wl_8 tyX8_ok wi_247 wi_162 wi_53 (fun j hj => match j, hj with | 0, _ => rfl | 1, _ => rfl | 2, _ => rfl | 3, _ => rfl | 4, _ => rfl | 5, _ => rfl | j + 6, h => absurd h (by omega)) (by decide) (by decide) dX0_init_5 (fun q5 => ?_)
  refine ct_ws hG (ws' := [(h, ob 0 [.null, .null, .null, .null, .null, .null, .null, .null, iV 0]), (q5, ob 7 [.null, .null, .null, .null, lV 0, iV 0])]) rfl ?_
  refine ct_kn hG (k' := 1) (n' := 6) rfl rfl ?_
  refine ct_dup (pc := 8) hG dX0_init_8 ?_
  refine ct_initN (pc := 9) hG [(h, ob 0 [.null, .null, .null, .null, .null, .null, .null, .null, iV 0])] (ctX8 l D cI cL cZ cX cG q5) rfl (List.mem_of_getElem? (i := 7) rfl) ci_8 ⟨rfl, rfl⟩ (by decide) (by decide) (Nat.le_of_ble_eq_true rfl) dX0_init_9 (fun w1 h9 => ?_)
  obtain ⟨q7_9, q14_9, q21_9, q28_9, rfl⟩ := h9
  refine ct_ws hG (ws' := [(h, ob 0 [.null, .null, .null, .null, .null, .null, .null, .null, iV 0]), (q5, ob 7 [.ref q7_9, .ref q14_9, .ref q21_9, .ref q28_9, lV 0, iV 0]), (q7_9, aL cL 9 (fun _ => 0)), (q14_9, aL cL 3 (fun _ => 0)), (q21_9, aL cL 3 (fun _ => 0)), (q28_9, aL cL 4 (fun _ => 0))]) rfl ?_
  refine ct_kn hG (k' := 5) (n' := 25) rfl rfl ?_
  refine ct_putF (ws' := [(h, ob 0 [.ref q5, .null, .null, .null, .null, .null, .null, .null, iV 0]), (q5, ob 7 [.ref q7_9, .ref q14_9, .ref q21_9, .ref q28_9, lV 0, iV 0]), (q7_9, aL cL 9 (fun _ => 0)), (q14_9, aL cL 3 (fun _ => 0)), (q21_9, aL cL 3 (fun _ => 0)), (q28_9, aL cL 4 (fun _ => 0))]) (pc := 12) hG ff0_12 0 rfl rfl rfl (Nat.le_of_ble_eq_true rfl) rfl dX0_init_12 ?_
  refine ct_aload_n (pc := 15) hG 0 rfl dX0_init_15 ?_
  refine ct_iconst (pc := 16) hG dX0_init_16 ?_
  refine ct_newL (N := 3) (pc := 17) hG rfl (by decide) wi_191 (by decide) (by decide) dX0_init_17 (fun q17 => ?_)
  refine ct_ws hG (ws' := [(h, ob 0 [.ref q5, .null, .null, .null, .null, .null, .null, .null, iV 0]), (q5, ob 7 [.ref q7_9, .ref q14_9, .ref q21_9, .ref q28_9, lV 0, iV 0]), (q7_9, aL cL 9 (fun _ => 0)), (q14_9, aL cL 3 (fun _ => 0)), (q21_9, aL cL 3 (fun _ => 0)), (q28_9, aL cL 4 (fun _ => 0)), (q17, aL cL 3 (fun _ => 0))]) rfl ?_
  refine ct_kn hG (k' := 6) (n' := 28) rfl rfl ?_
  refine ct_putF (ws' := [(h, ob 0 [.ref q5, .ref q17, .null, .null, .null, .null, .null, .null, iV 0]), (q5, ob 7 [.ref q7_9, .ref q14_9, .ref q21_9, .ref q28_9, lV 0, iV 0]), (q7_9, aL cL 9 (fun _ => 0)), (q14_9, aL cL 3 (fun _ => 0)), (q21_9, aL cL 3 (fun _ => 0)), (q28_9, aL cL 4 (fun _ => 0)), (q17, aL cL 3 (fun _ => 0))]) (pc := 19) hG ff0_18 0 rfl rfl rfl (Nat.le_of_ble_eq_true rfl) rfl dX0_init_19 ?_
  refine ct_aload_n (pc := 22) hG 0 rfl dX0_init_22 ?_
  refine ct_iconst (pc := 23) hG dX0_init_23 ?_
  refine ct_newL (N := 3) (pc := 24) hG rfl (by decide) wi_191 (by decide) (by decide) dX0_init_24 (fun q24 => ?_)
  refine ct_ws hG (ws' := [(h, ob 0 [.ref q5, .ref q17, .null, .null, .null, .null, .null, .null, iV 0]), (q5, ob 7 [.ref q7_9, .ref q14_9, .ref q21_9, .ref q28_9, lV 0, iV 0]), (q7_9, aL cL 9 (fun _ => 0)), (q14_9, aL cL 3 (fun _ => 0)), (q21_9, aL cL 3 (fun _ => 0)), (q28_9, aL cL 4 (fun _ => 0)), (q17, aL cL 3 (fun _ => 0)), (q24, aL cL 3 (fun _ => 0))]) rfl ?_
  refine ct_kn hG (k' := 7) (n' := 31) rfl rfl ?_
  refine ct_putF (ws' := [(h, ob 0 [.ref q5, .ref q17, .ref q24, .null, .null, .null, .null, .null, iV 0]), (q5, ob 7 [.ref q7_9, .ref q14_9, .ref q21_9, .ref q28_9, lV 0, iV 0]), (q7_9, aL cL 9 (fun _ => 0)), (q14_9, aL cL 3 (fun _ => 0)), (q21_9, aL cL 3 (fun _ => 0)), (q28_9, aL cL 4 (fun _ => 0)), (q17, aL cL 3 (fun _ => 0)), (q24, aL cL 3 (fun _ => 0))]) (pc := 26) hG ff0_22 0 rfl rfl rfl (Nat.le_of_ble_eq_true rfl) rfl dX0_init_26 ?_
  refine ct_aload_n (pc := 29) hG 0 rfl dX0_init_29 ?_
  refine ct_iconst (pc := 30) hG dX0_init_30 ?_
  refine ct_newL (N := 3) (pc := 31) hG rfl (by decide) wi_191 (by decide) (by decide) dX0_init_31 (fun q31 => ?_)
  refine ct_ws hG (ws' := [(h, ob 0 [.ref q5, .ref q17, .ref q24, .null, .null, .null, .null, .null, iV 0]), (q5, ob 7 [.ref q7_9, .ref q14_9, .ref q21_9, .ref q28_9, lV 0, iV 0]), (q7_9, aL cL 9 (fun _ => 0)), (q14_9, aL cL 3 (fun _ => 0)), (q21_9, aL cL 3 (fun _ => 0)), (q28_9, aL cL 4 (fun _ => 0)), (q17, aL cL 3 (fun _ => 0)), (q24, aL cL 3 (fun _ => 0)), (q31, aL cL 3 (fun _ => 0))]) rfl ?_
  refine ct_kn hG (k' := 8) (n' := 34) rfl rfl ?_
  refine ct_putF (ws' := [(h, ob 0 [.ref q5, .ref q17, .ref q24, .ref q31, .null, .null, .null, .null, iV 0]), (q5, ob 7 [.ref q7_9, .ref q14_9, .ref q21_9, .ref q28_9, lV 0, iV 0]), (q7_9, aL cL 9 (fun _ => 0)), (q14_9, aL cL 3 (fun _ => 0)), (q21_9, aL cL 3 (fun _ => 0)), (q28_9, aL cL 4 (fun _ => 0)), (q17, aL cL 3 (fun _ => 0)), (q24, aL cL 3 (fun _ => 0)), (q31, aL cL 3 (fun _ => 0))]) (pc := 33) hG ff0_25 0 rfl rfl rfl (Nat.le_of_ble_eq_true rfl) rfl dX0_init_33 ?_
  refine ct_aload_n (pc := 36) hG 0 rfl dX0_init_36 ?_
  refine ct_iconst (pc := 37) hG dX0_init_37 ?_
  refine ct_newL (N := 3) (pc := 38) hG rfl (by decide) wi_191 (by decide) (by decide) dX0_init_38 (fun q38 => ?_)
  refine ct_ws hG (ws' := [(h, ob 0 [.ref q5, .ref q17, .ref q24, .ref q31, .null, .null, .null, .null, iV 0]), (q5, ob 7 [.ref q7_9, .ref q14_9, .ref q21_9, .ref q28_9, lV 0, iV 0]), (q7_9, aL cL 9 (fun _ => 0)), (q14_9, aL cL 3 (fun _ => 0)), (q21_9, aL cL 3 (fun _ => 0)), (q28_9, aL cL 4 (fun _ => 0)), (q17, aL cL 3 (fun _ => 0)), (q24, aL cL 3 (fun _ => 0)), (q31, aL cL 3 (fun _ => 0)), (q38, aL cL 3 (fun _ => 0))]) rfl ?_
  refine ct_kn hG (k' := 9) (n' := 37) rfl rfl ?_
  refine ct_putF (ws' := [(h, ob 0 [.ref q5, .ref q17, .ref q24, .ref q31, .ref q38, .null, .null, .null, iV 0]), (q5, ob 7 [.ref q7_9, .ref q14_9, .ref q21_9, .ref q28_9, lV 0, iV 0]), (q7_9, aL cL 9 (fun _ => 0)), (q14_9, aL cL 3 (fun _ => 0)), (q21_9, aL cL 3 (fun _ => 0)), (q28_9, aL cL 4 (fun _ => 0)), (q17, aL cL 3 (fun _ => 0)), (q24, aL cL 3 (fun _ => 0)), (q31, aL cL 3 (fun _ => 0)), (q38, aL cL 3 (fun _ => 0))]) (pc := 40) hG ff0_28 0 rfl rfl rfl (Nat.le_of_ble_eq_true rfl) rfl dX0_init_40 ?_
  refine ct_aload_n (pc := 43) hG 0 rfl dX0_init_43 ?_
  refine ct_bipush (pc := 44) hG dX0_init_44 (by decide) ?_
  refine ct_newL (N := 6) (pc := 46) hG rfl (by decide) wi_191 (by decide) (by decide) dX0_init_46 (fun q46 => ?_)
  refine ct_ws hG (ws' := [(h, ob 0 [.ref q5, .ref q17, .ref q24, .ref q31, .ref q38, .null, .null, .null, iV 0]), (q5, ob 7 [.ref q7_9, .ref q14_9, .ref q21_9, .ref q28_9, lV 0, iV 0]), (q7_9, aL cL 9 (fun _ => 0)), (q14_9, aL cL 3 (fun _ => 0)), (q21_9, aL cL 3 (fun _ => 0)), (q28_9, aL cL 4 (fun _ => 0)), (q17, aL cL 3 (fun _ => 0)), (q24, aL cL 3 (fun _ => 0)), (q31, aL cL 3 (fun _ => 0)), (q38, aL cL 3 (fun _ => 0)), (q46, aL cL 6 (fun _ => 0))]) rfl ?_
  refine ct_kn hG (k' := 10) (n' := 43) rfl rfl ?_
  refine ct_putF (ws' := [(h, ob 0 [.ref q5, .ref q17, .ref q24, .ref q31, .ref q38, .ref q46, .null, .null, iV 0]), (q5, ob 7 [.ref q7_9, .ref q14_9, .ref q21_9, .ref q28_9, lV 0, iV 0]), (q7_9, aL cL 9 (fun _ => 0)), (q14_9, aL cL 3 (fun _ => 0)), (q21_9, aL cL 3 (fun _ => 0)), (q28_9, aL cL 4 (fun _ => 0)), (q17, aL cL 3 (fun _ => 0)), (q24, aL cL 3 (fun _ => 0)), (q31, aL cL 3 (fun _ => 0)), (q38, aL cL 3 (fun _ => 0)), (q46, aL cL 6 (fun _ => 0))]) (pc := 48) hG ff0_31 0 rfl rfl rfl (Nat.le_of_ble_eq_true rfl) rfl dX0_init_48 ?_
  refine ct_aload_n (pc := 51) hG 0 rfl dX0_init_51 ?_
  refine ct_bipush (pc := 52) hG dX0_init_52 (by decide) ?_
  refine ct_newL (N := 6) (pc := 54) hG rfl (by decide) wi_191 (by decide) (by decide) dX0_init_54 (fun q54 => ?_)
  refine ct_ws hG (ws' := [(h, ob 0 [.ref q5, .ref q17, .ref q24, .ref q31, .ref q38, .ref q46, .null, .null, iV 0]), (q5, ob 7 [.ref q7_9, .ref q14_9, .ref q21_9, .ref q28_9, lV 0, iV 0]), (q7_9, aL cL 9 (fun _ => 0)), (q14_9, aL cL 3 (fun _ => 0)), (q21_9, aL cL 3 (fun _ => 0)), (q28_9, aL cL 4 (fun _ => 0)), (q17, aL cL 3 (fun _ => 0)), (q24, aL cL 3 (fun _ => 0)), (q31, aL cL 3 (fun _ => 0)), (q38, aL cL 3 (fun _ => 0)), (q46, aL cL 6 (fun _ => 0)), (q54, aL cL 6 (fun _ => 0))]) rfl ?_
  refine ct_kn hG (k' := 11) (n' := 49) rfl rfl ?_
  refine ct_putF (ws' := [(h, ob 0 [.ref q5, .ref q17, .ref q24, .ref q31, .ref q38, .ref q46, .ref q54, .null, iV 0]), (q5, ob 7 [.ref q7_9, .ref q14_9, .ref q21_9, .ref q28_9, lV 0, iV 0]), (q7_9, aL cL 9 (fun _ => 0)), (q14_9, aL cL 3 (fun _ => 0)), (q21_9, aL cL 3 (fun _ => 0)), (q28_9, aL cL 4 (fun _ => 0)), (q17, aL cL 3 (fun _ => 0)), (q24, aL cL 3 (fun _ => 0)), (q31, aL cL 3 (fun _ => 0)), (q38, aL cL 3 (fun _ => 0)), (q46, aL cL 6 (fun _ => 0)), (q54, aL cL 6 (fun _ => 0))]) (pc := 56) hG ff0_34 0 rfl rfl rfl (Nat.le_of_ble_eq_true rfl) rfl dX0_init_56 ?_
  refine ct_aload_n (pc := 59) hG 0 rfl dX0_init_59 ?_
  refine ct_bipush (pc := 60) hG dX0_init_60 (by decide) ?_
  refine ct_newZ (N := 6) (pc := 62) hG rfl (by decide) wi_107 (by decide) (by decide) dX0_init_62 (fun q62 => ?_)
  refine ct_ws hG (ws' := [(h, ob 0 [.ref q5, .ref q17, .ref q24, .ref q31, .ref q38, .ref q46, .ref q54, .null, iV 0]), (q5, ob 7 [.ref q7_9, .ref q14_9, .ref q21_9, .ref q28_9, lV 0, iV 0]), (q7_9, aL cL 9 (fun _ => 0)), (q14_9, aL cL 3 (fun _ => 0)), (q21_9, aL cL 3 (fun _ => 0)), (q28_9, aL cL 4 (fun _ => 0)), (q17, aL cL 3 (fun _ => 0)), (q24, aL cL 3 (fun _ => 0)), (q31, aL cL 3 (fun _ => 0)), (q38, aL cL 3 (fun _ => 0)), (q46, aL cL 6 (fun _ => 0)), (q54, aL cL 6 (fun _ => 0)), (q62, aZ cZ 6 (fun _ => false))]) rfl ?_
  refine ct_kn hG (k' := 12) (n' := 55) rfl rfl ?_
  refine ct_putF (ws' := [(h, ob 0 [.ref q5, .ref q17, .ref q24, .ref q31, .ref q38, .ref q46, .ref q54, .ref q62, iV 0]), (q5, ob 7 [.ref q7_9, .ref q14_9, .ref q21_9, .ref q28_9, lV 0, iV 0]), (q7_9, aL cL 9 (fun _ => 0)), (q14_9, aL cL 3 (fun _ => 0)), (q21_9, aL cL 3 (fun _ => 0)), (q28_9, aL cL 4 (fun _ => 0)), (q17, aL cL 3 (fun _ => 0)), (q24, aL cL 3 (fun _ => 0)), (q31, aL cL 3 (fun _ => 0)), (q38, aL cL 3 (fun _ => 0)), (q46, aL cL 6 (fun _ => 0)), (q54, aL cL 6 (fun _ => 0)), (q62, aZ cZ 6 (fun _ => false))]) (pc := 64) hG ff0_37 0 rfl rfl rfl (Nat.le_of_ble_eq_true rfl) rfl dX0_init_64 ?_
  exact ct_ret (pc := 67) hG (by decide) (by decide) [0, 1, 2, 3, 4, 5, 6, 7, 8, 9, 10, 11, 12] rfl rfl (by decide) ⟨q5, q7_9, q14_9, q21_9, q28_9, q17, q24, q31, q38, q46, q54, q62, rfl⟩ dX0_init_67
