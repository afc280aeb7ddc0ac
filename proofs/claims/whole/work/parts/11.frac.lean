set_option maxHeartbeats 4000000 in
set_option maxRecDepth 100000 in
theorem c_X2_common {l : Launch} {D : va_G} {cI cL cZ cX cG : ClassId} (a : Int) (b : Int) (ha : -9223372036854775807 ≤ a ∧ a ≤ 9223372036854775807) (hb : -9223372036854775807 ≤ b ∧ b ≤ 9223372036854775807) : Ct l D (gT cI cL cZ cX cG) yX2_common cX2_common 11 (some .long) ({ frames := 1, cells := 0, slots := 0, locals := 40 }) [lV (a), lV (b)] ([]) (fun v w => v = some (lV (((Int.gcd a b : Nat) : Int))) ∧ w = []) := by
  refine Ct.of (by decide) (Nat.le_of_ble_eq_true rfl) (fun G hG => ?_)
  show G 0 [(0, lV (a)), (2, lV (b))] [] ([])
  refine g_lload_n (pc := 0) hG 0 rfl dX2_common_0 ?_
  refine g_labs (pc := 1) hG ⟨(inB wd_478 rfl), (inB wd_479 rfl), (inB wd_61 rfl), (inB wd_480 rfl)⟩ ⟨Nat.le_of_ble_eq_true rfl, Nat.le_of_ble_eq_true rfl⟩ (by omega) dX2_common_1 ?_
  refine g_nmL (pc := 4) hG (fun x4 ex4 => ?_)
  refine g_lstore (pc := 4) hG (by decide) (lv' := [(4, lV (x4)), (0, lV (a)), (2, lV (b))]) rfl dX2_common_4 ?_
  refine g_lload_n (pc := 6) hG 2 rfl dX2_common_6 ?_
  refine g_labs (pc := 7) hG ⟨(inB wd_478 rfl), (inB wd_479 rfl), (inB wd_61 rfl), (inB wd_480 rfl)⟩ ⟨Nat.le_of_ble_eq_true rfl, Nat.le_of_ble_eq_true rfl⟩ (by omega) dX2_common_7 ?_
  refine g_nmL (pc := 10) hG (fun x10 ex10 => ?_)
  refine g_lstore (pc := 10) hG (by decide) (lv' := [(6, lV (x10)), (4, lV (x4)), (0, lV (a)), (2, lV (b))]) rfl dX2_common_10 ?_
  refine g_iconst (pc := 12) hG dX2_common_12 ?_
  refine g_istore (pc := 13) hG (by decide) (lv' := [(8, iV (0)), (6, lV (x10)), (4, lV (x4)), (0, lV (a)), (2, lV (b))]) rfl dX2_common_13 ?_
  have L15 : ∀ (n15 : Nat) (x : Int) (y : Int) (s : Nat), 128 - s < n15 → (EI a b x y s) → G 15 [(4, lV (x)), (6, lV (y)), (8, iV (((s : Nat) : Int)))] [] ([]) := by
    intro n15
    induction n15 with
    | zero => intro x y s hm; exact absurd hm (Nat.not_lt_zero _)
    | succ n15 ih15 =>
      intro x y s hm15 hi
      have hx := hi.x
      have hy := hi.y
      have hs := hi.s
      refine g_lload (pc := 15) hG 1 rfl dX2_common_15 ?_
      refine g_lconst (z := 0) (pc := 17) hG dX2_common_17 (by decide) ?_
      have J51 : ∀ (_ : Unit), (((y = 0)) ∨ ((¬ y = 0) ∧ (128 ≤ ((s : Nat) : Int)))) → G 51 [(4, lV (x)), (6, lV (y)), (8, iV (((s : Nat) : Int)))] [] ([]) := by
        intro _ k51
        refine g_lload (pc := 51) hG 0 rfl dX2_common_51 ?_
        exact g_lreturn (pc := 53) hG ⟨by rw [← EI.out hi (by omega)], rfl⟩ dX2_common_53
      refine g_lc_eq (pc := 18) hG (by omega) (by omega) (tgt := 51) (by decide) dX2_common_18 dX2_common_19 (fun h18 => ?_) (fun h18 => ?_)
      · exact g_lv (pc := 51) hG [0, 1, 2] rfl (J51 () (Or.inl (h18)))
      · refine g_iload (pc := 22) hG 2 rfl dX2_common_22 ?_
        refine g_sipush (pc := 24) hG dX2_common_24 (by decide) ?_
        refine g_icmp_ge (pc := 27) hG (by omega) (by omega) (tgt := 51) (by decide) dX2_common_27 (fun h27 => ?_) (fun h27 => ?_)
        · exact g_lv (pc := 51) hG [0, 1, 2] rfl (J51 () (Or.inr (⟨h18, h27⟩)))
        · refine g_lload (pc := 30) hG 0 rfl dX2_common_30 ?_
          refine g_lload (pc := 32) hG 1 rfl dX2_common_32 ?_
          refine g_lrem (pc := 34) hG (by omega) (by omega) (by omega) dX2_common_34 ?_
          refine g_nmL (pc := 35) hG (fun x35 ex35 => ?_)
          refine g_lstore (pc := 35) hG (by decide) (lv' := [(9, lV (x35)), (4, lV (x)), (6, lV (y)), (8, iV (((s : Nat) : Int)))]) rfl dX2_common_35 ?_
          refine g_lload (pc := 37) hG 2 rfl dX2_common_37 ?_
          refine g_lstore (pc := 39) hG (by decide) (lv' := [(4, lV (y)), (9, lV (x35)), (6, lV (y)), (8, iV (((s : Nat) : Int)))]) rfl dX2_common_39 ?_
          refine g_lload (pc := 41) hG 1 rfl dX2_common_41 ?_
          refine g_lstore (pc := 43) hG (by decide) (lv' := [(6, lV (x35)), (4, lV (y)), (9, lV (x35)), (8, iV (((s : Nat) : Int)))]) rfl dX2_common_43 ?_
          refine g_iinc (pc := 45) hG 3 rfl (by decide) (lv' := [(8, iV ((((s : Nat) : Int)) + 1)), (6, lV (x35)), (4, lV (y)), (9, lV (x35))]) rfl dX2_common_45 ?_
          refine g_goto (pc := 48) hG (tgt := 15) (by decide) dX2_common_48 ?_
          exact g_lv (pc := 15) hG [2, 1, 0] rfl (ih15 y x35 (s + 1) (by have := hi.s; omega) (by subst_vars; exact hi.step h18 (by omega)))
  exact g_lv (pc := 15) hG [2, 1, 0] rfl (L15 _ x4 x10 0 (Nat.lt_succ_self _) (by subst_vars; exact EI.init ha hb))

set_option maxHeartbeats 4000000 in
set_option maxRecDepth 100000 in
theorem c_X2_tell {l : Launch} {D : va_G} {cI cL cZ cX cG : ClassId} (t : Int) (b : Int) (wh : Int) (ht : -9223372036854775807 ≤ t ∧ t ≤ 9223372036854775807) (hb : -9223372036854775807 ≤ b ∧ b ≤ 9223372036854775807) (hw : InI wh) : Ct l D (gT cI cL cZ cX cG) yX2_tell cX2_tell 7 (some .long) ({ frames := 2, cells := 0, slots := 0, locals := 70 }) [lV (t), lV (b), iV (wh)] ([]) (fun v w => v = some (lV (tellZ t b wh)) ∧ w = []) := by
  refine Ct.of (by decide) (Nat.le_of_ble_eq_true rfl) (fun G hG => ?_)
  show G 0 [(0, lV (t)), (2, lV (b)), (4, iV (wh))] [] ([])
  refine g_lload_n (pc := 0) hG 1 rfl dX2_tell_0 ?_
  refine g_lconst (z := 0) (pc := 1) hG dX2_tell_1 (by decide) ?_
  have J17 : ∀ (_ : Unit), (((b = 0)) ∨ ((¬ b = 0) ∧ (wh < 0)) ∨ ((¬ b = 0) ∧ (¬ wh < 0) ∧ (¬ wh ≤ 1))) → G 17 [(0, lV (t)), (2, lV (b)), (4, iV (wh))] [] ([]) := by
    intro _ k17
    refine g_ldc2 (z := -1) (pc := 17) hG (v := -1) (inB wd_474 rfl) (by decide) dX2_tell_17 ?_
    exact g_lreturn (pc := 20) hG ⟨by unfold tellZ; rw [if_pos (by omega)], rfl⟩ dX2_tell_20
  refine g_lc_eq (pc := 2) hG (by omega) (by omega) (tgt := 17) (by decide) dX2_tell_2 dX2_tell_3 (fun h2 => ?_) (fun h2 => ?_)
  · exact g_lv (pc := 17) hG [0, 1, 2] rfl (J17 () (Or.inl (h2)))
  · refine g_iload (pc := 6) hG 2 rfl dX2_tell_6 ?_
    refine g_if_lt (pc := 8) hG (by omega) (tgt := 17) (by decide) dX2_tell_8 (fun h8 => ?_) (fun h8 => ?_)
    · exact g_lv (pc := 17) hG [0, 1, 2] rfl (J17 () (Or.inr (Or.inl ⟨h2, h8⟩)))
    · refine g_iload (pc := 11) hG 2 rfl dX2_tell_11 ?_
      refine g_iconst (pc := 13) hG dX2_tell_13 ?_
      refine g_icmp_le (pc := 14) hG (by omega) (by omega) (tgt := 21) (by decide) dX2_tell_14 (fun h14 => ?_) (fun h14 => ?_)
      · have hb0 : b ≠ 0 := by omega
        have hgp := gcd_pos_r (t := t) hb0
        have hgl := gcd_le_r (t := t) hb0
        refine g_lload_n (pc := 21) hG 0 rfl dX2_tell_21 ?_
        refine g_lload_n (pc := 22) hG 1 rfl dX2_tell_22 ?_
        refine g_callP (pc := 23) hG (As := [lV (t), lV (b)]) (rest := []) (c_X2_common (l := l) (D := D) (cI := cI) (cL := cL) (cZ := cZ) (cX := cX) (cG := cG) t b (by omega) (by omega)) cs2_19 ⟨rfl, rfl⟩ ⟨Nat.le_of_ble_eq_true rfl, Nat.le_of_ble_eq_true rfl⟩ rfl rfl (Nat.le_of_ble_eq_true rfl) dX2_tell_23 (fun v h => ?_)
        obtain ⟨rfl, -⟩ := h
        show G 26 [(0, lV (t)), (2, lV (b)), (4, iV (wh))] [lV (((Int.gcd t b : Nat) : Int))] ([])
        refine g_lstore (pc := 26) hG (by decide) (lv' := [(5, lV (((Int.gcd t b : Nat) : Int))), (0, lV (t)), (2, lV (b)), (4, iV (wh))]) rfl dX2_tell_26 ?_
        refine g_lload (pc := 28) hG 0 rfl dX2_tell_28 ?_
        refine g_lconst (z := 0) (pc := 30) hG dX2_tell_30 (by decide) ?_
        refine g_lc_ne (pc := 31) hG (by omega) (by omega) (tgt := 39) (by decide) dX2_tell_31 dX2_tell_32 (fun h31 => ?_) (fun h31 => ?_)
        · refine g_lload_n (pc := 39) hG 2 rfl dX2_tell_39 ?_
          refine g_lconst (z := 0) (pc := 40) hG dX2_tell_40 (by decide) ?_
          have J50 : ∀ (j50l5 : Int), (((0 ≤ b) ∧ j50l5 = ((Int.gcd t b : Nat) : Int)) ∨ ((¬ 0 ≤ b) ∧ j50l5 = -(((Int.gcd t b : Nat) : Int)))) → G 50 [(0, lV (t)), (2, lV (b)), (4, iV (wh)), (5, lV (j50l5))] [] ([]) := by
            intro j50l5 k50
            refine g_iload (pc := 50) hG 2 rfl dX2_tell_50 ?_
            have J66 : ∀ (j66s0 : Int), (((¬ wh = 0) ∧ j66s0 = b.tdiv j50l5) ∨ ((wh = 0) ∧ j66s0 = t.tdiv j50l5)) → G 66 [(0, lV (t)), (2, lV (b)), (4, iV (wh)), (5, lV (j50l5))] [lV (j66s0)] ([]) := by
              intro j66s0 k66
              exact g_lreturn (pc := 66) hG ⟨sL (tell_out (by omega) (by omega) (by omega) (by omega) k66.symm), rfl⟩ dX2_tell_66
            refine g_if_ne (pc := 52) hG (by omega) (tgt := 62) (by decide) dX2_tell_52 (fun h52 => ?_) (fun h52 => ?_)
            · refine g_lload_n (pc := 62) hG 1 rfl dX2_tell_62 ?_
              refine g_lload (pc := 63) hG 3 rfl dX2_tell_63 ?_
              refine g_ldiv (pc := 65) hG (by omega) (by omega) (by omega) (by omega) dX2_tell_65 ?_
              exact g_lv (pc := 66) hG [0, 1, 2, 3] rfl (J66 (b.tdiv j50l5) (Or.inl ⟨h52, rfl⟩))
            · refine g_lload_n (pc := 55) hG 0 rfl dX2_tell_55 ?_
              refine g_lload (pc := 56) hG 3 rfl dX2_tell_56 ?_
              refine g_ldiv (pc := 58) hG (by omega) (by omega) (by omega) (by omega) dX2_tell_58 ?_
              refine g_goto (pc := 59) hG (tgt := 66) (by decide) dX2_tell_59 ?_
              exact g_lv (pc := 66) hG [0, 1, 2, 3] rfl (J66 (t.tdiv j50l5) (Or.inr (⟨h52, rfl⟩)))
          refine g_lc_ge (pc := 41) hG (by omega) (by omega) (tgt := 50) (by decide) dX2_tell_41 dX2_tell_42 (fun h41 => ?_) (fun h41 => ?_)
          · exact g_lv (pc := 50) hG [1, 2, 3, 0] rfl (J50 (((Int.gcd t b : Nat) : Int)) (Or.inl ⟨h41, rfl⟩))
          · refine g_lload (pc := 45) hG 0 rfl dX2_tell_45 ?_
            refine g_lneg (pc := 47) hG dX2_tell_47 ?_
            refine g_lstore (pc := 48) hG (by decide) (lv' := [(5, lV (-(((Int.gcd t b : Nat) : Int)))), (0, lV (t)), (2, lV (b)), (4, iV (wh))]) rfl dX2_tell_48 ?_
            exact g_lv (pc := 50) hG [1, 2, 3, 0] rfl (J50 (-(((Int.gcd t b : Nat) : Int))) (Or.inr (⟨h41, rfl⟩)))
        · refine g_ldc2 (z := -1) (pc := 35) hG (v := -1) (inB wd_474 rfl) (by decide) dX2_tell_35 ?_
          exact g_lreturn (pc := 38) hG ⟨by exfalso; omega, rfl⟩ dX2_tell_38
      · exact g_lv (pc := 17) hG [0, 1, 2] rfl (J17 () (Or.inr (Or.inr (⟨h2, h8, h14⟩))))

set_option maxHeartbeats 4000000 in
set_option maxRecDepth 100000 in
theorem c_X2_order {l : Launch} {D : va_G} {cI cL cZ cX cG : ClassId} (a : Int) (b : Int) (c : Int) (d : Int) (ha : 0 ≤ a ∧ a ≤ 9223372036854775807) (hb : 0 < b ∧ b ≤ 9223372036854775807) (hc : 0 ≤ c ∧ c ≤ 9223372036854775807) (hd : 0 < d ∧ d ≤ 9223372036854775807) : Ct l D (gT cI cL cZ cX cG) yX2_order cX2_order 18 (some .int) ({ frames := 0, cells := 0, slots := 0, locals := 0 }) [lV (a), lV (b), lV (c), lV (d)] ([]) (fun v w => v = some (iV (sgnZ (a * d - c * b))) ∧ w = []) := by
  refine Ct.of (by decide) (Nat.le_of_ble_eq_true rfl) (fun G hG => ?_)
  show G 0 [(0, lV (a)), (2, lV (b)), (4, lV (c)), (6, lV (d))] [] ([])
  refine g_iconst (pc := 0) hG dX2_order_0 ?_
  refine g_istore (pc := 1) hG (by decide) (lv' := [(8, iV (1)), (0, lV (a)), (2, lV (b)), (4, lV (c)), (6, lV (d))]) rfl dX2_order_1 ?_
  refine g_iconst (pc := 3) hG dX2_order_3 ?_
  refine g_istore (pc := 4) hG (by decide) (lv' := [(9, iV (0)), (8, iV (1)), (0, lV (a)), (2, lV (b)), (4, lV (c)), (6, lV (d))]) rfl dX2_order_4 ?_
  have L6 : ∀ (n6 : Nat) (x : Int) (y : Int) (z : Int) (u : Int) (g : Int) (s : Nat), 128 - s < n6 → (OI a b c d x y z u g s) → G 6 [(0, lV (x)), (2, lV (y)), (4, lV (z)), (6, lV (u)), (8, iV (g)), (9, iV (((s : Nat) : Int)))] [] ([]) := by
    intro n6
    induction n6 with
    | zero => intro x y z u g s hm; exact absurd hm (Nat.not_lt_zero _)
    | succ n6 ih6 =>
      intro x y z u g s hm6 hi
      obtain ⟨hx, hy, hz, hu, hg, hs, -⟩ := id hi
      refine g_lload_n (pc := 6) hG 1 rfl dX2_order_6 ?_
      refine g_lconst (z := 0) (pc := 7) hG dX2_order_7 (by decide) ?_
      have J106 : ∀ (_ : Unit), (((y = 0)) ∨ ((¬ y = 0) ∧ (u = 0)) ∨ ((¬ y = 0) ∧ (¬ u = 0) ∧ (128 ≤ ((s : Nat) : Int)))) → G 106 [(0, lV (x)), (2, lV (y)), (4, lV (z)), (6, lV (u)), (8, iV (g)), (9, iV (((s : Nat) : Int)))] [] ([]) := by
        intro _ k106
        refine g_lload_n (pc := 106) hG 1 rfl dX2_order_106 ?_
        refine g_lload (pc := 107) hG 3 rfl dX2_order_107 ?_
        refine g_lc_ne (pc := 109) hG (by omega) (by omega) (tgt := 115) (by decide) dX2_order_109 dX2_order_110 (fun h109 => ?_) (fun h109 => ?_)
        · refine g_lload_n (pc := 115) hG 1 rfl dX2_order_115 ?_
          refine g_lconst (z := 0) (pc := 116) hG dX2_order_116 (by decide) ?_
          have J129 : ∀ (j129s0 : Int), (((¬ y = 0) ∧ j129s0 = -g) ∨ ((y = 0) ∧ j129s0 = g)) → G 129 [(0, lV (x)), (2, lV (y)), (4, lV (z)), (6, lV (u)), (8, iV (g)), (9, iV (((s : Nat) : Int)))] [iV (j129s0)] ([]) := by
            intro j129s0 k129
            exact g_ireturn (pc := 129) hG ⟨sI (hi.out (by omega) (Or.inr ⟨h109, k129.symm⟩)), rfl⟩ dX2_order_129
          refine g_lc_ne (pc := 117) hG (by omega) (by omega) (tgt := 126) (by decide) dX2_order_117 dX2_order_118 (fun h117 => ?_) (fun h117 => ?_)
          · refine g_iload (pc := 126) hG 4 rfl dX2_order_126 ?_
            refine g_ineg (pc := 128) hG dX2_order_128 ?_
            exact g_lv (pc := 129) hG [0, 1, 2, 3, 4, 5] rfl (J129 (-g) (Or.inl ⟨h117, rfl⟩))
          · refine g_iload (pc := 121) hG 4 rfl dX2_order_121 ?_
            refine g_goto (pc := 123) hG (tgt := 129) (by decide) dX2_order_123 ?_
            exact g_lv (pc := 129) hG [0, 1, 2, 3, 4, 5] rfl (J129 g (Or.inr (⟨h117, rfl⟩)))
        · refine g_iconst (pc := 113) hG dX2_order_113 ?_
          exact g_ireturn (pc := 114) hG ⟨by rw [← hi.out (by omega) (Or.inl ⟨h109, rfl⟩)], rfl⟩ dX2_order_114
      refine g_lc_eq (pc := 8) hG (by omega) (by omega) (tgt := 106) (by decide) dX2_order_8 dX2_order_9 (fun h8 => ?_) (fun h8 => ?_)
      · exact g_lv (pc := 106) hG [0, 1, 2, 3, 4, 5] rfl (J106 () (Or.inl (h8)))
      · refine g_lload (pc := 12) hG 3 rfl dX2_order_12 ?_
        refine g_lconst (z := 0) (pc := 14) hG dX2_order_14 (by decide) ?_
        refine g_lc_eq (pc := 15) hG (by omega) (by omega) (tgt := 106) (by decide) dX2_order_15 dX2_order_16 (fun h15 => ?_) (fun h15 => ?_)
        · exact g_lv (pc := 106) hG [0, 1, 2, 3, 4, 5] rfl (J106 () (Or.inr (Or.inl ⟨h8, h15⟩)))
        · refine g_iload (pc := 19) hG 5 rfl dX2_order_19 ?_
          refine g_sipush (pc := 21) hG dX2_order_21 (by decide) ?_
          refine g_icmp_ge (pc := 24) hG (by omega) (by omega) (tgt := 106) (by decide) dX2_order_24 (fun h24 => ?_) (fun h24 => ?_)
          · exact g_lv (pc := 106) hG [0, 1, 2, 3, 4, 5] rfl (J106 () (Or.inr (Or.inr (⟨h8, h15, h24⟩))))
          · refine g_lload_n (pc := 27) hG 0 rfl dX2_order_27 ?_
            refine g_lload_n (pc := 28) hG 1 rfl dX2_order_28 ?_
            refine g_ldiv (pc := 29) hG (by omega) (by omega) (by omega) (by omega) dX2_order_29 ?_
            obtain ⟨-, -, -, hq1, hq2⟩ := divs hx.1 (by omega : 0 < y)
            refine g_nmL (pc := 30) hG (fun x30 ex30 => ?_)
            refine g_lstore (pc := 30) hG (by decide) (lv' := [(10, lV (x30)), (0, lV (x)), (2, lV (y)), (4, lV (z)), (6, lV (u)), (8, iV (g)), (9, iV (((s : Nat) : Int)))]) rfl dX2_order_30 ?_
            refine g_lload (pc := 32) hG 3 rfl dX2_order_32 ?_
            refine g_lload (pc := 34) hG 4 rfl dX2_order_34 ?_
            refine g_ldiv (pc := 36) hG (by omega) (by omega) (by omega) (by omega) dX2_order_36 ?_
            obtain ⟨-, -, -, hq3, hq4⟩ := divs hz.1 (by omega : 0 < u)
            refine g_nmL (pc := 37) hG (fun x37 ex37 => ?_)
            refine g_lstore (pc := 37) hG (by decide) (lv' := [(12, lV (x37)), (10, lV (x30)), (0, lV (x)), (2, lV (y)), (4, lV (z)), (6, lV (u)), (8, iV (g)), (9, iV (((s : Nat) : Int)))]) rfl dX2_order_37 ?_
            refine g_lload (pc := 39) hG 1 rfl dX2_order_39 ?_
            refine g_lload (pc := 41) hG 0 rfl dX2_order_41 ?_
            refine g_lc_eq (pc := 43) hG (by omega) (by omega) (tgt := 64) (by decide) dX2_order_43 dX2_order_44 (fun h43 => ?_) (fun h43 => ?_)
            · refine g_lload_n (pc := 64) hG 2 rfl dX2_order_64 ?_
              refine g_lload (pc := 65) hG 1 rfl dX2_order_65 ?_
              refine g_lload_n (pc := 67) hG 3 rfl dX2_order_67 ?_
              refine g_lmul (pc := 68) hG dX2_order_68 ?_
              refine g_lsub (pc := 69) hG dX2_order_69 ?_
              refine g_nmL (pc := 70) hG (fun x70 ex70 => ?_)
              refine g_lstore (pc := 70) hG (by decide) (lv' := [(14, lV (x70)), (12, lV (x37)), (10, lV (x30)), (0, lV (x)), (2, lV (y)), (4, lV (z)), (6, lV (u)), (8, iV (g)), (9, iV (((s : Nat) : Int)))]) rfl dX2_order_70 ?_
              refine g_lload (pc := 72) hG 5 rfl dX2_order_72 ?_
              refine g_lload (pc := 74) hG 1 rfl dX2_order_74 ?_
              refine g_lload (pc := 76) hG 6 rfl dX2_order_76 ?_
              refine g_lmul (pc := 78) hG dX2_order_78 ?_
              refine g_lsub (pc := 79) hG dX2_order_79 ?_
              refine g_nmL (pc := 80) hG (fun x80 ex80 => ?_)
              refine g_lstore (pc := 80) hG (by decide) (lv' := [(16, lV (x80)), (14, lV (x70)), (12, lV (x37)), (10, lV (x30)), (0, lV (x)), (2, lV (y)), (4, lV (z)), (6, lV (u)), (8, iV (g)), (9, iV (((s : Nat) : Int)))]) rfl dX2_order_80 ?_
              refine g_lload_n (pc := 82) hG 5 rfl dX2_order_82 ?_
              refine g_lstore_n (pc := 83) hG (by decide) (lv' := [(0, lV (y)), (16, lV (x80)), (14, lV (x70)), (12, lV (x37)), (10, lV (x30)), (2, lV (y)), (4, lV (z)), (6, lV (u)), (8, iV (g)), (9, iV (((s : Nat) : Int)))]) rfl dX2_order_83 ?_
              refine g_lload (pc := 84) hG 2 rfl dX2_order_84 ?_
              refine g_lstore_n (pc := 86) hG (by decide) (lv' := [(2, lV (x70)), (0, lV (y)), (16, lV (x80)), (14, lV (x70)), (12, lV (x37)), (10, lV (x30)), (4, lV (z)), (6, lV (u)), (8, iV (g)), (9, iV (((s : Nat) : Int)))]) rfl dX2_order_86 ?_
              refine g_lload (pc := 87) hG 7 rfl dX2_order_87 ?_
              refine g_lstore (pc := 89) hG (by decide) (lv' := [(4, lV (u)), (2, lV (x70)), (0, lV (y)), (16, lV (x80)), (14, lV (x70)), (12, lV (x37)), (10, lV (x30)), (6, lV (u)), (8, iV (g)), (9, iV (((s : Nat) : Int)))]) rfl dX2_order_89 ?_
              refine g_lload (pc := 91) hG 3 rfl dX2_order_91 ?_
              refine g_lstore (pc := 93) hG (by decide) (lv' := [(6, lV (x80)), (4, lV (u)), (2, lV (x70)), (0, lV (y)), (16, lV (x80)), (14, lV (x70)), (12, lV (x37)), (10, lV (x30)), (8, iV (g)), (9, iV (((s : Nat) : Int)))]) rfl dX2_order_93 ?_
              refine g_iload (pc := 95) hG 8 rfl dX2_order_95 ?_
              refine g_ineg (pc := 97) hG dX2_order_97 ?_
              refine g_istore (pc := 98) hG (by decide) (lv' := [(8, iV (-g)), (6, lV (x80)), (4, lV (u)), (2, lV (x70)), (0, lV (y)), (16, lV (x80)), (14, lV (x70)), (12, lV (x37)), (10, lV (x30)), (9, iV (((s : Nat) : Int)))]) rfl dX2_order_98 ?_
              refine g_iinc (pc := 100) hG 9 rfl (by decide) (lv' := [(9, iV ((((s : Nat) : Int)) + 1)), (8, iV (-g)), (6, lV (x80)), (4, lV (u)), (2, lV (x70)), (0, lV (y)), (16, lV (x80)), (14, lV (x70)), (12, lV (x37)), (10, lV (x30))]) rfl dX2_order_100 ?_
              refine g_goto (pc := 103) hG (tgt := 6) (by decide) dX2_order_103 ?_
              exact g_lv (pc := 6) hG [5, 4, 3, 2, 1, 0] rfl (ih6 y x70 u x80 (-g) (s + 1) (by omega) (by subst_vars; exact hi.step h8 h15 (by omega) rfl rfl h43))
            · refine g_lload (pc := 47) hG 1 rfl dX2_order_47 ?_
              refine g_lload (pc := 49) hG 0 rfl dX2_order_49 ?_
              have J63 : ∀ (j63s0 : Int), (((x37 ≤ x30) ∧ j63s0 = g) ∨ ((¬ x37 ≤ x30) ∧ j63s0 = -g)) → G 63 [(0, lV (x)), (2, lV (y)), (4, lV (z)), (6, lV (u)), (8, iV (g)), (9, iV (((s : Nat) : Int))), (10, lV (x30)), (12, lV (x37))] [iV (j63s0)] ([]) := by
                intro j63s0 k63
                exact g_ireturn (pc := 63) hG ⟨sI (hi.ne h8 h15 (by assumption) (by assumption) h43 (by omega)), rfl⟩ dX2_order_63
              refine g_lc_ge (pc := 51) hG (by omega) (by omega) (tgt := 61) (by decide) dX2_order_51 dX2_order_52 (fun h51 => ?_) (fun h51 => ?_)
              · refine g_iload (pc := 61) hG 6 rfl dX2_order_61 ?_
                exact g_lv (pc := 63) hG [2, 3, 4, 5, 6, 7, 1, 0] rfl (J63 g (Or.inl ⟨h51, rfl⟩))
              · refine g_iload (pc := 55) hG 6 rfl dX2_order_55 ?_
                refine g_ineg (pc := 57) hG dX2_order_57 ?_
                refine g_goto (pc := 58) hG (tgt := 63) (by decide) dX2_order_58 ?_
                exact g_lv (pc := 63) hG [2, 3, 4, 5, 6, 7, 1, 0] rfl (J63 (-g) (Or.inr (⟨h51, rfl⟩)))
  exact g_lv (pc := 6) hG [2, 3, 4, 5, 1, 0] rfl (L6 _ a b c d 1 0 (Nat.lt_succ_self _) (⟨ha, by omega, hc, by omega, Or.inl rfl, by omega, by omega, Or.inl ⟨rfl, hb.1, hd.1⟩⟩))

set_option maxHeartbeats 4000000 in
set_option maxRecDepth 100000 in
theorem c_X11_divisor {l : Launch} {D : va_G} {cI cL cZ cX cG : ClassId} (a : Int) (b : Int) (ha : -9223372036854775807 ≤ a ∧ a ≤ 9223372036854775807) (hb : -9223372036854775807 ≤ b ∧ b ≤ 9223372036854775807) : Ct l D (gT cI cL cZ cX cG) yX11_divisor cX11_divisor 10 (some .long) ({ frames := 0, cells := 0, slots := 0, locals := 0 }) [lV (a), lV (b)] ([]) (fun v w => v = some (lV (((Int.gcd a b : Nat) : Int))) ∧ w = []) := by
  refine Ct.of (by decide) (Nat.le_of_ble_eq_true rfl) (fun G hG => ?_)
  show G 0 [(0, lV (a)), (2, lV (b))] [] ([])
  refine g_lload_n (pc := 0) hG 0 rfl dX11_divisor_0 ?_
  refine g_lconst (z := 0) (pc := 1) hG dX11_divisor_1 (by decide) ?_
  have J12 : ∀ (j12s0 : Int), (((0 ≤ a) ∧ j12s0 = a) ∨ ((¬ 0 ≤ a) ∧ j12s0 = -a)) → G 12 [(0, lV (a)), (2, lV (b))] [lV (j12s0)] ([]) := by
    intro j12s0 k12
    refine g_lstore (pc := 12) hG (by decide) (lv' := [(4, lV (j12s0)), (0, lV (a)), (2, lV (b))]) rfl dX11_divisor_12 ?_
    refine g_lload_n (pc := 14) hG 2 rfl dX11_divisor_14 ?_
    refine g_lconst (z := 0) (pc := 15) hG dX11_divisor_15 (by decide) ?_
    have J26 : ∀ (j26s0 : Int), (((0 ≤ b) ∧ j26s0 = b) ∨ ((¬ 0 ≤ b) ∧ j26s0 = -b)) → G 26 [(0, lV (a)), (2, lV (b)), (4, lV (j12s0))] [lV (j26s0)] ([]) := by
      intro j26s0 k26
      refine g_lstore (pc := 26) hG (by decide) (lv' := [(6, lV (j26s0)), (0, lV (a)), (2, lV (b)), (4, lV (j12s0))]) rfl dX11_divisor_26 ?_
      have L28 : ∀ (n28 : Nat) (x : Int) (y : Int), y.toNat < n28 → ((0 ≤ x ∧ x ≤ 9223372036854775807) ∧ (0 ≤ y ∧ y ≤ 9223372036854775807) ∧ Int.gcd x y = Int.gcd a b) → G 28 [(4, lV (x)), (6, lV (y))] [] ([]) := by
        intro n28
        induction n28 with
        | zero => intro x y hm; exact absurd hm (Nat.not_lt_zero _)
        | succ n28 ih28 =>
          intro x y hm28 hi
          obtain ⟨hx, hy, -⟩ := id hi
          refine g_lload (pc := 28) hG 1 rfl dX11_divisor_28 ?_
          refine g_lconst (z := 0) (pc := 30) hG dX11_divisor_30 (by decide) ?_
          refine g_lc_eq (pc := 31) hG (by omega) (by omega) (tgt := 53) (by decide) dX11_divisor_31 dX11_divisor_32 (fun h31 => ?_) (fun h31 => ?_)
          · refine g_lload (pc := 53) hG 0 rfl dX11_divisor_53 ?_
            exact g_lreturn (pc := 55) hG ⟨by rw [← div_out hi h31], rfl⟩ dX11_divisor_55
          · refine g_lload (pc := 35) hG 0 rfl dX11_divisor_35 ?_
            refine g_lload (pc := 37) hG 1 rfl dX11_divisor_37 ?_
            refine g_lrem (pc := 39) hG (by omega) (by omega) (by omega) dX11_divisor_39 ?_
            refine g_nmL (pc := 40) hG (fun x40 ex40 => ?_)
            refine g_lstore (pc := 40) hG (by decide) (lv' := [(8, lV (x40)), (4, lV (x)), (6, lV (y))]) rfl dX11_divisor_40 ?_
            refine g_lload (pc := 42) hG 2 rfl dX11_divisor_42 ?_
            refine g_lstore (pc := 44) hG (by decide) (lv' := [(4, lV (y)), (8, lV (x40)), (6, lV (y))]) rfl dX11_divisor_44 ?_
            refine g_lload (pc := 46) hG 1 rfl dX11_divisor_46 ?_
            refine g_lstore (pc := 48) hG (by decide) (lv' := [(6, lV (x40)), (4, lV (y)), (8, lV (x40))]) rfl dX11_divisor_48 ?_
            refine g_goto (pc := 50) hG (tgt := 28) (by decide) dX11_divisor_50 ?_
            exact g_lv (pc := 28) hG [1, 0] rfl (ih28 y x40 (by subst_vars; exact div_dec hi h31 hm28) (by subst_vars; exact ⟨by omega, div_step hi h31⟩))
      exact g_lv (pc := 28) hG [3, 0] rfl (L28 _ j12s0 j26s0 (Nat.lt_succ_self _) (⟨by omega, by omega, div_init k12.symm k26.symm⟩))
    refine g_lc_ge (pc := 16) hG (by omega) (by omega) (tgt := 25) (by decide) dX11_divisor_16 dX11_divisor_17 (fun h16 => ?_) (fun h16 => ?_)
    · refine g_lload_n (pc := 25) hG 2 rfl dX11_divisor_25 ?_
      exact g_lv (pc := 26) hG [1, 2, 0] rfl (J26 b (Or.inl ⟨h16, rfl⟩))
    · refine g_lload_n (pc := 20) hG 2 rfl dX11_divisor_20 ?_
      refine g_lneg (pc := 21) hG dX11_divisor_21 ?_
      refine g_goto (pc := 22) hG (tgt := 26) (by decide) dX11_divisor_22 ?_
      exact g_lv (pc := 26) hG [1, 2, 0] rfl (J26 (-b) (Or.inr (⟨h16, rfl⟩)))
  refine g_lc_ge (pc := 2) hG (by omega) (by omega) (tgt := 11) (by decide) dX11_divisor_2 dX11_divisor_3 (fun h2 => ?_) (fun h2 => ?_)
  · refine g_lload_n (pc := 11) hG 0 rfl dX11_divisor_11 ?_
    exact g_lv (pc := 12) hG [0, 1] rfl (J12 a (Or.inl ⟨h2, rfl⟩))
  · refine g_lload_n (pc := 6) hG 0 rfl dX11_divisor_6 ?_
    refine g_lneg (pc := 7) hG dX11_divisor_7 ?_
    refine g_goto (pc := 8) hG (tgt := 12) (by decide) dX11_divisor_8 ?_
    exact g_lv (pc := 12) hG [0, 1] rfl (J12 (-a) (Or.inr (⟨h2, rfl⟩)))

set_option maxHeartbeats 4000000 in
set_option maxRecDepth 100000 in
theorem c_X11_told {l : Launch} {D : va_G} {cI cL cZ cX cG : ClassId} (t : Int) (b : Int) (wh : Int) (ht : -9223372036854775807 ≤ t ∧ t ≤ 9223372036854775807) (hb : -9223372036854775807 ≤ b ∧ b ≤ 9223372036854775807) (hw : InI wh) (hb0 : b ≠ 0) : Ct l D (gT cI cL cZ cX cG) yX11_told cX11_told 9 (some .long) ({ frames := 1, cells := 0, slots := 0, locals := 29 }) [lV (t), lV (b), iV (wh)] ([]) (fun v w => v = some (lV (tellZ t b wh)) ∧ w = []) := by
  refine Ct.of (by decide) (Nat.le_of_ble_eq_true rfl) (fun G hG => ?_)
  show G 0 [(0, lV (t)), (2, lV (b)), (4, iV (wh))] [] ([])
  refine g_iload (pc := 0) hG 2 rfl dX11_told_0 ?_
  have J11 : ∀ (_ : Unit), (((wh < 0)) ∨ ((¬ wh < 0) ∧ (¬ wh ≤ 1))) → G 11 [(0, lV (t)), (2, lV (b)), (4, iV (wh))] [] ([]) := by
    intro _ k11
    refine g_ldc2 (z := -1) (pc := 11) hG (v := -1) (inB wd_935 rfl) (by decide) dX11_told_11 ?_
    exact g_lreturn (pc := 14) hG ⟨by unfold tellZ; rw [if_pos (by omega)], rfl⟩ dX11_told_14
  refine g_if_lt (pc := 2) hG (by omega) (tgt := 11) (by decide) dX11_told_2 (fun h2 => ?_) (fun h2 => ?_)
  · exact g_lv (pc := 11) hG [0, 1, 2] rfl (J11 () (Or.inl (h2)))
  · refine g_iload (pc := 5) hG 2 rfl dX11_told_5 ?_
    refine g_iconst (pc := 7) hG dX11_told_7 ?_
    refine g_icmp_le (pc := 8) hG (by omega) (by omega) (tgt := 15) (by decide) dX11_told_8 (fun h8 => ?_) (fun h8 => ?_)
    · refine g_lload_n (pc := 15) hG 0 rfl dX11_told_15 ?_
      refine g_lconst (z := 0) (pc := 16) hG dX11_told_16 (by decide) ?_
      refine g_lc_ne (pc := 17) hG (by omega) (by omega) (tgt := 25) (by decide) dX11_told_17 dX11_told_18 (fun h17 => ?_) (fun h17 => ?_)
      · have hgp := gcd_pos_r (t := t) hb0
        have hgl := gcd_le_r (t := t) hb0
        refine g_lload_n (pc := 25) hG 0 rfl dX11_told_25 ?_
        refine g_lload_n (pc := 26) hG 1 rfl dX11_told_26 ?_
        refine g_callP (pc := 27) hG (As := [lV (t), lV (b)]) (rest := []) (c_X11_divisor (l := l) (D := D) (cI := cI) (cL := cL) (cZ := cZ) (cX := cX) (cG := cG) t b (by omega) (by omega)) cs11_85 ⟨rfl, rfl⟩ ⟨Nat.le_of_ble_eq_true rfl, Nat.le_of_ble_eq_true rfl⟩ rfl rfl (Nat.le_of_ble_eq_true rfl) dX11_told_27 (fun v h => ?_)
        obtain ⟨rfl, -⟩ := h
        show G 30 [(0, lV (t)), (2, lV (b)), (4, iV (wh))] [lV (((Int.gcd t b : Nat) : Int))] ([])
        refine g_lstore (pc := 30) hG (by decide) (lv' := [(5, lV (((Int.gcd t b : Nat) : Int))), (0, lV (t)), (2, lV (b)), (4, iV (wh))]) rfl dX11_told_30 ?_
        refine g_lload_n (pc := 32) hG 2 rfl dX11_told_32 ?_
        refine g_lconst (z := 0) (pc := 33) hG dX11_told_33 (by decide) ?_
        have J45 : ∀ (j45s0 : Int), (((0 ≤ b) ∧ j45s0 = 1) ∨ ((¬ 0 ≤ b) ∧ j45s0 = -1)) → G 45 [(0, lV (t)), (2, lV (b)), (4, iV (wh)), (5, lV (((Int.gcd t b : Nat) : Int)))] [lV (j45s0)] ([]) := by
          intro j45s0 k45
          refine g_lstore (pc := 45) hG (by decide) (lv' := [(7, lV (j45s0)), (0, lV (t)), (2, lV (b)), (4, iV (wh)), (5, lV (((Int.gcd t b : Nat) : Int)))]) rfl dX11_told_45 ?_
          refine g_iload (pc := 47) hG 3 rfl dX11_told_47 ?_
          have J69 : ∀ (j69s0 : Int), (((¬ wh = 0) ∧ j69s0 = j45s0 * (b.tdiv (((Int.gcd t b : Nat) : Int)))) ∨ ((wh = 0) ∧ j69s0 = j45s0 * (t.tdiv (((Int.gcd t b : Nat) : Int))))) → G 69 [(0, lV (t)), (2, lV (b)), (4, iV (wh)), (5, lV (((Int.gcd t b : Nat) : Int))), (7, lV (j45s0))] [lV (j69s0)] ([]) := by
            intro j69s0 k69
            exact g_lreturn (pc := 69) hG ⟨sL (told_out (sg := j45s0) hb0 (by omega) (by omega) (by omega) (by subst_vars; exact k69.symm)), rfl⟩ dX11_told_69
          refine g_if_ne (pc := 49) hG (by omega) (tgt := 62) (by decide) dX11_told_49 (fun h49 => ?_) (fun h49 => ?_)
          · refine g_lload (pc := 62) hG 0 rfl dX11_told_62 ?_
            refine g_lload_n (pc := 64) hG 2 rfl dX11_told_64 ?_
            refine g_lload (pc := 65) hG 4 rfl dX11_told_65 ?_
            refine g_ldiv (pc := 67) hG (by omega) (by omega) (by omega) (by omega) dX11_told_67 ?_
            refine g_lmul (pc := 68) hG dX11_told_68 ?_
            exact g_lv (pc := 69) hG [1, 2, 3, 4, 0] rfl (J69 (j45s0 * (b.tdiv (((Int.gcd t b : Nat) : Int)))) (Or.inl ⟨h49, rfl⟩))
          · refine g_lload (pc := 52) hG 0 rfl dX11_told_52 ?_
            refine g_lload_n (pc := 54) hG 1 rfl dX11_told_54 ?_
            refine g_lload (pc := 55) hG 4 rfl dX11_told_55 ?_
            refine g_ldiv (pc := 57) hG (by omega) (by omega) (by omega) (by omega) dX11_told_57 ?_
            refine g_lmul (pc := 58) hG dX11_told_58 ?_
            refine g_goto (pc := 59) hG (tgt := 69) (by decide) dX11_told_59 ?_
            exact g_lv (pc := 69) hG [1, 2, 3, 4, 0] rfl (J69 (j45s0 * (t.tdiv (((Int.gcd t b : Nat) : Int)))) (Or.inr (⟨h49, rfl⟩)))
        refine g_lc_ge (pc := 34) hG (by omega) (by omega) (tgt := 44) (by decide) dX11_told_34 dX11_told_35 (fun h34 => ?_) (fun h34 => ?_)
        · refine g_lconst (z := 1) (pc := 44) hG dX11_told_44 (by decide) ?_
          exact g_lv (pc := 45) hG [1, 2, 3, 0] rfl (J45 1 (Or.inl ⟨h34, rfl⟩))
        · refine g_ldc2 (z := -1) (pc := 38) hG (v := -1) (inB wd_935 rfl) (by decide) dX11_told_38 ?_
          refine g_goto (pc := 41) hG (tgt := 45) (by decide) dX11_told_41 ?_
          exact g_lv (pc := 45) hG [1, 2, 3, 0] rfl (J45 (-1) (Or.inr (⟨h34, rfl⟩)))
      · refine g_iload (pc := 21) hG 2 rfl dX11_told_21 ?_
        refine g_i2l (pc := 23) hG (by omega) dX11_told_23 ?_
        exact g_lreturn (pc := 24) hG ⟨sL (told_0 hb0 h17 (by omega) (by omega)).symm, rfl⟩ dX11_told_24
    · exact g_lv (pc := 11) hG [0, 1, 2] rfl (J11 () (Or.inr (⟨h2, h8⟩)))

set_option maxHeartbeats 4000000 in
set_option maxRecDepth 100000 in
theorem c_J9_floorDiv_f86c9 {l : Launch} {D : va_G} {cI cL cZ cX cG : ClassId} (a : Int) (b : Int) (ha : -9223372036854775807 ≤ a ∧ a ≤ 9223372036854775807) (hb : 0 < b ∧ b ≤ 9223372036854775807) : Ct l D (gT cI cL cZ cX cG) yJ9_floorDiv_f86c9 cJ9_floorDiv_f86c9 6 (some .long) ({ frames := 0, cells := 0, slots := 0, locals := 0 }) [lV (a), lV (b)] ([]) (fun v w => v = some (lV (a / b)) ∧ w = []) := by
  refine Ct.ofF (by decide +kernel) (Nat.le_of_ble_eq_true rfl) (fun G hG => ?_)
  show G 0 [(0, lV (a)), (2, lV (b))] [] ([])
  refine g_lload_n (pc := 0) hG 0 rfl dJ9_floorDiv_f86c9_0 ?_
  refine g_lload_n (pc := 1) hG 1 rfl dJ9_floorDiv_f86c9_1 ?_
  refine g_ldiv (pc := 2) hG (by omega) (by omega) (by omega) (by omega) dJ9_floorDiv_f86c9_2 ?_
  have ⟨hq1, hq2⟩ := tdiv_bd ha hb
  refine g_nmL (pc := 3) hG (fun x3 ex3 => ?_)
  refine g_lstore (pc := 3) hG (by decide) (lv' := [(4, lV (x3)), (0, lV (a)), (2, lV (b))]) rfl dJ9_floorDiv_f86c9_3 ?_
  refine g_lload_n (pc := 5) hG 1 rfl dJ9_floorDiv_f86c9_5 ?_
  refine g_lload_n (pc := 6) hG 2 rfl dJ9_floorDiv_f86c9_6 ?_
  refine g_lxor (pc := 7) hG dJ9_floorDiv_f86c9_7 ?_
  refine g_lconst (z := 0) (pc := 8) hG dJ9_floorDiv_f86c9_8 (by decide) ?_
  have hxs := xor_sgn (a := a) (b := b) (by omega) (by omega)
  have J27 : ∀ (_ : Unit), (((0 ≤ (lI a ^^^ lI b).toInt)) ∨ ((¬ 0 ≤ (lI a ^^^ lI b).toInt) ∧ (x3 * b = a))) → G 27 [(0, lV (a)), (2, lV (b)), (4, lV (x3))] [] ([]) := by
    intro _ k27
    refine g_lload (pc := 27) hG 2 rfl dJ9_floorDiv_f86c9_27 ?_
    exact g_lreturn (pc := 29) hG ⟨sL (floor_0 hb.1 (by assumption) (by omega)), rfl⟩ dJ9_floorDiv_f86c9_29
  refine g_lc_ge (pc := 9) hG (by exact xor_in a b) (by omega) (tgt := 27) (by decide) dJ9_floorDiv_f86c9_9 dJ9_floorDiv_f86c9_10 (fun h9 => ?_) (fun h9 => ?_)
  · exact g_lv (pc := 27) hG [1, 2, 0] rfl (J27 () (Or.inl (h9)))
  · refine g_lload (pc := 13) hG 0 rfl dJ9_floorDiv_f86c9_13 ?_
    refine g_lload_n (pc := 15) hG 2 rfl dJ9_floorDiv_f86c9_15 ?_
    refine g_lmul (pc := 16) hG dJ9_floorDiv_f86c9_16 ?_
    refine g_lload_n (pc := 17) hG 1 rfl dJ9_floorDiv_f86c9_17 ?_
    have hqb := tdiv_mul_bd ha hb ex3
    refine g_lc_eq (pc := 18) hG (by omega) (by omega) (tgt := 27) (by decide) dJ9_floorDiv_f86c9_18 dJ9_floorDiv_f86c9_19 (fun h18 => ?_) (fun h18 => ?_)
    · exact g_lv (pc := 27) hG [1, 2, 0] rfl (J27 () (Or.inr (⟨h9, h18⟩)))
    · refine g_lload (pc := 22) hG 0 rfl dJ9_floorDiv_f86c9_22 ?_
      refine g_lconst (z := 1) (pc := 24) hG dJ9_floorDiv_f86c9_24 (by decide) ?_
      refine g_lsub (pc := 25) hG dJ9_floorDiv_f86c9_25 ?_
      exact g_lreturn (pc := 26) hG ⟨sL (floor_1 hb.1 (by omega) (by assumption) (by assumption)), rfl⟩ dJ9_floorDiv_f86c9_26

set_option maxHeartbeats 4000000 in
set_option maxRecDepth 100000 in
theorem c_X11_compare {l : Launch} {D : va_G} {cI cL cZ cX cG : ClassId} (a : Int) (b : Int) (c : Int) (d : Int) (ha : -9223372036854775807 ≤ a ∧ a ≤ 9223372036854775807) (hb : 0 < b ∧ b ≤ 9223372036854775807) (hc : -9223372036854775807 ≤ c ∧ c ≤ 9223372036854775807) (hd : 0 < d ∧ d ≤ 9223372036854775807) : Ct l D (gT cI cL cZ cX cG) yX11_compare cX11_compare 23 (some .int) ({ frames := 1, cells := 0, slots := 0, locals := 25 }) [lV (a), lV (b), lV (c), lV (d)] ([]) (fun v w => v = some (iV (sgnZ (a * d - c * b))) ∧ w = []) := by
  refine Ct.of (by decide) (Nat.le_of_ble_eq_true rfl) (fun G hG => ?_)
  show G 0 [(0, lV (a)), (2, lV (b)), (4, lV (c)), (6, lV (d))] [] ([])
  refine g_lload_n (pc := 0) hG 0 rfl dX11_compare_0 ?_
  refine g_lload_n (pc := 1) hG 1 rfl dX11_compare_1 ?_
  refine g_callP (pc := 2) hG (As := [lV (a), lV (b)]) (rest := []) (c_J9_floorDiv_f86c9 (l := l) (D := D) (cI := cI) (cL := cL) (cZ := cZ) (cX := cX) (cG := cG) a b (by omega) (by omega)) cs11_89 ⟨rfl, rfl⟩ ⟨Nat.le_of_ble_eq_true rfl, Nat.le_of_ble_eq_true rfl⟩ rfl rfl (Nat.le_of_ble_eq_true rfl) dX11_compare_2 (fun v h => ?_)
  obtain ⟨rfl, -⟩ := h
  show G 5 [(0, lV (a)), (2, lV (b)), (4, lV (c)), (6, lV (d))] [lV (a / b)] ([])
  refine g_nmL (pc := 5) hG (fun x5 ex5 => ?_)
  refine g_lstore (pc := 5) hG (by decide) (lv' := [(8, lV (x5)), (0, lV (a)), (2, lV (b)), (4, lV (c)), (6, lV (d))]) rfl dX11_compare_5 ?_
  refine g_lload (pc := 7) hG 3 rfl dX11_compare_7 ?_
  refine g_lload (pc := 9) hG 4 rfl dX11_compare_9 ?_
  refine g_callP (pc := 11) hG (As := [lV (c), lV (d)]) (rest := []) (c_J9_floorDiv_f86c9 (l := l) (D := D) (cI := cI) (cL := cL) (cZ := cZ) (cX := cX) (cG := cG) c d (by omega) (by omega)) cs11_89 ⟨rfl, rfl⟩ ⟨Nat.le_of_ble_eq_true rfl, Nat.le_of_ble_eq_true rfl⟩ rfl rfl (Nat.le_of_ble_eq_true rfl) dX11_compare_11 (fun v h => ?_)
  obtain ⟨rfl, -⟩ := h
  show G 14 [(8, lV (x5)), (0, lV (a)), (2, lV (b)), (4, lV (c)), (6, lV (d))] [lV (c / d)] ([])
  refine g_nmL (pc := 14) hG (fun x14 ex14 => ?_)
  refine g_lstore (pc := 14) hG (by decide) (lv' := [(10, lV (x14)), (8, lV (x5)), (0, lV (a)), (2, lV (b)), (4, lV (c)), (6, lV (d))]) rfl dX11_compare_14 ?_
  refine g_lload_n (pc := 16) hG 2 rfl dX11_compare_16 ?_
  refine g_lload (pc := 17) hG 1 rfl dX11_compare_17 ?_
  refine g_lload_n (pc := 19) hG 3 rfl dX11_compare_19 ?_
  refine g_lmul (pc := 20) hG dX11_compare_20 ?_
  refine g_lsub (pc := 21) hG dX11_compare_21 ?_
  refine g_nmL (pc := 22) hG (fun x22 ex22 => ?_)
  refine g_lstore (pc := 22) hG (by decide) (lv' := [(12, lV (x22)), (10, lV (x14)), (8, lV (x5)), (0, lV (a)), (2, lV (b)), (4, lV (c)), (6, lV (d))]) rfl dX11_compare_22 ?_
  refine g_lload (pc := 24) hG 5 rfl dX11_compare_24 ?_
  refine g_lload (pc := 26) hG 1 rfl dX11_compare_26 ?_
  refine g_lload (pc := 28) hG 6 rfl dX11_compare_28 ?_
  refine g_lmul (pc := 30) hG dX11_compare_30 ?_
  refine g_lsub (pc := 31) hG dX11_compare_31 ?_
  refine g_nmL (pc := 32) hG (fun x32 ex32 => ?_)
  refine g_lstore (pc := 32) hG (by decide) (lv' := [(14, lV (x32)), (12, lV (x22)), (10, lV (x14)), (8, lV (x5)), (0, lV (a)), (2, lV (b)), (4, lV (c)), (6, lV (d))]) rfl dX11_compare_32 ?_
  refine g_iconst (pc := 34) hG dX11_compare_34 ?_
  refine g_istore (pc := 35) hG (by decide) (lv' := [(16, iV (1)), (14, lV (x32)), (12, lV (x22)), (10, lV (x14)), (8, lV (x5)), (0, lV (a)), (2, lV (b)), (4, lV (c)), (6, lV (d))]) rfl dX11_compare_35 ?_
  refine g_lload_n (pc := 37) hG 6 rfl dX11_compare_37 ?_
  refine g_lstore (pc := 38) hG (by decide) (lv' := [(17, lV (b)), (16, iV (1)), (14, lV (x32)), (12, lV (x22)), (10, lV (x14)), (8, lV (x5)), (0, lV (a)), (2, lV (b)), (4, lV (c)), (6, lV (d))]) rfl dX11_compare_38 ?_
  refine g_lload (pc := 40) hG 9 rfl dX11_compare_40 ?_
  refine g_lstore (pc := 42) hG (by decide) (lv' := [(19, lV (d)), (17, lV (b)), (16, iV (1)), (14, lV (x32)), (12, lV (x22)), (10, lV (x14)), (8, lV (x5)), (0, lV (a)), (2, lV (b)), (4, lV (c)), (6, lV (d))]) rfl dX11_compare_42 ?_
  have L44 : ∀ (n44 : Nat) (p : Int) (q : Int) (r : Int) (s : Int) (u : Int) (v : Int) (g : Int), r.toNat < n44 → (KI a b c d p q r s u v g) → G 44 [(8, lV (p)), (10, lV (q)), (12, lV (r)), (14, lV (s)), (16, iV (g)), (17, lV (u)), (19, lV (v))] [] ([]) := by
    intro n44
    induction n44 with
    | zero => intro p q r s u v g hm; exact absurd hm (Nat.not_lt_zero _)
    | succ n44 ih44 =>
      intro p q r s u v g hm44 hi
      obtain ⟨hr, hs, hp, hq, hg, -⟩ := id hi
      refine g_lload (pc := 44) hG 0 rfl dX11_compare_44 ?_
      refine g_lload (pc := 46) hG 1 rfl dX11_compare_46 ?_
      have J124 : ∀ (_ : Unit), (((¬ p = q)) ∨ ((p = q) ∧ (r = 0)) ∨ ((p = q) ∧ (¬ r = 0) ∧ (s = 0))) → G 124 [(8, lV (p)), (10, lV (q)), (12, lV (r)), (14, lV (s)), (16, iV (g)), (17, lV (u)), (19, lV (v))] [] ([]) := by
        intro _ k124
        refine g_lload (pc := 124) hG 0 rfl dX11_compare_124 ?_
        refine g_lload (pc := 126) hG 1 rfl dX11_compare_126 ?_
        refine g_lc_eq (pc := 128) hG (by omega) (by omega) (tgt := 149) (by decide) dX11_compare_128 dX11_compare_129 (fun h128 => ?_) (fun h128 => ?_)
        · refine g_lload (pc := 149) hG 2 rfl dX11_compare_149 ?_
          refine g_lconst (z := 0) (pc := 151) hG dX11_compare_151 (by decide) ?_
          have J167 : ∀ (_ : Unit), (((¬ r = 0)) ∨ ((r = 0) ∧ (¬ s = 0))) → G 167 [(8, lV (p)), (10, lV (q)), (12, lV (r)), (14, lV (s)), (16, iV (g)), (17, lV (u)), (19, lV (v))] [] ([]) := by
            intro _ k167
            refine g_lload (pc := 167) hG 2 rfl dX11_compare_167 ?_
            refine g_lconst (z := 0) (pc := 169) hG dX11_compare_169 (by decide) ?_
            have J190 : ∀ (j190s0 : Int), (((¬ r = 0) ∧ (¬ s = 0) ∧ j190s0 = 0) ∨ ((¬ r = 0) ∧ (s = 0) ∧ j190s0 = 1) ∨ ((r = 0) ∧ j190s0 = -1)) → G 190 [(8, lV (p)), (10, lV (q)), (12, lV (r)), (14, lV (s)), (16, iV (g)), (17, lV (u)), (19, lV (v))] [iV (j190s0)] ([]) := by
              intro j190s0 k190
              refine g_istore (pc := 190) hG (by decide) (lv' := [(21, iV (j190s0)), (8, lV (p)), (10, lV (q)), (12, lV (r)), (14, lV (s)), (16, iV (g)), (17, lV (u)), (19, lV (v))]) rfl dX11_compare_190 ?_
              refine g_iload (pc := 192) hG 0 rfl dX11_compare_192 ?_
              refine g_iload (pc := 194) hG 5 rfl dX11_compare_194 ?_
              refine g_imul (pc := 196) hG dX11_compare_196 ?_
              exact g_ireturn (pc := 197) hG ⟨sI (hi.out (by omega) (by omega) (by subst_vars; omega)), rfl⟩ dX11_compare_197
            refine g_lc_ne (pc := 170) hG (by omega) (by omega) (tgt := 178) (by decide) dX11_compare_170 dX11_compare_171 (fun h170 => ?_) (fun h170 => ?_)
            · refine g_lload (pc := 178) hG 3 rfl dX11_compare_178 ?_
              refine g_lconst (z := 0) (pc := 180) hG dX11_compare_180 (by decide) ?_
              refine g_lc_ne (pc := 181) hG (by omega) (by omega) (tgt := 189) (by decide) dX11_compare_181 dX11_compare_182 (fun h181 => ?_) (fun h181 => ?_)
              · refine g_iconst (pc := 189) hG dX11_compare_189 ?_
                exact g_lv (pc := 190) hG [0, 1, 2, 3, 4, 5, 6] rfl (J190 0 (Or.inl ⟨h170, h181, rfl⟩))
              · refine g_iconst (pc := 185) hG dX11_compare_185 ?_
                refine g_goto (pc := 186) hG (tgt := 190) (by decide) dX11_compare_186 ?_
                exact g_lv (pc := 190) hG [0, 1, 2, 3, 4, 5, 6] rfl (J190 1 (Or.inr (Or.inl ⟨h170, h181, rfl⟩)))
            · refine g_iconst (pc := 174) hG dX11_compare_174 ?_
              refine g_goto (pc := 175) hG (tgt := 190) (by decide) dX11_compare_175 ?_
              exact g_lv (pc := 190) hG [0, 1, 2, 3, 4, 5, 6] rfl (J190 (-1) (Or.inr (Or.inr (⟨h170, rfl⟩))))
          refine g_lc_ne (pc := 152) hG (by omega) (by omega) (tgt := 167) (by decide) dX11_compare_152 dX11_compare_153 (fun h152 => ?_) (fun h152 => ?_)
          · exact g_lv (pc := 167) hG [0, 1, 2, 3, 4, 5, 6] rfl (J167 () (Or.inl (h152)))
          · refine g_lload (pc := 156) hG 3 rfl dX11_compare_156 ?_
            refine g_lconst (z := 0) (pc := 158) hG dX11_compare_158 (by decide) ?_
            refine g_lc_ne (pc := 159) hG (by omega) (by omega) (tgt := 167) (by decide) dX11_compare_159 dX11_compare_160 (fun h159 => ?_) (fun h159 => ?_)
            · exact g_lv (pc := 167) hG [0, 1, 2, 3, 4, 5, 6] rfl (J167 () (Or.inr (⟨h152, h159⟩)))
            · refine g_iconst (pc := 163) hG dX11_compare_163 ?_
              refine g_goto (pc := 164) hG (tgt := 190) (by decide) dX11_compare_164 ?_
              refine g_istore (pc := 190) hG (by decide) (lv' := [(21, iV (0)), (8, lV (p)), (10, lV (q)), (12, lV (r)), (14, lV (s)), (16, iV (g)), (17, lV (u)), (19, lV (v))]) rfl dX11_compare_190 ?_
              refine g_iload (pc := 192) hG 0 rfl dX11_compare_192 ?_
              refine g_iload (pc := 194) hG 5 rfl dX11_compare_194 ?_
              refine g_imul (pc := 196) hG dX11_compare_196 ?_
              exact g_ireturn (pc := 197) hG ⟨sI (hi.out (by omega) (by omega) (by subst_vars; omega)), rfl⟩ dX11_compare_197
        · refine g_lload (pc := 132) hG 0 rfl dX11_compare_132 ?_
          refine g_lload (pc := 134) hG 1 rfl dX11_compare_134 ?_
          have J148 : ∀ (j148s0 : Int), (((q ≤ p) ∧ j148s0 = g) ∨ ((¬ q ≤ p) ∧ j148s0 = -g)) → G 148 [(8, lV (p)), (10, lV (q)), (12, lV (r)), (14, lV (s)), (16, iV (g)), (17, lV (u)), (19, lV (v))] [iV (j148s0)] ([]) := by
            intro j148s0 k148
            exact g_ireturn (pc := 148) hG ⟨sI (hi.ne h128 (by omega)), rfl⟩ dX11_compare_148
          refine g_lc_ge (pc := 136) hG (by omega) (by omega) (tgt := 146) (by decide) dX11_compare_136 dX11_compare_137 (fun h136 => ?_) (fun h136 => ?_)
          · refine g_iload (pc := 146) hG 4 rfl dX11_compare_146 ?_
            exact g_lv (pc := 148) hG [0, 1, 2, 3, 4, 5, 6] rfl (J148 g (Or.inl ⟨h136, rfl⟩))
          · refine g_iload (pc := 140) hG 4 rfl dX11_compare_140 ?_
            refine g_ineg (pc := 142) hG dX11_compare_142 ?_
            refine g_goto (pc := 143) hG (tgt := 148) (by decide) dX11_compare_143 ?_
            exact g_lv (pc := 148) hG [0, 1, 2, 3, 4, 5, 6] rfl (J148 (-g) (Or.inr (⟨h136, rfl⟩)))
      refine g_lc_ne (pc := 48) hG (by omega) (by omega) (tgt := 124) (by decide) dX11_compare_48 dX11_compare_49 (fun h48 => ?_) (fun h48 => ?_)
      · exact g_lv (pc := 124) hG [0, 1, 2, 3, 4, 5, 6] rfl (J124 () (Or.inl (h48)))
      · refine g_lload (pc := 52) hG 2 rfl dX11_compare_52 ?_
        refine g_lconst (z := 0) (pc := 54) hG dX11_compare_54 (by decide) ?_
        refine g_lc_eq (pc := 55) hG (by omega) (by omega) (tgt := 124) (by decide) dX11_compare_55 dX11_compare_56 (fun h55 => ?_) (fun h55 => ?_)
        · exact g_lv (pc := 124) hG [0, 1, 2, 3, 4, 5, 6] rfl (J124 () (Or.inr (Or.inl ⟨h48, h55⟩)))
        · refine g_lload (pc := 59) hG 3 rfl dX11_compare_59 ?_
          refine g_lconst (z := 0) (pc := 61) hG dX11_compare_61 (by decide) ?_
          refine g_lc_eq (pc := 62) hG (by omega) (by omega) (tgt := 124) (by decide) dX11_compare_62 dX11_compare_63 (fun h62 => ?_) (fun h62 => ?_)
          · exact g_lv (pc := 124) hG [0, 1, 2, 3, 4, 5, 6] rfl (J124 () (Or.inr (Or.inr (⟨h48, h55, h62⟩))))
          · refine g_iload (pc := 66) hG 4 rfl dX11_compare_66 ?_
            refine g_ineg (pc := 68) hG dX11_compare_68 ?_
            refine g_istore (pc := 69) hG (by decide) (lv' := [(16, iV (-g)), (8, lV (p)), (10, lV (q)), (12, lV (r)), (14, lV (s)), (17, lV (u)), (19, lV (v))]) rfl dX11_compare_69 ?_
            refine g_lload (pc := 71) hG 5 rfl dX11_compare_71 ?_
            refine g_lload (pc := 73) hG 3 rfl dX11_compare_73 ?_
            refine g_ldiv (pc := 75) hG (by omega) (by omega) (by omega) (by omega) dX11_compare_75 ?_
            obtain ⟨-, -, -, hq1, hq2⟩ := divs (by omega : 0 ≤ u) (by omega : 0 < r)
            refine g_nmL (pc := 76) hG (fun x76 ex76 => ?_)
            refine g_lstore (pc := 76) hG (by decide) (lv' := [(8, lV (x76)), (16, iV (-g)), (10, lV (q)), (12, lV (r)), (14, lV (s)), (17, lV (u)), (19, lV (v))]) rfl dX11_compare_76 ?_
            refine g_lload (pc := 78) hG 6 rfl dX11_compare_78 ?_
            refine g_lload (pc := 80) hG 4 rfl dX11_compare_80 ?_
            refine g_ldiv (pc := 82) hG (by omega) (by omega) (by omega) (by omega) dX11_compare_82 ?_
            obtain ⟨-, -, -, hq3, hq4⟩ := divs (by omega : 0 ≤ v) (by omega : 0 < s)
            refine g_nmL (pc := 83) hG (fun x83 ex83 => ?_)
            refine g_lstore (pc := 83) hG (by decide) (lv' := [(10, lV (x83)), (8, lV (x76)), (16, iV (-g)), (12, lV (r)), (14, lV (s)), (17, lV (u)), (19, lV (v))]) rfl dX11_compare_83 ?_
            refine g_lload (pc := 85) hG 5 rfl dX11_compare_85 ?_
            refine g_lload (pc := 87) hG 1 rfl dX11_compare_87 ?_
            refine g_lload (pc := 89) hG 3 rfl dX11_compare_89 ?_
            refine g_lmul (pc := 91) hG dX11_compare_91 ?_
            refine g_lsub (pc := 92) hG dX11_compare_92 ?_
            refine g_nmL (pc := 93) hG (fun x93 ex93 => ?_)
            refine g_lstore (pc := 93) hG (by decide) (lv' := [(21, lV (x93)), (10, lV (x83)), (8, lV (x76)), (16, iV (-g)), (12, lV (r)), (14, lV (s)), (17, lV (u)), (19, lV (v))]) rfl dX11_compare_93 ?_
            refine g_lload (pc := 95) hG 4 rfl dX11_compare_95 ?_
            refine g_lstore (pc := 97) hG (by decide) (lv' := [(17, lV (r)), (21, lV (x93)), (10, lV (x83)), (8, lV (x76)), (16, iV (-g)), (12, lV (r)), (14, lV (s)), (19, lV (v))]) rfl dX11_compare_97 ?_
            refine g_lload (pc := 99) hG 1 rfl dX11_compare_99 ?_
            refine g_lstore (pc := 101) hG (by decide) (lv' := [(12, lV (x93)), (17, lV (r)), (21, lV (x93)), (10, lV (x83)), (8, lV (x76)), (16, iV (-g)), (14, lV (s)), (19, lV (v))]) rfl dX11_compare_101 ?_
            refine g_lload (pc := 103) hG 7 rfl dX11_compare_103 ?_
            refine g_lload (pc := 105) hG 3 rfl dX11_compare_105 ?_
            refine g_lload (pc := 107) hG 6 rfl dX11_compare_107 ?_
            refine g_lmul (pc := 109) hG dX11_compare_109 ?_
            refine g_lsub (pc := 110) hG dX11_compare_110 ?_
            refine g_nmL (pc := 111) hG (fun x111 ex111 => ?_)
            refine g_lstore (pc := 111) hG (by decide) (lv' := [(21, lV (x111)), (12, lV (x93)), (17, lV (r)), (10, lV (x83)), (8, lV (x76)), (16, iV (-g)), (14, lV (s)), (19, lV (v))]) rfl dX11_compare_111 ?_
            refine g_lload (pc := 113) hG 6 rfl dX11_compare_113 ?_
            refine g_lstore (pc := 115) hG (by decide) (lv' := [(19, lV (s)), (21, lV (x111)), (12, lV (x93)), (17, lV (r)), (10, lV (x83)), (8, lV (x76)), (16, iV (-g)), (14, lV (s))]) rfl dX11_compare_115 ?_
            refine g_lload (pc := 117) hG 1 rfl dX11_compare_117 ?_
            refine g_lstore (pc := 119) hG (by decide) (lv' := [(14, lV (x111)), (19, lV (s)), (21, lV (x111)), (12, lV (x93)), (17, lV (r)), (10, lV (x83)), (8, lV (x76)), (16, iV (-g))]) rfl dX11_compare_119 ?_
            refine g_goto (pc := 121) hG (tgt := 44) (by decide) dX11_compare_121 ?_
            exact g_lv (pc := 44) hG [6, 5, 3, 0, 7, 4, 1] rfl (ih44 x76 x83 x93 x111 r s (-g) (by rw [ex93]; exact KI.dec (hi.step h48 h55 h62 ex76 ex83) hm44) (by rw [ex93, ex111]; exact hi.step h48 h55 h62 ex76 ex83))
  exact g_lv (pc := 44) hG [6, 5, 4, 3, 2, 1, 0] rfl (L44 _ x5 x14 x22 x32 b d 1 (Nat.lt_succ_self _) (by subst_vars; exact KI.init ha hb hc hd))
