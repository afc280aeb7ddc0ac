abbrev lvoC0 (cI cL cZ : ClassId) (ad : Nat → Nat) (o : Nat) (t : Int) (b : Int) : Nat × va_E := (ad o, ob 2 [.ref (ad (o + 1)), lV t, lV b])
abbrev i2600C0 (cI cL cZ : ClassId) (ad : Nat → Nat) (o : Nat) (f : Nat → Int) : Nat × va_E := (ad o, aI cI 2600 f)
set_option maxHeartbeats 4000000 in
set_option maxRecDepth 100000 in
theorem c_X3_twosBelow {l : Launch} {D : va_G} {cI cL cZ cX cG : ClassId} (j : Nat) (hj : j ≤ 26) : Ct l D (gT cI cL cZ cX cG) yX3_twosBelow cX3_twosBelow 1 (some .int) ({ frames := 0, cells := 0, slots := 0, locals := 0 }) [iV (((j : Nat) : Int))] ([]) (fun vv_ ww_ => vv_ = some (iV (((t2 j : Nat) : Int))) ∧ ww_ = []) := by
  refine Ct.of (by decide) (Nat.le_of_ble_eq_true rfl) (fun G hG => ?_)
  show G 0 [(0, iV (((j : Nat) : Int)))] [] ([])
  refine g_iload_n (pc := 0) hG 0 rfl dX3_twosBelow_0 ?_
  refine g_iload_n (pc := 1) hG 0 rfl dX3_twosBelow_1 ?_
  refine g_iconst (pc := 2) hG dX3_twosBelow_2 ?_
  refine g_isub (pc := 3) hG dX3_twosBelow_3 ?_
  refine g_imul (pc := 4) hG dX3_twosBelow_4 ?_
  refine g_iconst (pc := 5) hG dX3_twosBelow_5 ?_
  refine g_idiv (pc := 6) hG (by exact t2_in hj) (by omega) (by omega) dX3_twosBelow_6 ?_
  exact g_ireturn (pc := 7) hG ⟨sI (t2_of hj), rfl⟩ dX3_twosBelow_7
set_option maxHeartbeats 4000000 in
set_option maxRecDepth 100000 in
theorem c_X3_threesBelow {l : Launch} {D : va_G} {cI cL cZ cX cG : ClassId} (j : Nat) (hj : j ≤ 26) : Ct l D (gT cI cL cZ cX cG) yX3_threesBelow cX3_threesBelow 1 (some .int) ({ frames := 0, cells := 0, slots := 0, locals := 0 }) [iV (((j : Nat) : Int))] ([]) (fun vv_ ww_ => vv_ = some (iV (((t3 j : Nat) : Int))) ∧ ww_ = []) := by
  refine Ct.of (by decide) (Nat.le_of_ble_eq_true rfl) (fun G hG => ?_)
  show G 0 [(0, iV (((j : Nat) : Int)))] [] ([])
  refine g_iload_n (pc := 0) hG 0 rfl dX3_threesBelow_0 ?_
  refine g_iload_n (pc := 1) hG 0 rfl dX3_threesBelow_1 ?_
  refine g_iconst (pc := 2) hG dX3_threesBelow_2 ?_
  refine g_isub (pc := 3) hG dX3_threesBelow_3 ?_
  refine g_imul (pc := 4) hG dX3_threesBelow_4 ?_
  refine g_iload_n (pc := 5) hG 0 rfl dX3_threesBelow_5 ?_
  refine g_iconst (pc := 6) hG dX3_threesBelow_6 ?_
  refine g_isub (pc := 7) hG dX3_threesBelow_7 ?_
  refine g_imul (pc := 8) hG dX3_threesBelow_8 ?_
  refine g_bipush (pc := 9) hG dX3_threesBelow_9 (by decide) ?_
  refine g_idiv (pc := 11) hG (by exact t3_in hj) (by omega) (by omega) dX3_threesBelow_11 ?_
  exact g_ireturn (pc := 12) hG ⟨sI (t3_of hj), rfl⟩ dX3_threesBelow_12
set_option maxHeartbeats 4000000 in
set_option maxRecDepth 100000 in
theorem c_X3_measure {l : Launch} {D : va_G} {cI cL cZ cX cG : ClassId} (ad : Nat → Nat) (o : Nat) (o2 : Nat) (V : Nat → Int) (t : Int) (b : Int) (A : Nat → Int) (B : Nat → Int) (C : Nat → Int) (z : Nat) (pl : Nat) (hz : z ≤ 24) (hpl : 2 ≤ pl ∧ pl ≤ z + 2) : Ct l D (gT cI cL cZ cX cG) yX3_measure cX3_measure 10 none ({ frames := 0, cells := 0, slots := 0, locals := 0 }) [.ref (ad (o)), .ref (ad (o2)), iV (((pl : Nat) : Int))] ([lvoC0 cI cL cZ ad (o) (t) (b), i2600C0 cI cL cZ ad (o + 1) (V), ploC0 cI cL cZ ad (o2) (((z : Nat) : Int)), i26C0 cI cL cZ ad (o2 + 1) (A), i26C0 cI cL cZ ad (o2 + 2) (B), i26C0 cI cL cZ ad (o2 + 3) (C)]) (fun vv_ ww_ => ∃ (V2 : Nat → Int), (VolR A B C pl V2) ∧ vv_ = none ∧ ww_ = [lvoC0 cI cL cZ ad (o) (t) (b), i2600C0 cI cL cZ ad (o + 1) (V2), ploC0 cI cL cZ ad (o2) (((z : Nat) : Int)), i26C0 cI cL cZ ad (o2 + 1) (A), i26C0 cI cL cZ ad (o2 + 2) (B), i26C0 cI cL cZ ad (o2 + 3) (C)]) := by
  refine Ct.of (by decide) (Nat.le_of_ble_eq_true rfl) (fun G hG => ?_)
  show G 0 [(0, .ref (ad (o))), (1, .ref (ad (o2))), (2, iV (((pl : Nat) : Int)))] [] ([lvoC0 cI cL cZ ad (o) (t) (b), i2600C0 cI cL cZ ad (o + 1) (V), ploC0 cI cL cZ ad (o2) (((z : Nat) : Int)), i26C0 cI cL cZ ad (o2 + 1) (A), i26C0 cI cL cZ ad (o2 + 2) (B), i26C0 cI cL cZ ad (o2 + 3) (C)])
  refine g_iconst (pc := 0) hG dX3_measure_0 ?_
  refine g_istore_n (pc := 1) hG (by decide) (lv' := [(3, iV (0)), (0, .ref (ad (o))), (1, .ref (ad (o2))), (2, iV (((pl : Nat) : Int)))]) rfl dX3_measure_1 ?_
  refine g_iconst (pc := 2) hG dX3_measure_2 ?_
  refine g_istore (pc := 3) hG (by decide) (lv' := [(4, iV (2)), (3, iV (0)), (0, .ref (ad (o))), (1, .ref (ad (o2))), (2, iV (((pl : Nat) : Int)))]) rfl dX3_measure_3 ?_
  have L5 : ∀ (fu5 : Nat) (to : Nat) (k : Nat) (V9 : Nat → Int), pl - k < fu5 → (2 ≤ k ∧ k ≤ pl) → (to = t3 k) → (VolI A B C V9 k 0 0) → G 5 [(0, .ref (ad (o))), (1, .ref (ad (o2))), (2, iV (((pl : Nat) : Int))), (3, iV (((to : Nat) : Int))), (4, iV (((k : Nat) : Int)))] [] ([lvoC0 cI cL cZ ad (o) (t) (b), i2600C0 cI cL cZ ad (o + 1) (V9), ploC0 cI cL cZ ad (o2) (((z : Nat) : Int)), i26C0 cI cL cZ ad (o2 + 1) (A), i26C0 cI cL cZ ad (o2 + 2) (B), i26C0 cI cL cZ ad (o2 + 3) (C)]) := by
    intro fu5
    induction fu5 with
    | zero => intro to k V9 hm; exact absurd hm (Nat.not_lt_zero _)
    | succ fu5 ih5 =>
      intro to k V9 hm5 hk hto hv
      refine g_iload (pc := 5) hG 4 rfl dX3_measure_5 ?_
      refine g_iload_n (pc := 7) hG 2 rfl dX3_measure_7 ?_
      refine g_icmp_ge (pc := 8) hG (by omega) (by omega) (tgt := 189) (by decide) dX3_measure_8 (fun h8 => ?_) (fun h8 => ?_)
      · exact g_return (pc := 189) hG ⟨V9, hv.out (by omega), rfl, rfl⟩ dX3_measure_189
      · refine g_iconst (pc := 11) hG dX3_measure_11 ?_
        refine g_istore (pc := 12) hG (by decide) (lv' := [(5, iV (1)), (0, .ref (ad (o))), (1, .ref (ad (o2))), (2, iV (((pl : Nat) : Int))), (3, iV (((to : Nat) : Int))), (4, iV (((k : Nat) : Int)))]) rfl dX3_measure_12 ?_
        have L14 : ∀ (fu14 : Nat) (to2 : Nat) (j : Nat) (V8 : Nat → Int), k - j < fu14 → (1 ≤ j ∧ j ≤ k) → (to2 = t3 k + t2 j) → (VolI A B C V8 k j 0) → G 14 [(0, .ref (ad (o))), (1, .ref (ad (o2))), (2, iV (((pl : Nat) : Int))), (3, iV (((to2 : Nat) : Int))), (4, iV (((k : Nat) : Int))), (5, iV (((j : Nat) : Int)))] [] ([lvoC0 cI cL cZ ad (o) (t) (b), i2600C0 cI cL cZ ad (o + 1) (V8), ploC0 cI cL cZ ad (o2) (((z : Nat) : Int)), i26C0 cI cL cZ ad (o2 + 1) (A), i26C0 cI cL cZ ad (o2 + 2) (B), i26C0 cI cL cZ ad (o2 + 3) (C)]) := by
          intro fu14
          induction fu14 with
          | zero => intro to2 j V8 hm; exact absurd hm (Nat.not_lt_zero _)
          | succ fu14 ih14 =>
            intro to2 j V8 hm14 hj hto2 hv2
            refine g_iload (pc := 14) hG 5 rfl dX3_measure_14 ?_
            refine g_iload (pc := 16) hG 4 rfl dX3_measure_16 ?_
            refine g_icmp_ge (pc := 18) hG (by omega) (by omega) (tgt := 183) (by decide) dX3_measure_18 (fun h18 => ?_) (fun h18 => ?_)
            · refine g_iinc (pc := 183) hG 4 rfl (by decide) (lv' := [(4, iV ((((k : Nat) : Int)) + 1)), (0, .ref (ad (o))), (1, .ref (ad (o2))), (2, iV (((pl : Nat) : Int))), (3, iV (((to2 : Nat) : Int))), (5, iV (((j : Nat) : Int)))]) rfl dX3_measure_183 ?_
              refine g_goto (pc := 186) hG (tgt := 5) (by decide) dX3_measure_186 ?_
              exact g_lv (pc := 5) hG [1, 2, 3, 4, 0] rfl (ih5 to2 (k + 1) V8 (by omega) (by omega) (by rw [hto2, show j = k by omega]; rfl) (hv2.nextK (by omega)))
            · refine g_aload_n (pc := 21) hG 1 rfl dX3_measure_21 ?_
              refine g_get (pc := 22) hG fl3_39 2 rfl rfl dX3_measure_22 ?_
              refine g_iload (pc := 25) hG 5 rfl dX3_measure_25 ?_
              refine g_iaload (pc := 27) hG 4 j rfl rfl (by omega) (by omega) (by decide) dX3_measure_27 ?_
              refine g_aload_n (pc := 28) hG 1 rfl dX3_measure_28 ?_
              refine g_get (pc := 29) hG fl3_42 2 rfl rfl dX3_measure_29 ?_
              refine g_iload (pc := 32) hG 4 rfl dX3_measure_32 ?_
              refine g_iaload (pc := 34) hG 5 k rfl rfl (by omega) (by omega) (by decide) dX3_measure_34 ?_
              refine g_imul (pc := 35) hG dX3_measure_35 ?_
              refine g_aload_n (pc := 36) hG 1 rfl dX3_measure_36 ?_
              refine g_get (pc := 37) hG fl3_42 2 rfl rfl dX3_measure_37 ?_
              refine g_iload (pc := 40) hG 5 rfl dX3_measure_40 ?_
              refine g_iaload (pc := 42) hG 5 j rfl rfl (by omega) (by omega) (by decide) dX3_measure_42 ?_
              refine g_aload_n (pc := 43) hG 1 rfl dX3_measure_43 ?_
              refine g_get (pc := 44) hG fl3_39 2 rfl rfl dX3_measure_44 ?_
              refine g_iload (pc := 47) hG 4 rfl dX3_measure_47 ?_
              refine g_iaload (pc := 49) hG 4 k rfl rfl (by omega) (by omega) (by decide) dX3_measure_49 ?_
              refine g_imul (pc := 50) hG dX3_measure_50 ?_
              refine g_isub (pc := 51) hG dX3_measure_51 ?_
              refine g_nmI (pc := 52) hG (fun x52 ex52 => ?_)
              refine g_istore (pc := 52) hG (by decide) (lv' := [(6, iV (x52)), (0, .ref (ad (o))), (1, .ref (ad (o2))), (2, iV (((pl : Nat) : Int))), (3, iV (((to2 : Nat) : Int))), (4, iV (((k : Nat) : Int))), (5, iV (((j : Nat) : Int)))]) rfl dX3_measure_52 ?_
              refine g_aload_n (pc := 54) hG 2 rfl dX3_measure_54 ?_
              refine g_get (pc := 55) hG fl3_42 2 rfl rfl dX3_measure_55 ?_
              refine g_iload (pc := 58) hG 6 rfl dX3_measure_58 ?_
              refine g_iaload (pc := 60) hG 5 j rfl rfl (by omega) (by omega) (by decide) dX3_measure_60 ?_
              refine g_aload_n (pc := 61) hG 2 rfl dX3_measure_61 ?_
              refine g_get (pc := 62) hG fl3_45 2 rfl rfl dX3_measure_62 ?_
              refine g_iload (pc := 65) hG 5 rfl dX3_measure_65 ?_
              refine g_iaload (pc := 67) hG 3 k rfl rfl (by omega) (by omega) (by decide) dX3_measure_67 ?_
              refine g_imul (pc := 68) hG dX3_measure_68 ?_
              refine g_aload_n (pc := 69) hG 2 rfl dX3_measure_69 ?_
              refine g_get (pc := 70) hG fl3_45 2 rfl rfl dX3_measure_70 ?_
              refine g_iload (pc := 73) hG 6 rfl dX3_measure_73 ?_
              refine g_iaload (pc := 75) hG 3 j rfl rfl (by omega) (by omega) (by decide) dX3_measure_75 ?_
              refine g_aload_n (pc := 76) hG 2 rfl dX3_measure_76 ?_
              refine g_get (pc := 77) hG fl3_42 2 rfl rfl dX3_measure_77 ?_
              refine g_iload (pc := 80) hG 5 rfl dX3_measure_80 ?_
              refine g_iaload (pc := 82) hG 5 k rfl rfl (by omega) (by omega) (by decide) dX3_measure_82 ?_
              refine g_imul (pc := 83) hG dX3_measure_83 ?_
              refine g_isub (pc := 84) hG dX3_measure_84 ?_
              refine g_nmI (pc := 85) hG (fun x85 ex85 => ?_)
              refine g_istore (pc := 85) hG (by decide) (lv' := [(7, iV (x85)), (6, iV (x52)), (0, .ref (ad (o))), (1, .ref (ad (o2))), (2, iV (((pl : Nat) : Int))), (3, iV (((to2 : Nat) : Int))), (4, iV (((k : Nat) : Int))), (5, iV (((j : Nat) : Int)))]) rfl dX3_measure_85 ?_
              refine g_aload_n (pc := 87) hG 3 rfl dX3_measure_87 ?_
              refine g_get (pc := 88) hG fl3_45 2 rfl rfl dX3_measure_88 ?_
              refine g_iload (pc := 91) hG 7 rfl dX3_measure_91 ?_
              refine g_iaload (pc := 93) hG 3 j rfl rfl (by omega) (by omega) (by decide) dX3_measure_93 ?_
              refine g_aload_n (pc := 94) hG 3 rfl dX3_measure_94 ?_
              refine g_get (pc := 95) hG fl3_39 2 rfl rfl dX3_measure_95 ?_
              refine g_iload (pc := 98) hG 6 rfl dX3_measure_98 ?_
              refine g_iaload (pc := 100) hG 4 k rfl rfl (by omega) (by omega) (by decide) dX3_measure_100 ?_
              refine g_imul (pc := 101) hG dX3_measure_101 ?_
              refine g_aload_n (pc := 102) hG 3 rfl dX3_measure_102 ?_
              refine g_get (pc := 103) hG fl3_39 2 rfl rfl dX3_measure_103 ?_
              refine g_iload (pc := 106) hG 7 rfl dX3_measure_106 ?_
              refine g_iaload (pc := 108) hG 4 j rfl rfl (by omega) (by omega) (by decide) dX3_measure_108 ?_
              refine g_aload_n (pc := 109) hG 3 rfl dX3_measure_109 ?_
              refine g_get (pc := 110) hG fl3_45 2 rfl rfl dX3_measure_110 ?_
              refine g_iload (pc := 113) hG 6 rfl dX3_measure_113 ?_
              refine g_iaload (pc := 115) hG 3 k rfl rfl (by omega) (by omega) (by decide) dX3_measure_115 ?_
              refine g_imul (pc := 116) hG dX3_measure_116 ?_
              refine g_isub (pc := 117) hG dX3_measure_117 ?_
              refine g_nmI (pc := 118) hG (fun x118 ex118 => ?_)
              refine g_istore (pc := 118) hG (by decide) (lv' := [(8, iV (x118)), (7, iV (x85)), (6, iV (x52)), (0, .ref (ad (o))), (1, .ref (ad (o2))), (2, iV (((pl : Nat) : Int))), (3, iV (((to2 : Nat) : Int))), (4, iV (((k : Nat) : Int))), (5, iV (((j : Nat) : Int)))]) rfl dX3_measure_118 ?_
              refine g_iconst (pc := 120) hG dX3_measure_120 ?_
              refine g_istore (pc := 121) hG (by decide) (lv' := [(9, iV (0)), (8, iV (x118)), (7, iV (x85)), (6, iV (x52)), (0, .ref (ad (o))), (1, .ref (ad (o2))), (2, iV (((pl : Nat) : Int))), (3, iV (((to2 : Nat) : Int))), (4, iV (((k : Nat) : Int))), (5, iV (((j : Nat) : Int)))]) rfl dX3_measure_121 ?_
              have L123 : ∀ (fu123 : Nat) (to3 : Nat) (i : Nat) (V7 : Nat → Int), j - i < fu123 → (i ≤ j) → (to3 = t3 k + t2 j + i) → (VolI A B C V7 k j i) → G 123 [(0, .ref (ad (o))), (1, .ref (ad (o2))), (2, iV (((pl : Nat) : Int))), (3, iV (((to3 : Nat) : Int))), (4, iV (((k : Nat) : Int))), (5, iV (((j : Nat) : Int))), (6, iV (x52)), (7, iV (x85)), (8, iV (x118)), (9, iV (((i : Nat) : Int)))] [] ([lvoC0 cI cL cZ ad (o) (t) (b), i2600C0 cI cL cZ ad (o + 1) (V7), ploC0 cI cL cZ ad (o2) (((z : Nat) : Int)), i26C0 cI cL cZ ad (o2 + 1) (A), i26C0 cI cL cZ ad (o2 + 2) (B), i26C0 cI cL cZ ad (o2 + 3) (C)]) := by
                intro fu123
                induction fu123 with
                | zero => intro to3 i V7 hm; exact absurd hm (Nat.not_lt_zero _)
                | succ fu123 ih123 =>
                  intro to3 i V7 hm123 hi hto3 hv3
                  have hix : i < j → t3 k + t2 j + i < 2600 := fun h => ix_bd h (by omega) (by omega)
                  refine g_iload (pc := 123) hG 9 rfl dX3_measure_123 ?_
                  refine g_iload (pc := 125) hG 5 rfl dX3_measure_125 ?_
                  refine g_icmp_ge (pc := 127) hG (by omega) (by omega) (tgt := 177) (by decide) dX3_measure_127 (fun h127 => ?_) (fun h127 => ?_)
                  · refine g_iinc (pc := 177) hG 5 rfl (by decide) (lv' := [(5, iV ((((j : Nat) : Int)) + 1)), (0, .ref (ad (o))), (1, .ref (ad (o2))), (2, iV (((pl : Nat) : Int))), (3, iV (((to3 : Nat) : Int))), (4, iV (((k : Nat) : Int))), (6, iV (x52)), (7, iV (x85)), (8, iV (x118)), (9, iV (((i : Nat) : Int)))]) rfl dX3_measure_177 ?_
                    refine g_goto (pc := 180) hG (tgt := 14) (by decide) dX3_measure_180 ?_
                    exact g_lv (pc := 14) hG [1, 2, 3, 4, 5, 0] rfl (ih14 to3 (j + 1) V7 (by omega) (by omega) (by rw [hto3, show i = j by omega]; exact Nat.add_assoc ..) (hv3.next (by omega)))
                  · refine g_aload_n (pc := 130) hG 0 rfl dX3_measure_130 ?_
                    refine g_get (pc := 131) hG fl3_13 0 rfl rfl dX3_measure_131 ?_
                    refine g_iload_n (pc := 134) hG 3 rfl dX3_measure_134 ?_
                    refine g_aload_n (pc := 135) hG 1 rfl dX3_measure_135 ?_
                    refine g_get (pc := 136) hG fl3_45 2 rfl rfl dX3_measure_136 ?_
                    refine g_iload (pc := 139) hG 9 rfl dX3_measure_139 ?_
                    refine g_iaload (pc := 141) hG 3 i rfl rfl (by omega) (by omega) (by decide) dX3_measure_141 ?_
                    refine g_iload (pc := 142) hG 6 rfl dX3_measure_142 ?_
                    refine g_imul (pc := 144) hG dX3_measure_144 ?_
                    refine g_aload_n (pc := 145) hG 1 rfl dX3_measure_145 ?_
                    refine g_get (pc := 146) hG fl3_39 2 rfl rfl dX3_measure_146 ?_
                    refine g_iload (pc := 149) hG 9 rfl dX3_measure_149 ?_
                    refine g_iaload (pc := 151) hG 4 i rfl rfl (by omega) (by omega) (by decide) dX3_measure_151 ?_
                    refine g_iload (pc := 152) hG 7 rfl dX3_measure_152 ?_
                    refine g_imul (pc := 154) hG dX3_measure_154 ?_
                    refine g_iadd (pc := 155) hG dX3_measure_155 ?_
                    refine g_aload_n (pc := 156) hG 1 rfl dX3_measure_156 ?_
                    refine g_get (pc := 157) hG fl3_42 2 rfl rfl dX3_measure_157 ?_
                    refine g_iload (pc := 160) hG 9 rfl dX3_measure_160 ?_
                    refine g_iaload (pc := 162) hG 5 i rfl rfl (by omega) (by omega) (by decide) dX3_measure_162 ?_
                    refine g_iload (pc := 163) hG 8 rfl dX3_measure_163 ?_
                    refine g_imul (pc := 165) hG dX3_measure_165 ?_
                    refine g_iadd (pc := 166) hG dX3_measure_166 ?_
                    refine g_nmI (pc := 167) hG (fun x167 ex167 => ?_)
                    refine g_iastore (pc := 167) hG 1 to3 rfl rfl (by omega) (by omega) (by decide) (ws' := [lvoC0 cI cL cZ ad (o) (t) (b), i2600C0 cI cL cZ ad (o + 1) (upZ V7 to3 x167), ploC0 cI cL cZ ad (o2) (((z : Nat) : Int)), i26C0 cI cL cZ ad (o2 + 1) (A), i26C0 cI cL cZ ad (o2 + 2) (B), i26C0 cI cL cZ ad (o2 + 3) (C)]) rfl dX3_measure_167 ?_
                    refine g_iinc (pc := 168) hG 3 rfl (by decide) (lv' := [(3, iV ((((to3 : Nat) : Int)) + 1)), (0, .ref (ad (o))), (1, .ref (ad (o2))), (2, iV (((pl : Nat) : Int))), (4, iV (((k : Nat) : Int))), (5, iV (((j : Nat) : Int))), (6, iV (x52)), (7, iV (x85)), (8, iV (x118)), (9, iV (((i : Nat) : Int)))]) rfl dX3_measure_168 ?_
                    refine g_iinc (pc := 171) hG 9 rfl (by decide) (lv' := [(9, iV ((((i : Nat) : Int)) + 1)), (3, iV ((((to3 : Nat) : Int)) + 1)), (0, .ref (ad (o))), (1, .ref (ad (o2))), (2, iV (((pl : Nat) : Int))), (4, iV (((k : Nat) : Int))), (5, iV (((j : Nat) : Int))), (6, iV (x52)), (7, iV (x85)), (8, iV (x118))]) rfl dX3_measure_171 ?_
                    refine g_goto (pc := 174) hG (tgt := 123) (by decide) dX3_measure_174 ?_
                    exact g_lv (pc := 123) hG [2, 3, 4, 1, 5, 6, 7, 8, 9, 0] rfl (ih123 (to3 + 1) (i + 1) (upZ V7 to3 x167) (by omega) (by omega) (by omega) (by rw [hto3]; exact hv3.step (by omega) (by omega) (by rw [ex167, ex52, ex85, ex118]; rfl)))
              exact g_lv (pc := 123) hG [4, 5, 6, 7, 8, 9, 3, 2, 1, 0] rfl (L123 _ to2 0 V8 (Nat.lt_succ_self _) (by omega) (hto2) (hv2))
        exact g_lv (pc := 14) hG [1, 2, 3, 4, 5, 0] rfl (L14 _ to 1 V9 (Nat.lt_succ_self _) (by omega) (hto) (hv.nextJ))
  exact g_lv (pc := 5) hG [2, 3, 4, 1, 0] rfl (L5 _ 0 2 V (Nat.lt_succ_self _) (by omega) (rfl) (VolI.init))
set_option maxHeartbeats 4000000 in
set_option maxRecDepth 100000 in
theorem c_X3_raise {l : Launch} {D : va_G} {cI cL cZ cX cG : ClassId} (ad : Nat → Nat) (o : Nat) (o2 : Nat) (V : Nat → Int) (t : Int) (b : Int) (A : Nat → Int) (B : Nat → Int) (C : Nat → Int) (T : Nat → Int) (z : Nat) (pl : Nat) (j : Nat) (k : Nat) (l9 : Nat) (dn : Nat → Nat → Nat → Nat → Prop) (hz : z ≤ 24) (hB : PlB A B C T z) (hpl : pl ≤ z + 2) (hV : VolR A B C pl V) (hj : j < k ∧ k < l9 ∧ l9 < pl) (hL : LvS A B C T dn t b) : Ct l D (gT cI cL cZ cX cG) yX3_raise cX3_raise 22 none ({ frames := 1, cells := 0, slots := 0, locals := 40 }) [.ref (ad (o)), .ref (ad (o2)), iV (((j : Nat) : Int)), iV (((k : Nat) : Int)), iV (((l9 : Nat) : Int))] ([lvoC0 cI cL cZ ad (o) (t) (b), i2600C0 cI cL cZ ad (o + 1) (V), i26C0 cI cL cZ ad (o2) (T)]) (fun vv_ ww_ => ∃ (tt : Int), ∃ (bb : Int), (LvS A B C T (fun i1 j1 k1 l1 => dn i1 j1 k1 l1 ∨ (j1 = j ∧ k1 = k ∧ l1 = l9 ∧ i1 < j)) tt bb) ∧ vv_ = none ∧ ww_ = [lvoC0 cI cL cZ ad (o) (tt) (bb), i2600C0 cI cL cZ ad (o + 1) (V), i26C0 cI cL cZ ad (o2) (T)]) := by
  refine Ct.of (by decide) (Nat.le_of_ble_eq_true rfl) (fun G hG => ?_)
  show G 0 [(0, .ref (ad (o))), (1, .ref (ad (o2))), (2, iV (((j : Nat) : Int))), (3, iV (((k : Nat) : Int))), (4, iV (((l9 : Nat) : Int)))] [] ([lvoC0 cI cL cZ ad (o) (t) (b), i2600C0 cI cL cZ ad (o + 1) (V), i26C0 cI cL cZ ad (o2) (T)])
  refine g_aload_n (pc := 0) hG 0 rfl dX3_raise_0 ?_
  refine g_get (pc := 1) hG fl3_13 0 rfl rfl dX3_raise_1 ?_
  refine g_astore (pc := 4) hG (by decide) (lv' := [(5, .ref (ad (o + 1))), (0, .ref (ad (o))), (1, .ref (ad (o2))), (2, iV (((j : Nat) : Int))), (3, iV (((k : Nat) : Int))), (4, iV (((l9 : Nat) : Int)))]) rfl dX3_raise_4 ?_
  refine g_iload_n (pc := 6) hG 4 rfl dX3_raise_6 ?_
  refine g_callP (pc := 7) hG (As := [iV (((k : Nat) : Int))]) (rest := []) (c_X3_threesBelow (l := l) (D := D) (cI := cI) (cL := cL) (cZ := cZ) (cX := cX) (cG := cG) k (by omega)) cs3_48 ⟨rfl, rfl⟩ ⟨Nat.le_of_ble_eq_true rfl, Nat.le_of_ble_eq_true rfl⟩ rfl rfl (Nat.le_of_ble_eq_true rfl) dX3_raise_7 (fun v h => ?_)
  obtain ⟨rfl, -⟩ := h
  show G 10 [(5, .ref (ad (o + 1))), (0, .ref (ad (o))), (1, .ref (ad (o2))), (2, iV (((j : Nat) : Int))), (3, iV (((k : Nat) : Int))), (4, iV (((l9 : Nat) : Int)))] [iV (((t3 k : Nat) : Int))] ([lvoC0 cI cL cZ ad (o) (t) (b), i2600C0 cI cL cZ ad (o + 1) (V), i26C0 cI cL cZ ad (o2) (T)])
  refine g_iload_n (pc := 10) hG 3 rfl dX3_raise_10 ?_
  refine g_callP (pc := 11) hG (As := [iV (((j : Nat) : Int))]) (rest := [iV (((t3 k : Nat) : Int))]) (c_X3_twosBelow (l := l) (D := D) (cI := cI) (cL := cL) (cZ := cZ) (cX := cX) (cG := cG) j (by omega)) cs3_52 ⟨rfl, rfl⟩ ⟨Nat.le_of_ble_eq_true rfl, Nat.le_of_ble_eq_true rfl⟩ rfl rfl (Nat.le_of_ble_eq_true rfl) dX3_raise_11 (fun v h => ?_)
  obtain ⟨rfl, -⟩ := h
  show G 14 [(5, .ref (ad (o + 1))), (0, .ref (ad (o))), (1, .ref (ad (o2))), (2, iV (((j : Nat) : Int))), (3, iV (((k : Nat) : Int))), (4, iV (((l9 : Nat) : Int)))] [iV (((t2 j : Nat) : Int)), iV (((t3 k : Nat) : Int))] ([lvoC0 cI cL cZ ad (o) (t) (b), i2600C0 cI cL cZ ad (o + 1) (V), i26C0 cI cL cZ ad (o2) (T)])
  refine g_iadd (pc := 14) hG dX3_raise_14 ?_
  refine g_istore (pc := 15) hG (by decide) (lv' := [(6, iV ((((t3 k) + (t2 j) : Nat) : Int))), (5, .ref (ad (o + 1))), (0, .ref (ad (o))), (1, .ref (ad (o2))), (2, iV (((j : Nat) : Int))), (3, iV (((k : Nat) : Int))), (4, iV (((l9 : Nat) : Int)))]) rfl dX3_raise_15 ?_
  refine g_iload (pc := 17) hG 6 rfl dX3_raise_17 ?_
  refine g_callP (pc := 19) hG (As := [iV (((l9 : Nat) : Int))]) (rest := []) (c_X3_threesBelow (l := l) (D := D) (cI := cI) (cL := cL) (cZ := cZ) (cX := cX) (cG := cG) l9 (by omega)) cs3_48 ⟨rfl, rfl⟩ ⟨Nat.le_of_ble_eq_true rfl, Nat.le_of_ble_eq_true rfl⟩ rfl rfl (Nat.le_of_ble_eq_true rfl) dX3_raise_19 (fun v h => ?_)
  obtain ⟨rfl, -⟩ := h
  show G 22 [(6, iV ((((t3 k) + (t2 j) : Nat) : Int))), (5, .ref (ad (o + 1))), (0, .ref (ad (o))), (1, .ref (ad (o2))), (2, iV (((j : Nat) : Int))), (3, iV (((k : Nat) : Int))), (4, iV (((l9 : Nat) : Int)))] [iV (((t3 l9 : Nat) : Int))] ([lvoC0 cI cL cZ ad (o) (t) (b), i2600C0 cI cL cZ ad (o + 1) (V), i26C0 cI cL cZ ad (o2) (T)])
  refine g_iload_n (pc := 22) hG 4 rfl dX3_raise_22 ?_
  refine g_callP (pc := 23) hG (As := [iV (((j : Nat) : Int))]) (rest := [iV (((t3 l9 : Nat) : Int))]) (c_X3_twosBelow (l := l) (D := D) (cI := cI) (cL := cL) (cZ := cZ) (cX := cX) (cG := cG) j (by omega)) cs3_52 ⟨rfl, rfl⟩ ⟨Nat.le_of_ble_eq_true rfl, Nat.le_of_ble_eq_true rfl⟩ rfl rfl (Nat.le_of_ble_eq_true rfl) dX3_raise_23 (fun v h => ?_)
  obtain ⟨rfl, -⟩ := h
  show G 26 [(6, iV ((((t3 k) + (t2 j) : Nat) : Int))), (5, .ref (ad (o + 1))), (0, .ref (ad (o))), (1, .ref (ad (o2))), (2, iV (((j : Nat) : Int))), (3, iV (((k : Nat) : Int))), (4, iV (((l9 : Nat) : Int)))] [iV (((t2 j : Nat) : Int)), iV (((t3 l9 : Nat) : Int))] ([lvoC0 cI cL cZ ad (o) (t) (b), i2600C0 cI cL cZ ad (o + 1) (V), i26C0 cI cL cZ ad (o2) (T)])
  refine g_iadd (pc := 26) hG dX3_raise_26 ?_
  refine g_istore (pc := 27) hG (by decide) (lv' := [(7, iV ((((t3 l9) + (t2 j) : Nat) : Int))), (6, iV ((((t3 k) + (t2 j) : Nat) : Int))), (5, .ref (ad (o + 1))), (0, .ref (ad (o))), (1, .ref (ad (o2))), (2, iV (((j : Nat) : Int))), (3, iV (((k : Nat) : Int))), (4, iV (((l9 : Nat) : Int)))]) rfl dX3_raise_27 ?_
  refine g_iload (pc := 29) hG 7 rfl dX3_raise_29 ?_
  refine g_callP (pc := 31) hG (As := [iV (((l9 : Nat) : Int))]) (rest := []) (c_X3_threesBelow (l := l) (D := D) (cI := cI) (cL := cL) (cZ := cZ) (cX := cX) (cG := cG) l9 (by omega)) cs3_48 ⟨rfl, rfl⟩ ⟨Nat.le_of_ble_eq_true rfl, Nat.le_of_ble_eq_true rfl⟩ rfl rfl (Nat.le_of_ble_eq_true rfl) dX3_raise_31 (fun v h => ?_)
  obtain ⟨rfl, -⟩ := h
  show G 34 [(7, iV ((((t3 l9) + (t2 j) : Nat) : Int))), (6, iV ((((t3 k) + (t2 j) : Nat) : Int))), (5, .ref (ad (o + 1))), (0, .ref (ad (o))), (1, .ref (ad (o2))), (2, iV (((j : Nat) : Int))), (3, iV (((k : Nat) : Int))), (4, iV (((l9 : Nat) : Int)))] [iV (((t3 l9 : Nat) : Int))] ([lvoC0 cI cL cZ ad (o) (t) (b), i2600C0 cI cL cZ ad (o + 1) (V), i26C0 cI cL cZ ad (o2) (T)])
  refine g_iload_n (pc := 34) hG 6 rfl dX3_raise_34 ?_
  refine g_callP (pc := 35) hG (As := [iV (((k : Nat) : Int))]) (rest := [iV (((t3 l9 : Nat) : Int))]) (c_X3_twosBelow (l := l) (D := D) (cI := cI) (cL := cL) (cZ := cZ) (cX := cX) (cG := cG) k (by omega)) cs3_52 ⟨rfl, rfl⟩ ⟨Nat.le_of_ble_eq_true rfl, Nat.le_of_ble_eq_true rfl⟩ rfl rfl (Nat.le_of_ble_eq_true rfl) dX3_raise_35 (fun v h => ?_)
  obtain ⟨rfl, -⟩ := h
  show G 38 [(7, iV ((((t3 l9) + (t2 j) : Nat) : Int))), (6, iV ((((t3 k) + (t2 j) : Nat) : Int))), (5, .ref (ad (o + 1))), (0, .ref (ad (o))), (1, .ref (ad (o2))), (2, iV (((j : Nat) : Int))), (3, iV (((k : Nat) : Int))), (4, iV (((l9 : Nat) : Int)))] [iV (((t2 k : Nat) : Int)), iV (((t3 l9 : Nat) : Int))] ([lvoC0 cI cL cZ ad (o) (t) (b), i2600C0 cI cL cZ ad (o + 1) (V), i26C0 cI cL cZ ad (o2) (T)])
  refine g_iadd (pc := 38) hG dX3_raise_38 ?_
  refine g_istore (pc := 39) hG (by decide) (lv' := [(8, iV ((((t3 l9) + (t2 k) : Nat) : Int))), (7, iV ((((t3 l9) + (t2 j) : Nat) : Int))), (6, iV ((((t3 k) + (t2 j) : Nat) : Int))), (5, .ref (ad (o + 1))), (0, .ref (ad (o))), (1, .ref (ad (o2))), (2, iV (((j : Nat) : Int))), (3, iV (((k : Nat) : Int))), (4, iV (((l9 : Nat) : Int)))]) rfl dX3_raise_39 ?_
  have hx1 := ix_bd (i := j) (j := k) (k := l9) (by omega) (by omega) (by omega)
  refine g_aload (pc := 41) hG 3 rfl dX3_raise_41 ?_
  refine g_iload (pc := 43) hG 0 rfl dX3_raise_43 ?_
  refine g_iload_n (pc := 45) hG 6 rfl dX3_raise_45 ?_
  refine g_iadd (pc := 46) hG dX3_raise_46 ?_
  refine g_iaload (pc := 47) hG 1 (((t3 l9) + (t2 k)) + j) rfl rfl (by omega) (by omega) (by decide) dX3_raise_47 ?_
  refine g_nmI (pc := 48) hG (fun x48 ex48 => ?_)
  refine g_istore (pc := 48) hG (by decide) (lv' := [(9, iV (x48)), (8, iV ((((t3 l9) + (t2 k) : Nat) : Int))), (7, iV ((((t3 l9) + (t2 j) : Nat) : Int))), (6, iV ((((t3 k) + (t2 j) : Nat) : Int))), (5, .ref (ad (o + 1))), (0, .ref (ad (o))), (1, .ref (ad (o2))), (2, iV (((j : Nat) : Int))), (3, iV (((k : Nat) : Int))), (4, iV (((l9 : Nat) : Int)))]) rfl dX3_raise_48 ?_
  have hf48 : x48 = dvZ A B C j k l9 := by rw [ex48]; exact hV j k l9 (by omega) (by omega) (by omega)
  have hb48 := dv_bd hB (show j < z + 2 by omega) (show k < z + 2 by omega) (show l9 < z + 2 by omega)
  rw [← hf48] at hb48
  refine g_iload (pc := 50) hG 0 rfl dX3_raise_50 ?_
  refine g_iabs (pc := 52) hG ⟨(inB wd_639 rfl), (inB wd_640 rfl), (inB wd_61 rfl), (inB wd_641 rfl)⟩ ⟨Nat.le_of_ble_eq_true rfl, Nat.le_of_ble_eq_true rfl⟩ (by omega) dX3_raise_52 ?_
  refine g_nmI (pc := 55) hG (fun x55 ex55 => ?_)
  refine g_istore (pc := 55) hG (by decide) (lv' := [(10, iV (x55)), (9, iV (x48)), (8, iV ((((t3 l9) + (t2 k) : Nat) : Int))), (7, iV ((((t3 l9) + (t2 j) : Nat) : Int))), (6, iV ((((t3 k) + (t2 j) : Nat) : Int))), (5, .ref (ad (o + 1))), (0, .ref (ad (o))), (1, .ref (ad (o2))), (2, iV (((j : Nat) : Int))), (3, iV (((k : Nat) : Int))), (4, iV (((l9 : Nat) : Int)))]) rfl dX3_raise_55 ?_
  obtain ⟨-, -, -, tj⟩ := hB j (by omega)
  obtain ⟨-, -, -, tk⟩ := hB k (by omega)
  obtain ⟨-, -, -, tl⟩ := hB l9 (by omega)
  refine g_aload_n (pc := 57) hG 7 rfl dX3_raise_57 ?_
  refine g_iload_n (pc := 58) hG 8 rfl dX3_raise_58 ?_
  refine g_iaload (pc := 59) hG 2 j rfl rfl (by omega) (by omega) (by decide) dX3_raise_59 ?_
  refine g_istore (pc := 60) hG (by decide) (lv' := [(11, iV (T j)), (10, iV (x55)), (9, iV (x48)), (8, iV ((((t3 l9) + (t2 k) : Nat) : Int))), (7, iV ((((t3 l9) + (t2 j) : Nat) : Int))), (6, iV ((((t3 k) + (t2 j) : Nat) : Int))), (5, .ref (ad (o + 1))), (0, .ref (ad (o))), (1, .ref (ad (o2))), (2, iV (((j : Nat) : Int))), (3, iV (((k : Nat) : Int))), (4, iV (((l9 : Nat) : Int)))]) rfl dX3_raise_60 ?_
  refine g_aload_n (pc := 62) hG 8 rfl dX3_raise_62 ?_
  refine g_iload_n (pc := 63) hG 10 rfl dX3_raise_63 ?_
  refine g_iaload (pc := 64) hG 2 k rfl rfl (by omega) (by omega) (by decide) dX3_raise_64 ?_
  refine g_istore (pc := 65) hG (by decide) (lv' := [(12, iV (T k)), (11, iV (T j)), (10, iV (x55)), (9, iV (x48)), (8, iV ((((t3 l9) + (t2 k) : Nat) : Int))), (7, iV ((((t3 l9) + (t2 j) : Nat) : Int))), (6, iV ((((t3 k) + (t2 j) : Nat) : Int))), (5, .ref (ad (o + 1))), (0, .ref (ad (o))), (1, .ref (ad (o2))), (2, iV (((j : Nat) : Int))), (3, iV (((k : Nat) : Int))), (4, iV (((l9 : Nat) : Int)))]) rfl dX3_raise_65 ?_
  refine g_aload_n (pc := 67) hG 9 rfl dX3_raise_67 ?_
  refine g_iload (pc := 68) hG 12 rfl dX3_raise_68 ?_
  refine g_iaload (pc := 70) hG 2 l9 rfl rfl (by omega) (by omega) (by decide) dX3_raise_70 ?_
  refine g_istore (pc := 71) hG (by decide) (lv' := [(13, iV (T l9)), (12, iV (T k)), (11, iV (T j)), (10, iV (x55)), (9, iV (x48)), (8, iV ((((t3 l9) + (t2 k) : Nat) : Int))), (7, iV ((((t3 l9) + (t2 j) : Nat) : Int))), (6, iV ((((t3 k) + (t2 j) : Nat) : Int))), (5, .ref (ad (o + 1))), (0, .ref (ad (o))), (1, .ref (ad (o2))), (2, iV (((j : Nat) : Int))), (3, iV (((k : Nat) : Int))), (4, iV (((l9 : Nat) : Int)))]) rfl dX3_raise_71 ?_
  refine g_iconst (pc := 73) hG dX3_raise_73 ?_
  refine g_istore (pc := 74) hG (by decide) (lv' := [(14, iV (0)), (13, iV (T l9)), (12, iV (T k)), (11, iV (T j)), (10, iV (x55)), (9, iV (x48)), (8, iV ((((t3 l9) + (t2 k) : Nat) : Int))), (7, iV ((((t3 l9) + (t2 j) : Nat) : Int))), (6, iV ((((t3 k) + (t2 j) : Nat) : Int))), (5, .ref (ad (o + 1))), (0, .ref (ad (o))), (1, .ref (ad (o2))), (2, iV (((j : Nat) : Int))), (3, iV (((k : Nat) : Int))), (4, iV (((l9 : Nat) : Int)))]) rfl dX3_raise_74 ?_
  have L76 : ∀ (fu76 : Nat) (i : Nat) (t9 : Int) (b9 : Int), j - i < fu76 → (i ≤ j) → (LvS A B C T (fun i1 j1 k1 l1 => dn i1 j1 k1 l1 ∨ (j1 = j ∧ k1 = k ∧ l1 = l9 ∧ i1 < i)) t9 b9) → G 76 [(0, .ref (ad (o))), (1, .ref (ad (o2))), (2, iV (((j : Nat) : Int))), (3, iV (((k : Nat) : Int))), (4, iV (((l9 : Nat) : Int))), (5, .ref (ad (o + 1))), (6, iV (((t3 k + t2 j : Nat) : Int))), (7, iV (((t3 l9 + t2 j : Nat) : Int))), (8, iV (((t3 l9 + t2 k : Nat) : Int))), (9, iV (x48)), (10, iV (x55)), (11, iV (T j)), (12, iV (T k)), (13, iV (T l9)), (14, iV (((i : Nat) : Int)))] [] ([lvoC0 cI cL cZ ad (o) (t9) (b9), i2600C0 cI cL cZ ad (o + 1) (V), i26C0 cI cL cZ ad (o2) (T)]) := by
    intro fu76
    induction fu76 with
    | zero => intro i t9 b9 hm; exact absurd hm (Nat.not_lt_zero _)
    | succ fu76 ih76 =>
      intro i t9 b9 hm76 hi hI
      refine g_iload (pc := 76) hG 14 rfl dX3_raise_76 ?_
      refine g_iload_n (pc := 78) hG 2 rfl dX3_raise_78 ?_
      refine g_icmp_ge (pc := 79) hG (by omega) (by omega) (tgt := 202) (by decide) dX3_raise_79 (fun h79 => ?_) (fun h79 => ?_)
      · exact g_return (pc := 202) hG ⟨t9, b9, hI.congr (fun i1 j1 k1 l1 => by rw [show i = j by omega]), rfl, rfl⟩ dX3_raise_202
      · have hx2 := ix_bd (i := i) (j := k) (k := l9) (by omega) (by omega) (by omega)
        have hx3 := ix_bd (i := i) (j := j) (k := l9) (by omega) (by omega) (by omega)
        have hx4 := ix_bd (i := i) (j := j) (k := k) (by omega) (by omega) (by omega)
        obtain ⟨-, -, -, ti⟩ := hB i (by omega)
        refine g_aload (pc := 82) hG 5 rfl dX3_raise_82 ?_
        refine g_iload (pc := 84) hG 8 rfl dX3_raise_84 ?_
        refine g_iload (pc := 86) hG 14 rfl dX3_raise_86 ?_
        refine g_iadd (pc := 88) hG dX3_raise_88 ?_
        refine g_iaload (pc := 89) hG 1 ((t3 l9 + t2 k) + i) rfl rfl (by omega) (by omega) (by decide) dX3_raise_89 ?_
        refine g_nmI (pc := 90) hG (fun x90 ex90 => ?_)
        refine g_istore (pc := 90) hG (by decide) (lv' := [(15, iV (x90)), (0, .ref (ad (o))), (1, .ref (ad (o2))), (2, iV (((j : Nat) : Int))), (3, iV (((k : Nat) : Int))), (4, iV (((l9 : Nat) : Int))), (5, .ref (ad (o + 1))), (6, iV (((t3 k + t2 j : Nat) : Int))), (7, iV (((t3 l9 + t2 j : Nat) : Int))), (8, iV (((t3 l9 + t2 k : Nat) : Int))), (9, iV (x48)), (10, iV (x55)), (11, iV (T j)), (12, iV (T k)), (13, iV (T l9)), (14, iV (((i : Nat) : Int)))]) rfl dX3_raise_90 ?_
        refine g_aload (pc := 92) hG 6 rfl dX3_raise_92 ?_
        refine g_iload (pc := 94) hG 8 rfl dX3_raise_94 ?_
        refine g_iload (pc := 96) hG 15 rfl dX3_raise_96 ?_
        refine g_iadd (pc := 98) hG dX3_raise_98 ?_
        refine g_iaload (pc := 99) hG 1 ((t3 l9 + t2 j) + i) rfl rfl (by omega) (by omega) (by decide) dX3_raise_99 ?_
        refine g_nmI (pc := 100) hG (fun x100 ex100 => ?_)
        refine g_istore (pc := 100) hG (by decide) (lv' := [(16, iV (x100)), (15, iV (x90)), (0, .ref (ad (o))), (1, .ref (ad (o2))), (2, iV (((j : Nat) : Int))), (3, iV (((k : Nat) : Int))), (4, iV (((l9 : Nat) : Int))), (5, .ref (ad (o + 1))), (6, iV (((t3 k + t2 j : Nat) : Int))), (7, iV (((t3 l9 + t2 j : Nat) : Int))), (8, iV (((t3 l9 + t2 k : Nat) : Int))), (9, iV (x48)), (10, iV (x55)), (11, iV (T j)), (12, iV (T k)), (13, iV (T l9)), (14, iV (((i : Nat) : Int)))]) rfl dX3_raise_100 ?_
        refine g_aload (pc := 102) hG 7 rfl dX3_raise_102 ?_
        refine g_iload (pc := 104) hG 8 rfl dX3_raise_104 ?_
        refine g_iload (pc := 106) hG 16 rfl dX3_raise_106 ?_
        refine g_iadd (pc := 108) hG dX3_raise_108 ?_
        refine g_iaload (pc := 109) hG 1 ((t3 k + t2 j) + i) rfl rfl (by omega) (by omega) (by decide) dX3_raise_109 ?_
        refine g_nmI (pc := 110) hG (fun x110 ex110 => ?_)
        refine g_istore (pc := 110) hG (by decide) (lv' := [(17, iV (x110)), (16, iV (x100)), (15, iV (x90)), (0, .ref (ad (o))), (1, .ref (ad (o2))), (2, iV (((j : Nat) : Int))), (3, iV (((k : Nat) : Int))), (4, iV (((l9 : Nat) : Int))), (5, .ref (ad (o + 1))), (6, iV (((t3 k + t2 j : Nat) : Int))), (7, iV (((t3 l9 + t2 j : Nat) : Int))), (8, iV (((t3 l9 + t2 k : Nat) : Int))), (9, iV (x48)), (10, iV (x55)), (11, iV (T j)), (12, iV (T k)), (13, iV (T l9)), (14, iV (((i : Nat) : Int)))]) rfl dX3_raise_110 ?_
        have hf90 : x90 = dvZ A B C i k l9 := by rw [ex90]; exact hV i k l9 (by omega) (by omega) (by omega)
        have hb90 := dv_bd hB (show i < z + 2 by omega) (show k < z + 2 by omega) (show l9 < z + 2 by omega)
        rw [← hf90] at hb90
        have hf100 : x100 = dvZ A B C i j l9 := by rw [ex100]; exact hV i j l9 (by omega) (by omega) (by omega)
        have hb100 := dv_bd hB (show i < z + 2 by omega) (show j < z + 2 by omega) (show l9 < z + 2 by omega)
        rw [← hf100] at hb100
        have hf110 : x110 = dvZ A B C i j k := by rw [ex110]; exact hV i j k (by omega) (by omega) (by omega)
        have hb110 := dv_bd hB (show i < z + 2 by omega) (show j < z + 2 by omega) (show k < z + 2 by omega)
        rw [← hf110] at hb110
        have m1 := mul_bd ti hb48
        have m2 := mul_bd tj hb90
        have m3 := mul_bd tk hb100
        have m4 := mul_bd tl hb110
        refine g_aload_n (pc := 112) hG 4 rfl dX3_raise_112 ?_
        refine g_iload (pc := 113) hG 17 rfl dX3_raise_113 ?_
        refine g_iaload (pc := 115) hG 2 i rfl rfl (by omega) (by omega) (by decide) dX3_raise_115 ?_
        refine g_iload (pc := 116) hG 12 rfl dX3_raise_116 ?_
        refine g_imul (pc := 118) hG dX3_raise_118 ?_
        refine g_iload (pc := 119) hG 14 rfl dX3_raise_119 ?_
        refine g_iload (pc := 121) hG 2 rfl dX3_raise_121 ?_
        refine g_imul (pc := 123) hG dX3_raise_123 ?_
        refine g_isub (pc := 124) hG dX3_raise_124 ?_
        refine g_iload (pc := 125) hG 15 rfl dX3_raise_125 ?_
        refine g_iload (pc := 127) hG 1 rfl dX3_raise_127 ?_
        refine g_imul (pc := 129) hG dX3_raise_129 ?_
        refine g_iadd (pc := 130) hG dX3_raise_130 ?_
        refine g_iload (pc := 131) hG 16 rfl dX3_raise_131 ?_
        refine g_iload (pc := 133) hG 0 rfl dX3_raise_133 ?_
        refine g_imul (pc := 135) hG dX3_raise_135 ?_
        refine g_isub (pc := 136) hG dX3_raise_136 ?_
        refine g_iabs (pc := 137) hG ⟨(inB wd_639 rfl), (inB wd_640 rfl), (inB wd_61 rfl), (inB wd_641 rfl)⟩ ⟨Nat.le_of_ble_eq_true rfl, Nat.le_of_ble_eq_true rfl⟩ (by omega) dX3_raise_137 ?_
        refine g_i2l (pc := 140) hG (by omega) dX3_raise_140 ?_
        refine g_nmL (pc := 141) hG (fun x141 ex141 => ?_)
        refine g_lstore (pc := 141) hG (by decide) (lv' := [(18, lV (x141)), (17, iV (x110)), (16, iV (x100)), (15, iV (x90)), (0, .ref (ad (o))), (1, .ref (ad (o2))), (2, iV (((j : Nat) : Int))), (3, iV (((k : Nat) : Int))), (4, iV (((l9 : Nat) : Int))), (5, .ref (ad (o + 1))), (6, iV (((t3 k + t2 j : Nat) : Int))), (7, iV (((t3 l9 + t2 j : Nat) : Int))), (8, iV (((t3 l9 + t2 k : Nat) : Int))), (9, iV (x48)), (10, iV (x55)), (11, iV (T j)), (12, iV (T k)), (13, iV (T l9)), (14, iV (((i : Nat) : Int)))]) rfl dX3_raise_141 ?_
        refine g_iload (pc := 143) hG 14 rfl dX3_raise_143 ?_
        refine g_iload (pc := 145) hG 3 rfl dX3_raise_145 ?_
        refine g_iabs (pc := 147) hG ⟨(inB wd_639 rfl), (inB wd_640 rfl), (inB wd_61 rfl), (inB wd_641 rfl)⟩ ⟨Nat.le_of_ble_eq_true rfl, Nat.le_of_ble_eq_true rfl⟩ (by omega) dX3_raise_147 ?_
        refine g_iadd (pc := 150) hG dX3_raise_150 ?_
        refine g_iload (pc := 151) hG 2 rfl dX3_raise_151 ?_
        refine g_iabs (pc := 153) hG ⟨(inB wd_639 rfl), (inB wd_640 rfl), (inB wd_61 rfl), (inB wd_641 rfl)⟩ ⟨Nat.le_of_ble_eq_true rfl, Nat.le_of_ble_eq_true rfl⟩ (by omega) dX3_raise_153 ?_
        refine g_iadd (pc := 156) hG dX3_raise_156 ?_
        refine g_iload (pc := 157) hG 1 rfl dX3_raise_157 ?_
        refine g_iabs (pc := 159) hG ⟨(inB wd_639 rfl), (inB wd_640 rfl), (inB wd_61 rfl), (inB wd_641 rfl)⟩ ⟨Nat.le_of_ble_eq_true rfl, Nat.le_of_ble_eq_true rfl⟩ (by omega) dX3_raise_159 ?_
        refine g_iadd (pc := 162) hG dX3_raise_162 ?_
        refine g_i2l (pc := 163) hG (by omega) dX3_raise_163 ?_
        refine g_nmL (pc := 164) hG (fun x164 ex164 => ?_)
        refine g_lstore (pc := 164) hG (by decide) (lv' := [(20, lV (x164)), (18, lV (x141)), (17, iV (x110)), (16, iV (x100)), (15, iV (x90)), (0, .ref (ad (o))), (1, .ref (ad (o2))), (2, iV (((j : Nat) : Int))), (3, iV (((k : Nat) : Int))), (4, iV (((l9 : Nat) : Int))), (5, .ref (ad (o + 1))), (6, iV (((t3 k + t2 j : Nat) : Int))), (7, iV (((t3 l9 + t2 j : Nat) : Int))), (8, iV (((t3 l9 + t2 k : Nat) : Int))), (9, iV (x48)), (10, iV (x55)), (11, iV (T j)), (12, iV (T k)), (13, iV (T l9)), (14, iV (((i : Nat) : Int)))]) rfl dX3_raise_164 ?_
        refine g_lload (pc := 166) hG 1 rfl dX3_raise_166 ?_
        refine g_aload_n (pc := 168) hG 5 rfl dX3_raise_168 ?_
        refine g_get (pc := 169) hG fl3_29 0 rfl rfl dX3_raise_169 ?_
        refine g_lmul (pc := 172) hG dX3_raise_172 ?_
        refine g_aload_n (pc := 173) hG 5 rfl dX3_raise_173 ?_
        refine g_get (pc := 174) hG fl3_25 0 rfl rfl dX3_raise_174 ?_
        refine g_lload (pc := 177) hG 0 rfl dX3_raise_177 ?_
        refine g_lmul (pc := 179) hG dX3_raise_179 ?_
        have hlb := hI.1
        have m5 := mul_bd (a := x141) (b := b9) (A := 1732104) (B := 17496) (by omega) (by omega)
        have m6 := mul_bd (a := t9) (b := x164) (A := 1732104) (B := 17496) (by omega) (by omega)
        have J196 : ∀ (j196lvo0t : Int) (j196lvo0b : Int), (((x141 * b9 ≤ t9 * x164) ∧ j196lvo0t = t9 ∧ j196lvo0b = b9) ∨ ((¬ x141 * b9 ≤ t9 * x164) ∧ j196lvo0t = x141 ∧ j196lvo0b = x164)) → G 196 [(0, .ref (ad (o))), (1, .ref (ad (o2))), (2, iV (((j : Nat) : Int))), (3, iV (((k : Nat) : Int))), (4, iV (((l9 : Nat) : Int))), (5, .ref (ad (o + 1))), (6, iV (((t3 k + t2 j : Nat) : Int))), (7, iV (((t3 l9 + t2 j : Nat) : Int))), (8, iV (((t3 l9 + t2 k : Nat) : Int))), (9, iV (x48)), (10, iV (x55)), (11, iV (T j)), (12, iV (T k)), (13, iV (T l9)), (14, iV (((i : Nat) : Int))), (15, iV (x90)), (16, iV (x100)), (17, iV (x110)), (18, lV (x141)), (20, lV (x164))] [] ([lvoC0 cI cL cZ ad (o) (j196lvo0t) (j196lvo0b), i2600C0 cI cL cZ ad (o + 1) (V), i26C0 cI cL cZ ad (o2) (T)]) := by
          intro j196lvo0t j196lvo0b k196
          refine g_iinc (pc := 196) hG 14 rfl (by decide) (lv' := [(14, iV ((((i : Nat) : Int)) + 1)), (0, .ref (ad (o))), (1, .ref (ad (o2))), (2, iV (((j : Nat) : Int))), (3, iV (((k : Nat) : Int))), (4, iV (((l9 : Nat) : Int))), (5, .ref (ad (o + 1))), (6, iV (((t3 k + t2 j : Nat) : Int))), (7, iV (((t3 l9 + t2 j : Nat) : Int))), (8, iV (((t3 l9 + t2 k : Nat) : Int))), (9, iV (x48)), (10, iV (x55)), (11, iV (T j)), (12, iV (T k)), (13, iV (T l9)), (15, iV (x90)), (16, iV (x100)), (17, iV (x110)), (18, lV (x141)), (20, lV (x164))]) rfl dX3_raise_196 ?_
          refine g_goto (pc := 199) hG (tgt := 76) (by decide) dX3_raise_199 ?_
          exact g_lv (pc := 76) hG [1, 2, 3, 4, 5, 6, 7, 8, 9, 10, 11, 12, 13, 14, 0] rfl (ih76 (i + 1) j196lvo0t j196lvo0b (by omega) (by omega) (hI.step (j := j) (k := k) (l := l9) (x := x141) (y := x164) (by rw [ex141, hf48, hf90, hf100, hf110]; rfl) (by rw [ex164, ex55, hf48, hf90, hf100, hf110]; rfl) k196 (by omega)))
        refine g_lc_le (pc := 180) hG (by omega) (by omega) (tgt := 196) (by decide) dX3_raise_180 dX3_raise_181 (fun h180 => ?_) (fun h180 => ?_)
        · exact g_lv (pc := 196) hG [5, 6, 7, 8, 9, 10, 11, 12, 13, 14, 15, 16, 17, 18, 19, 4, 3, 2, 1, 0] rfl (J196 t9 b9 (Or.inl ⟨h180, rfl, rfl⟩))
        · refine g_aload_n (pc := 184) hG 5 rfl dX3_raise_184 ?_
          refine g_lload (pc := 185) hG 1 rfl dX3_raise_185 ?_
          refine g_put (pc := 187) hG fp3_25 0 rfl rfl rfl (Nat.le_of_ble_eq_true rfl) (ws' := [lvoC0 cI cL cZ ad (o) (x141) (b9), i2600C0 cI cL cZ ad (o + 1) (V), i26C0 cI cL cZ ad (o2) (T)]) rfl dX3_raise_187 ?_
          refine g_aload_n (pc := 190) hG 5 rfl dX3_raise_190 ?_
          refine g_lload (pc := 191) hG 0 rfl dX3_raise_191 ?_
          refine g_put (pc := 193) hG fp3_29 0 rfl rfl rfl (Nat.le_of_ble_eq_true rfl) (ws' := [lvoC0 cI cL cZ ad (o) (x141) (x164), i2600C0 cI cL cZ ad (o + 1) (V), i26C0 cI cL cZ ad (o2) (T)]) rfl dX3_raise_193 ?_
          exact g_lv (pc := 196) hG [5, 6, 7, 8, 9, 10, 11, 12, 13, 14, 15, 16, 17, 18, 19, 4, 3, 2, 1, 0] rfl (J196 x141 x164 (Or.inr (⟨h180, rfl, rfl⟩)))
  exact g_lv (pc := 76) hG [10, 11, 12, 13, 14, 9, 8, 7, 6, 5, 4, 3, 2, 1, 0] rfl (L76 _ 0 t b (Nat.lt_succ_self _) (by omega) (hL.congr (fun i1 j1 k1 l1 => by constructor; exact Or.inl; intro h; rcases h with h | h; exact h; omega)))
set_option maxHeartbeats 4000000 in
set_option maxRecDepth 100000 in
theorem c_X3_find {l : Launch} {D : va_G} {cI cL cZ cX cG : ClassId} (ad : Nat → Nat) (o : Nat) (o2 : Nat) (V : Nat → Int) (t : Int) (b : Int) (A : Nat → Int) (B : Nat → Int) (C : Nat → Int) (T : Nat → Int) (z : Nat) (m : Nat) (hm : 1 ≤ m ∧ m ≤ 3) (hz : m ≤ z ∧ z ≤ 24) (hB : PlB A B C T z) : Ct l D (gT cI cL cZ cX cG) yX3_find cX3_find 10 none ({ frames := 2, cells := 0, slots := 0, locals := 81 }) [.ref (ad (o)), .ref (ad (o2)), iV (((m : Nat) : Int))] ([lvoC0 cI cL cZ ad (o) (t) (b), i2600C0 cI cL cZ ad (o + 1) (V), ploC0 cI cL cZ ad (o2) (((z : Nat) : Int)), i26C0 cI cL cZ ad (o2 + 1) (A), i26C0 cI cL cZ ad (o2 + 2) (B), i26C0 cI cL cZ ad (o2 + 3) (C), i26C0 cI cL cZ ad (o2 + 4) (T)]) (fun vv_ ww_ => ∃ (V2 : Nat → Int), ∃ (tt : Int), ∃ (bb : Int), (LvS A B C T (LvD m z) tt bb) ∧ vv_ = none ∧ ww_ = [lvoC0 cI cL cZ ad (o) (tt) (bb), i2600C0 cI cL cZ ad (o + 1) (V2), ploC0 cI cL cZ ad (o2) (((z : Nat) : Int)), i26C0 cI cL cZ ad (o2 + 1) (A), i26C0 cI cL cZ ad (o2 + 2) (B), i26C0 cI cL cZ ad (o2 + 3) (C), i26C0 cI cL cZ ad (o2 + 4) (T)]) := by
  refine Ct.of (by decide) (Nat.le_of_ble_eq_true rfl) (fun G hG => ?_)
  show G 0 [(0, .ref (ad (o))), (1, .ref (ad (o2))), (2, iV (((m : Nat) : Int)))] [] ([lvoC0 cI cL cZ ad (o) (t) (b), i2600C0 cI cL cZ ad (o + 1) (V), ploC0 cI cL cZ ad (o2) (((z : Nat) : Int)), i26C0 cI cL cZ ad (o2 + 1) (A), i26C0 cI cL cZ ad (o2 + 2) (B), i26C0 cI cL cZ ad (o2 + 3) (C), i26C0 cI cL cZ ad (o2 + 4) (T)])
  refine g_iconst (pc := 0) hG dX3_find_0 ?_
  refine g_iload_n (pc := 1) hG 2 rfl dX3_find_1 ?_
  refine g_isub (pc := 2) hG dX3_find_2 ?_
  refine g_eqI (pc := 3) hG (show (3 - (((m : Nat) : Int))) = ((3 - m : Nat) : Int) by omega) ?_
  refine g_istore_n (pc := 3) hG (by decide) (lv' := [(3, iV (((3 - m : Nat) : Int))), (0, .ref (ad (o))), (1, .ref (ad (o2))), (2, iV (((m : Nat) : Int)))]) rfl dX3_find_3 ?_
  refine g_aload_n (pc := 4) hG 2 rfl dX3_find_4 ?_
  refine g_get (pc := 5) hG fl3_17 2 rfl rfl dX3_find_5 ?_
  refine g_iload_n (pc := 8) hG 0 rfl dX3_find_8 ?_
  refine g_iadd (pc := 9) hG dX3_find_9 ?_
  refine g_istore (pc := 10) hG (by decide) (lv' := [(4, iV (((z + (3 - m) : Nat) : Int))), (3, iV (((3 - m : Nat) : Int))), (0, .ref (ad (o))), (1, .ref (ad (o2))), (2, iV (((m : Nat) : Int)))]) rfl dX3_find_10 ?_
  refine g_aload_n (pc := 12) hG 2 rfl dX3_find_12 ?_
  refine g_aload_n (pc := 13) hG 3 rfl dX3_find_13 ?_
  refine g_iload (pc := 14) hG 0 rfl dX3_find_14 ?_
  refine g_callV (pc := 16) hG (As := [.ref (ad (o2)), iV (((z + (3 - m) : Nat) : Int))]) (rest := []) (c_X3_measure (l := l) (D := D) (cI := cI) (cL := cL) (cZ := cZ) (cX := cX) (cG := cG) ad o o2 V t b A B C z (z + (3 - m)) (by omega) (by omega)) (Sp.sel [0, 1, 2, 3, 4, 5] rfl (by decide)) cv3_21 ⟨rfl, rfl⟩ ⟨Nat.le_of_ble_eq_true rfl, Nat.le_of_ble_eq_true rfl⟩ 0 rfl rfl rfl rfl (Nat.le_of_ble_eq_true rfl) dX3_find_16 (fun v w1 h => ?_)
  obtain ⟨V2_16, hV_16, rfl, rfl⟩ := h
  show G 19 [(4, iV (((z + (3 - m) : Nat) : Int))), (3, iV (((3 - m : Nat) : Int))), (0, .ref (ad (o))), (1, .ref (ad (o2))), (2, iV (((m : Nat) : Int)))] [] ([lvoC0 cI cL cZ ad (o) (t) (b), i2600C0 cI cL cZ ad (o + 1) (V2_16), ploC0 cI cL cZ ad (o2) (((z : Nat) : Int)), i26C0 cI cL cZ ad (o2 + 1) (A), i26C0 cI cL cZ ad (o2 + 2) (B), i26C0 cI cL cZ ad (o2 + 3) (C), i26C0 cI cL cZ ad (o2 + 4) (T)])
  refine g_aload_n (pc := 19) hG 2 rfl dX3_find_19 ?_
  refine g_lconst (z := 0) (pc := 20) hG dX3_find_20 (by decide) ?_
  refine g_put (pc := 21) hG fp3_25 0 rfl rfl rfl (Nat.le_of_ble_eq_true rfl) (ws' := [lvoC0 cI cL cZ ad (o) (0) (b), i2600C0 cI cL cZ ad (o + 1) (V2_16), ploC0 cI cL cZ ad (o2) (((z : Nat) : Int)), i26C0 cI cL cZ ad (o2 + 1) (A), i26C0 cI cL cZ ad (o2 + 2) (B), i26C0 cI cL cZ ad (o2 + 3) (C), i26C0 cI cL cZ ad (o2 + 4) (T)]) rfl dX3_find_21 ?_
  refine g_aload_n (pc := 24) hG 2 rfl dX3_find_24 ?_
  refine g_lconst (z := 1) (pc := 25) hG dX3_find_25 (by decide) ?_
  refine g_put (pc := 26) hG fp3_29 0 rfl rfl rfl (Nat.le_of_ble_eq_true rfl) (ws' := [lvoC0 cI cL cZ ad (o) (0) (1), i2600C0 cI cL cZ ad (o + 1) (V2_16), ploC0 cI cL cZ ad (o2) (((z : Nat) : Int)), i26C0 cI cL cZ ad (o2 + 1) (A), i26C0 cI cL cZ ad (o2 + 2) (B), i26C0 cI cL cZ ad (o2 + 3) (C), i26C0 cI cL cZ ad (o2 + 4) (T)]) rfl dX3_find_26 ?_
  refine g_iload_n (pc := 29) hG 1 rfl dX3_find_29 ?_
  have J41 : ∀ (j41s0 : Nat), (((((3 - m : Nat) : Int) ≤ 0) ∧ j41s0 = 3) ∨ ((¬ ((3 - m : Nat) : Int) ≤ 0) ∧ j41s0 = z + (3 - m) - 1)) → G 41 [(0, .ref (ad (o))), (1, .ref (ad (o2))), (2, iV (((m : Nat) : Int))), (3, iV (((3 - m : Nat) : Int))), (4, iV (((z + (3 - m) : Nat) : Int)))] [iV (((j41s0 : Nat) : Int))] ([lvoC0 cI cL cZ ad (o) (0) (1), i2600C0 cI cL cZ ad (o + 1) (V2_16), ploC0 cI cL cZ ad (o2) (((z : Nat) : Int)), i26C0 cI cL cZ ad (o2 + 1) (A), i26C0 cI cL cZ ad (o2 + 2) (B), i26C0 cI cL cZ ad (o2 + 3) (C), i26C0 cI cL cZ ad (o2 + 4) (T)]) := by
    intro j41s0 k41
    refine g_istore (pc := 41) hG (by decide) (lv' := [(5, iV (((j41s0 : Nat) : Int))), (0, .ref (ad (o))), (1, .ref (ad (o2))), (2, iV (((m : Nat) : Int))), (3, iV (((3 - m : Nat) : Int))), (4, iV (((z + (3 - m) : Nat) : Int)))]) rfl dX3_find_41 ?_
    refine g_iload (pc := 43) hG 0 rfl dX3_find_43 ?_
    refine g_istore (pc := 45) hG (by decide) (lv' := [(6, iV (((j41s0 : Nat) : Int))), (5, iV (((j41s0 : Nat) : Int))), (0, .ref (ad (o))), (1, .ref (ad (o2))), (2, iV (((m : Nat) : Int))), (3, iV (((3 - m : Nat) : Int))), (4, iV (((z + (3 - m) : Nat) : Int)))]) rfl dX3_find_45 ?_
    have L47 : ∀ (fu47 : Nat) (l9 : Nat) (t9 : Int) (b9 : Int), z + (3 - m) - l9 < fu47 → (j41s0 ≤ l9 ∧ l9 ≤ 26) → (LvS A B C T (fun i1 j1 k1 l1 => LvD m z i1 j1 k1 l1 ∧ l1 < l9) t9 b9) → G 47 [(0, .ref (ad (o))), (1, .ref (ad (o2))), (3, iV (((3 - m : Nat) : Int))), (4, iV (((z + (3 - m) : Nat) : Int))), (6, iV (((l9 : Nat) : Int)))] [] ([lvoC0 cI cL cZ ad (o) (t9) (b9), i2600C0 cI cL cZ ad (o + 1) (V2_16), ploC0 cI cL cZ ad (o2) (((z : Nat) : Int)), i26C0 cI cL cZ ad (o2 + 1) (A), i26C0 cI cL cZ ad (o2 + 2) (B), i26C0 cI cL cZ ad (o2 + 3) (C), i26C0 cI cL cZ ad (o2 + 4) (T)]) := by
      intro fu47
      induction fu47 with
      | zero => intro l9 t9 b9 hm; exact absurd hm (Nat.not_lt_zero _)
      | succ fu47 ih47 =>
        intro l9 t9 b9 hm47 hl9 hL
        refine g_iload (pc := 47) hG 4 rfl dX3_find_47 ?_
        refine g_iload (pc := 49) hG 3 rfl dX3_find_49 ?_
        refine g_icmp_ge (pc := 51) hG (by omega) (by omega) (tgt := 122) (by decide) dX3_find_51 (fun h51 => ?_) (fun h51 => ?_)
        · exact g_return (pc := 122) hG ⟨V2_16, t9, b9, hL.congr (fun i1 j1 k1 l1 => by unfold LvD; omega), rfl, rfl⟩ dX3_find_122
        · refine g_iload_n (pc := 54) hG 2 rfl dX3_find_54 ?_
          refine g_iconst (pc := 55) hG dX3_find_55 ?_
          have J67 : ∀ (j67s0 : Nat), (((((3 - m : Nat) : Int) ≤ 1) ∧ j67s0 = 2) ∨ ((¬ ((3 - m : Nat) : Int) ≤ 1) ∧ j67s0 = l9 - 1)) → G 67 [(0, .ref (ad (o))), (1, .ref (ad (o2))), (3, iV (((3 - m : Nat) : Int))), (4, iV (((z + (3 - m) : Nat) : Int))), (6, iV (((l9 : Nat) : Int)))] [iV (((j67s0 : Nat) : Int))] ([lvoC0 cI cL cZ ad (o) (t9) (b9), i2600C0 cI cL cZ ad (o + 1) (V2_16), ploC0 cI cL cZ ad (o2) (((z : Nat) : Int)), i26C0 cI cL cZ ad (o2 + 1) (A), i26C0 cI cL cZ ad (o2 + 2) (B), i26C0 cI cL cZ ad (o2 + 3) (C), i26C0 cI cL cZ ad (o2 + 4) (T)]) := by
            intro j67s0 k67
            refine g_istore (pc := 67) hG (by decide) (lv' := [(7, iV (((j67s0 : Nat) : Int))), (0, .ref (ad (o))), (1, .ref (ad (o2))), (3, iV (((3 - m : Nat) : Int))), (4, iV (((z + (3 - m) : Nat) : Int))), (6, iV (((l9 : Nat) : Int)))]) rfl dX3_find_67 ?_
            refine g_iload (pc := 69) hG 0 rfl dX3_find_69 ?_
            refine g_istore (pc := 71) hG (by decide) (lv' := [(8, iV (((j67s0 : Nat) : Int))), (7, iV (((j67s0 : Nat) : Int))), (0, .ref (ad (o))), (1, .ref (ad (o2))), (3, iV (((3 - m : Nat) : Int))), (4, iV (((z + (3 - m) : Nat) : Int))), (6, iV (((l9 : Nat) : Int)))]) rfl dX3_find_71 ?_
            have L73 : ∀ (fu73 : Nat) (k : Nat) (t8 : Int) (b8 : Int), l9 - k < fu73 → (j67s0 ≤ k ∧ k ≤ 26) → (LvS A B C T (fun i1 j1 k1 l1 => LvD m z i1 j1 k1 l1 ∧ (l1 < l9 ∨ (l1 = l9 ∧ k1 < k))) t8 b8) → G 73 [(0, .ref (ad (o))), (1, .ref (ad (o2))), (3, iV (((3 - m : Nat) : Int))), (4, iV (((z + (3 - m) : Nat) : Int))), (6, iV (((l9 : Nat) : Int))), (8, iV (((k : Nat) : Int)))] [] ([lvoC0 cI cL cZ ad (o) (t8) (b8), i2600C0 cI cL cZ ad (o + 1) (V2_16), ploC0 cI cL cZ ad (o2) (((z : Nat) : Int)), i26C0 cI cL cZ ad (o2 + 1) (A), i26C0 cI cL cZ ad (o2 + 2) (B), i26C0 cI cL cZ ad (o2 + 3) (C), i26C0 cI cL cZ ad (o2 + 4) (T)]) := by
              intro fu73
              induction fu73 with
              | zero => intro k t8 b8 hm; exact absurd hm (Nat.not_lt_zero _)
              | succ fu73 ih73 =>
                intro k t8 b8 hm73 hk hL7
                refine g_iload (pc := 73) hG 5 rfl dX3_find_73 ?_
                refine g_iload (pc := 75) hG 4 rfl dX3_find_75 ?_
                refine g_icmp_ge (pc := 77) hG (by omega) (by omega) (tgt := 116) (by decide) dX3_find_77 (fun h77 => ?_) (fun h77 => ?_)
                · refine g_iinc (pc := 116) hG 4 rfl (by decide) (lv' := [(6, iV ((((l9 : Nat) : Int)) + 1)), (0, .ref (ad (o))), (1, .ref (ad (o2))), (3, iV (((3 - m : Nat) : Int))), (4, iV (((z + (3 - m) : Nat) : Int))), (8, iV (((k : Nat) : Int)))]) rfl dX3_find_116 ?_
                  refine g_goto (pc := 119) hG (tgt := 47) (by decide) dX3_find_119 ?_
                  exact g_lv (pc := 47) hG [1, 2, 3, 4, 0] rfl (ih47 (l9 + 1) t8 b8 (by omega) (by omega) (hL7.congr (fun i1 j1 k1 l1 => by unfold LvD; omega)))
                · refine g_iconst (pc := 80) hG dX3_find_80 ?_
                  refine g_istore (pc := 81) hG (by decide) (lv' := [(9, iV (1)), (0, .ref (ad (o))), (1, .ref (ad (o2))), (3, iV (((3 - m : Nat) : Int))), (4, iV (((z + (3 - m) : Nat) : Int))), (6, iV (((l9 : Nat) : Int))), (8, iV (((k : Nat) : Int)))]) rfl dX3_find_81 ?_
                  have L83 : ∀ (fu83 : Nat) (j : Nat) (t7 : Int) (b7 : Int), k - j < fu83 → (1 ≤ j ∧ j ≤ 26) → (LvS A B C T (fun i1 j1 k1 l1 => LvD m z i1 j1 k1 l1 ∧ (l1 < l9 ∨ (l1 = l9 ∧ (k1 < k ∨ (k1 = k ∧ j1 < j))))) t7 b7) → G 83 [(0, .ref (ad (o))), (1, .ref (ad (o2))), (3, iV (((3 - m : Nat) : Int))), (4, iV (((z + (3 - m) : Nat) : Int))), (6, iV (((l9 : Nat) : Int))), (8, iV (((k : Nat) : Int))), (9, iV (((j : Nat) : Int)))] [] ([lvoC0 cI cL cZ ad (o) (t7) (b7), i2600C0 cI cL cZ ad (o + 1) (V2_16), ploC0 cI cL cZ ad (o2) (((z : Nat) : Int)), i26C0 cI cL cZ ad (o2 + 1) (A), i26C0 cI cL cZ ad (o2 + 2) (B), i26C0 cI cL cZ ad (o2 + 3) (C), i26C0 cI cL cZ ad (o2 + 4) (T)]) := by
                    intro fu83
                    induction fu83 with
                    | zero => intro j t7 b7 hm; exact absurd hm (Nat.not_lt_zero _)
                    | succ fu83 ih83 =>
                      intro j t7 b7 hm83 hj hL8
                      refine g_iload (pc := 83) hG 6 rfl dX3_find_83 ?_
                      refine g_iload (pc := 85) hG 5 rfl dX3_find_85 ?_
                      refine g_icmp_ge (pc := 87) hG (by omega) (by omega) (tgt := 110) (by decide) dX3_find_87 (fun h87 => ?_) (fun h87 => ?_)
                      · refine g_iinc (pc := 110) hG 5 rfl (by decide) (lv' := [(8, iV ((((k : Nat) : Int)) + 1)), (0, .ref (ad (o))), (1, .ref (ad (o2))), (3, iV (((3 - m : Nat) : Int))), (4, iV (((z + (3 - m) : Nat) : Int))), (6, iV (((l9 : Nat) : Int))), (9, iV (((j : Nat) : Int)))]) rfl dX3_find_110 ?_
                        refine g_goto (pc := 113) hG (tgt := 73) (by decide) dX3_find_113 ?_
                        exact g_lv (pc := 73) hG [1, 2, 3, 4, 5, 0] rfl (ih73 (k + 1) t7 b7 (by omega) (by omega) (hL8.congr (fun i1 j1 k1 l1 => by unfold LvD; omega)))
                      · refine g_aload_n (pc := 90) hG 0 rfl dX3_find_90 ?_
                        refine g_aload_n (pc := 91) hG 1 rfl dX3_find_91 ?_
                        refine g_get (pc := 92) hG fl3_32 2 rfl rfl dX3_find_92 ?_
                        refine g_iload (pc := 95) hG 6 rfl dX3_find_95 ?_
                        refine g_iload (pc := 97) hG 5 rfl dX3_find_97 ?_
                        refine g_iload (pc := 99) hG 4 rfl dX3_find_99 ?_
                        refine g_callV (pc := 101) hG (As := [.ref (ad (o2 + 4)), iV (((j : Nat) : Int)), iV (((k : Nat) : Int)), iV (((l9 : Nat) : Int))]) (rest := []) (c_X3_raise (l := l) (D := D) (cI := cI) (cL := cL) (cZ := cZ) (cX := cX) (cG := cG) ad o (o2 + 4) V2_16 t7 b7 A B C T z (z + (3 - m)) j k l9 ((fun i1 j1 k1 l1 => LvD m z i1 j1 k1 l1 ∧ (l1 < l9 ∨ (l1 = l9 ∧ (k1 < k ∨ (k1 = k ∧ j1 < j)))))) (by omega) (hB) (by omega) (hV_16) (by omega) (hL8)) (Sp.sel [0, 1, 6] rfl (by decide)) cv3_35 ⟨rfl, rfl⟩ ⟨Nat.le_of_ble_eq_true rfl, Nat.le_of_ble_eq_true rfl⟩ 0 rfl rfl rfl rfl (Nat.le_of_ble_eq_true rfl) dX3_find_101 (fun v w1 h => ?_)
                        obtain ⟨tt_101, bb_101, hl2_101, rfl, rfl⟩ := h
                        show G 104 [(0, .ref (ad (o))), (1, .ref (ad (o2))), (3, iV (((3 - m : Nat) : Int))), (4, iV (((z + (3 - m) : Nat) : Int))), (6, iV (((l9 : Nat) : Int))), (8, iV (((k : Nat) : Int))), (9, iV (((j : Nat) : Int)))] [] ([lvoC0 cI cL cZ ad (o) (tt_101) (bb_101), i2600C0 cI cL cZ ad (o + 1) (V2_16), ploC0 cI cL cZ ad (o2) (((z : Nat) : Int)), i26C0 cI cL cZ ad (o2 + 1) (A), i26C0 cI cL cZ ad (o2 + 2) (B), i26C0 cI cL cZ ad (o2 + 3) (C), i26C0 cI cL cZ ad (o2 + 4) (T)])
                        refine g_iinc (pc := 104) hG 6 rfl (by decide) (lv' := [(9, iV ((((j : Nat) : Int)) + 1)), (0, .ref (ad (o))), (1, .ref (ad (o2))), (3, iV (((3 - m : Nat) : Int))), (4, iV (((z + (3 - m) : Nat) : Int))), (6, iV (((l9 : Nat) : Int))), (8, iV (((k : Nat) : Int)))]) rfl dX3_find_104 ?_
                        refine g_goto (pc := 107) hG (tgt := 83) (by decide) dX3_find_107 ?_
                        exact g_lv (pc := 83) hG [1, 2, 3, 4, 5, 6, 0] rfl (ih83 (j + 1) tt_101 bb_101 (by omega) (by omega) (hl2_101.congr (fun i1 j1 k1 l1 => by unfold LvD; omega)))
                  exact g_lv (pc := 83) hG [1, 2, 3, 4, 5, 6, 0] rfl (L83 _ 1 t8 b8 (Nat.lt_succ_self _) (by omega) (hL7.congr (fun i1 j1 k1 l1 => by unfold LvD; omega)))
            exact g_lv (pc := 73) hG [2, 3, 4, 5, 6, 0] rfl (L73 _ j67s0 t9 b9 (Nat.lt_succ_self _) (by omega) (hL.congr (fun i1 j1 k1 l1 => by unfold LvD; omega)))
          refine g_icmp_le (pc := 56) hG (by omega) (by omega) (tgt := 66) (by decide) dX3_find_56 (fun h56 => ?_) (fun h56 => ?_)
          · refine g_iconst (pc := 66) hG dX3_find_66 ?_
            exact g_lv (pc := 67) hG [0, 1, 2, 3, 4] rfl (J67 2 (Or.inl ⟨h56, rfl⟩))
          · refine g_iload (pc := 59) hG 4 rfl dX3_find_59 ?_
            refine g_iconst (pc := 61) hG dX3_find_61 ?_
            refine g_isub (pc := 62) hG dX3_find_62 ?_
            refine g_eqI (pc := 63) hG (show ((((l9 : Nat) : Int)) - 1) = ((l9 - 1 : Nat) : Int) by omega) ?_
            refine g_goto (pc := 63) hG (tgt := 67) (by decide) dX3_find_63 ?_
            exact g_lv (pc := 67) hG [0, 1, 2, 3, 4] rfl (J67 (l9 - 1) (Or.inr (⟨h56, rfl⟩)))
    exact g_lv (pc := 47) hG [2, 3, 5, 6, 0] rfl (L47 _ j41s0 0 1 (Nat.lt_succ_self _) (by omega) (LvS.init (fun i1 j1 k1 l1 h => by unfold LvD at h; omega)))
  refine g_if_le (pc := 30) hG (by omega) (tgt := 40) (by decide) dX3_find_30 (fun h30 => ?_) (fun h30 => ?_)
  · refine g_iconst (pc := 40) hG dX3_find_40 ?_
    exact g_lv (pc := 41) hG [2, 3, 4, 1, 0] rfl (J41 3 (Or.inl ⟨h30, rfl⟩))
  · refine g_iload (pc := 33) hG 0 rfl dX3_find_33 ?_
    refine g_iconst (pc := 35) hG dX3_find_35 ?_
    refine g_isub (pc := 36) hG dX3_find_36 ?_
    refine g_eqI (pc := 37) hG (show ((((z + (3 - m) : Nat) : Int)) - 1) = ((z + (3 - m) - 1 : Nat) : Int) by omega) ?_
    refine g_goto (pc := 37) hG (tgt := 41) (by decide) dX3_find_37 ?_
    exact g_lv (pc := 41) hG [2, 3, 4, 1, 0] rfl (J41 (z + (3 - m) - 1) (Or.inr (⟨h30, rfl⟩)))
