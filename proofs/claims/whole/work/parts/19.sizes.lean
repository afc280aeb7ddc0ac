abbrev lsoC0 (cI cL cZ : ClassId) (ad : Nat → Nat) (o : Nat) (t : Int) (b : Int) (x : Int) (y : Int) (w : Int) (d : Int) : Nat × va_E := (ad o, ob 3 [.ref (ad (o + 1)), lV t, lV b, lV x, lV y, lV w, lV d])
set_option maxHeartbeats 4000000 in
set_option maxRecDepth 100000 in
theorem c_X4_solveExactly {l : Launch} {D : va_G} {cI cL cZ cX cG : ClassId} (ad : Nat → Nat) (o : Nat) (o2 : Nat) (t : Int) (b : Int) (x : Int) (y : Int) (w : Int) (d : Int) (A : Nat → Int) (B : Nat → Int) (C : Nat → Int) (T : Nat → Int) (z : Nat) (i : Nat) (j : Nat) (k : Nat) (hz : z ≤ 24) (hB : PlB A B C T z) (hi9 : i < z + 2) (hj9 : j < z + 2) (hk9 : k < z + 2) : Ct l D (gT cI cL cZ cX cG) yX4_solveExactly cX4_solveExactly 17 none ({ frames := 0, cells := 0, slots := 0, locals := 0 }) [.ref (ad (o)), .ref (ad (o2)), iV (((i : Nat) : Int)), iV (((j : Nat) : Int)), iV (((k : Nat) : Int))] ([lsoC0 cI cL cZ ad (o) (t) (b) (x) (y) (w) (d), ploC0 cI cL cZ ad (o2) (((z : Nat) : Int)), i26C0 cI cL cZ ad (o2 + 1) (A), i26C0 cI cL cZ ad (o2 + 2) (B), i26C0 cI cL cZ ad (o2 + 3) (C), i26C0 cI cL cZ ad (o2 + 4) (T)]) (fun vv_ ww_ => ∃ (x2 : Int), ∃ (y2 : Int), ∃ (w2 : Int), ∃ (d2 : Int), (d2 = dvZ A B C i j k) ∧ (d2 ≠ 0 → x2 = nuA A B C T i j k ∧ y2 = nuB A B C T i j k ∧ w2 = nuC A B C T i j k) ∧ vv_ = none ∧ ww_ = [lsoC0 cI cL cZ ad (o) (t) (b) (x2) (y2) (w2) (d2), ploC0 cI cL cZ ad (o2) (((z : Nat) : Int)), i26C0 cI cL cZ ad (o2 + 1) (A), i26C0 cI cL cZ ad (o2 + 2) (B), i26C0 cI cL cZ ad (o2 + 3) (C), i26C0 cI cL cZ ad (o2 + 4) (T)]) := by
  refine Ct.of (by decide) (Nat.le_of_ble_eq_true rfl) (fun G hG => ?_)
  show G 0 [(0, .ref (ad (o))), (1, .ref (ad (o2))), (2, iV (((i : Nat) : Int))), (3, iV (((j : Nat) : Int))), (4, iV (((k : Nat) : Int)))] [] ([lsoC0 cI cL cZ ad (o) (t) (b) (x) (y) (w) (d), ploC0 cI cL cZ ad (o2) (((z : Nat) : Int)), i26C0 cI cL cZ ad (o2 + 1) (A), i26C0 cI cL cZ ad (o2 + 2) (B), i26C0 cI cL cZ ad (o2 + 3) (C), i26C0 cI cL cZ ad (o2 + 4) (T)])
  obtain ⟨bi1, bi2, bi3, bi4⟩ := hB i hi9
  obtain ⟨bj1, bj2, bj3, bj4⟩ := hB j hj9
  obtain ⟨bk1, bk2, bk3, bk4⟩ := hB k hk9
  refine g_aload_n (pc := 0) hG 1 rfl dX4_solveExactly_0 ?_
  refine g_get (pc := 1) hG fl4_53 1 rfl rfl dX4_solveExactly_1 ?_
  refine g_iload_n (pc := 4) hG 3 rfl dX4_solveExactly_4 ?_
  refine g_iaload (pc := 5) hG 3 j rfl rfl (by omega) (by omega) (by decide) dX4_solveExactly_5 ?_
  refine g_aload_n (pc := 6) hG 1 rfl dX4_solveExactly_6 ?_
  refine g_get (pc := 7) hG fl4_57 1 rfl rfl dX4_solveExactly_7 ?_
  refine g_iload (pc := 10) hG 4 rfl dX4_solveExactly_10 ?_
  refine g_iaload (pc := 12) hG 4 k rfl rfl (by omega) (by omega) (by decide) dX4_solveExactly_12 ?_
  refine g_imul (pc := 13) hG dX4_solveExactly_13 ?_
  refine g_aload_n (pc := 14) hG 1 rfl dX4_solveExactly_14 ?_
  refine g_get (pc := 15) hG fl4_57 1 rfl rfl dX4_solveExactly_15 ?_
  refine g_iload_n (pc := 18) hG 3 rfl dX4_solveExactly_18 ?_
  refine g_iaload (pc := 19) hG 4 j rfl rfl (by omega) (by omega) (by decide) dX4_solveExactly_19 ?_
  refine g_aload_n (pc := 20) hG 1 rfl dX4_solveExactly_20 ?_
  refine g_get (pc := 21) hG fl4_53 1 rfl rfl dX4_solveExactly_21 ?_
  refine g_iload (pc := 24) hG 4 rfl dX4_solveExactly_24 ?_
  refine g_iaload (pc := 26) hG 3 k rfl rfl (by omega) (by omega) (by decide) dX4_solveExactly_26 ?_
  refine g_imul (pc := 27) hG dX4_solveExactly_27 ?_
  refine g_isub (pc := 28) hG dX4_solveExactly_28 ?_
  refine g_i2l (pc := 29) hG (by exact cr_in (by omega) (by omega) (by omega) (by omega)) dX4_solveExactly_29 ?_
  refine g_nmL (pc := 30) hG (fun x30 ex30 => ?_)
  refine g_lstore (pc := 30) hG (by decide) (lv' := [(5, lV (x30)), (0, .ref (ad (o))), (1, .ref (ad (o2))), (2, iV (((i : Nat) : Int))), (3, iV (((j : Nat) : Int))), (4, iV (((k : Nat) : Int)))]) rfl dX4_solveExactly_30 ?_
  refine g_aload_n (pc := 32) hG 2 rfl dX4_solveExactly_32 ?_
  refine g_get (pc := 33) hG fl4_57 1 rfl rfl dX4_solveExactly_33 ?_
  refine g_iload_n (pc := 36) hG 4 rfl dX4_solveExactly_36 ?_
  refine g_iaload (pc := 37) hG 4 j rfl rfl (by omega) (by omega) (by decide) dX4_solveExactly_37 ?_
  refine g_aload_n (pc := 38) hG 2 rfl dX4_solveExactly_38 ?_
  refine g_get (pc := 39) hG fl4_60 1 rfl rfl dX4_solveExactly_39 ?_
  refine g_iload (pc := 42) hG 5 rfl dX4_solveExactly_42 ?_
  refine g_iaload (pc := 44) hG 2 k rfl rfl (by omega) (by omega) (by decide) dX4_solveExactly_44 ?_
  refine g_imul (pc := 45) hG dX4_solveExactly_45 ?_
  refine g_aload_n (pc := 46) hG 2 rfl dX4_solveExactly_46 ?_
  refine g_get (pc := 47) hG fl4_60 1 rfl rfl dX4_solveExactly_47 ?_
  refine g_iload_n (pc := 50) hG 4 rfl dX4_solveExactly_50 ?_
  refine g_iaload (pc := 51) hG 2 j rfl rfl (by omega) (by omega) (by decide) dX4_solveExactly_51 ?_
  refine g_aload_n (pc := 52) hG 2 rfl dX4_solveExactly_52 ?_
  refine g_get (pc := 53) hG fl4_57 1 rfl rfl dX4_solveExactly_53 ?_
  refine g_iload (pc := 56) hG 5 rfl dX4_solveExactly_56 ?_
  refine g_iaload (pc := 58) hG 4 k rfl rfl (by omega) (by omega) (by decide) dX4_solveExactly_58 ?_
  refine g_imul (pc := 59) hG dX4_solveExactly_59 ?_
  refine g_isub (pc := 60) hG dX4_solveExactly_60 ?_
  refine g_i2l (pc := 61) hG (by exact cr_in (by omega) (by omega) (by omega) (by omega)) dX4_solveExactly_61 ?_
  refine g_nmL (pc := 62) hG (fun x62 ex62 => ?_)
  refine g_lstore (pc := 62) hG (by decide) (lv' := [(7, lV (x62)), (5, lV (x30)), (0, .ref (ad (o))), (1, .ref (ad (o2))), (2, iV (((i : Nat) : Int))), (3, iV (((j : Nat) : Int))), (4, iV (((k : Nat) : Int)))]) rfl dX4_solveExactly_62 ?_
  refine g_aload_n (pc := 64) hG 3 rfl dX4_solveExactly_64 ?_
  refine g_get (pc := 65) hG fl4_60 1 rfl rfl dX4_solveExactly_65 ?_
  refine g_iload_n (pc := 68) hG 5 rfl dX4_solveExactly_68 ?_
  refine g_iaload (pc := 69) hG 2 j rfl rfl (by omega) (by omega) (by decide) dX4_solveExactly_69 ?_
  refine g_aload_n (pc := 70) hG 3 rfl dX4_solveExactly_70 ?_
  refine g_get (pc := 71) hG fl4_53 1 rfl rfl dX4_solveExactly_71 ?_
  refine g_iload (pc := 74) hG 6 rfl dX4_solveExactly_74 ?_
  refine g_iaload (pc := 76) hG 3 k rfl rfl (by omega) (by omega) (by decide) dX4_solveExactly_76 ?_
  refine g_imul (pc := 77) hG dX4_solveExactly_77 ?_
  refine g_aload_n (pc := 78) hG 3 rfl dX4_solveExactly_78 ?_
  refine g_get (pc := 79) hG fl4_53 1 rfl rfl dX4_solveExactly_79 ?_
  refine g_iload_n (pc := 82) hG 5 rfl dX4_solveExactly_82 ?_
  refine g_iaload (pc := 83) hG 3 j rfl rfl (by omega) (by omega) (by decide) dX4_solveExactly_83 ?_
  refine g_aload_n (pc := 84) hG 3 rfl dX4_solveExactly_84 ?_
  refine g_get (pc := 85) hG fl4_60 1 rfl rfl dX4_solveExactly_85 ?_
  refine g_iload (pc := 88) hG 6 rfl dX4_solveExactly_88 ?_
  refine g_iaload (pc := 90) hG 2 k rfl rfl (by omega) (by omega) (by decide) dX4_solveExactly_90 ?_
  refine g_imul (pc := 91) hG dX4_solveExactly_91 ?_
  refine g_isub (pc := 92) hG dX4_solveExactly_92 ?_
  refine g_i2l (pc := 93) hG (by exact cr_in (by omega) (by omega) (by omega) (by omega)) dX4_solveExactly_93 ?_
  refine g_nmL (pc := 94) hG (fun x94 ex94 => ?_)
  refine g_lstore (pc := 94) hG (by decide) (lv' := [(9, lV (x94)), (7, lV (x62)), (5, lV (x30)), (0, .ref (ad (o))), (1, .ref (ad (o2))), (2, iV (((i : Nat) : Int))), (3, iV (((j : Nat) : Int))), (4, iV (((k : Nat) : Int)))]) rfl dX4_solveExactly_94 ?_
  refine g_aload_n (pc := 96) hG 3 rfl dX4_solveExactly_96 ?_
  refine g_aload_n (pc := 97) hG 4 rfl dX4_solveExactly_97 ?_
  refine g_get (pc := 98) hG fl4_60 1 rfl rfl dX4_solveExactly_98 ?_
  refine g_iload_n (pc := 101) hG 5 rfl dX4_solveExactly_101 ?_
  refine g_iaload (pc := 102) hG 2 i rfl rfl (by omega) (by omega) (by decide) dX4_solveExactly_102 ?_
  refine g_i2l (pc := 103) hG (by omega) dX4_solveExactly_103 ?_
  refine g_lload (pc := 104) hG 2 rfl dX4_solveExactly_104 ?_
  refine g_lmul (pc := 106) hG dX4_solveExactly_106 ?_
  refine g_aload_n (pc := 107) hG 4 rfl dX4_solveExactly_107 ?_
  refine g_get (pc := 108) hG fl4_53 1 rfl rfl dX4_solveExactly_108 ?_
  refine g_iload_n (pc := 111) hG 5 rfl dX4_solveExactly_111 ?_
  refine g_iaload (pc := 112) hG 3 i rfl rfl (by omega) (by omega) (by decide) dX4_solveExactly_112 ?_
  refine g_i2l (pc := 113) hG (by omega) dX4_solveExactly_113 ?_
  refine g_lload (pc := 114) hG 1 rfl dX4_solveExactly_114 ?_
  refine g_lmul (pc := 116) hG dX4_solveExactly_116 ?_
  refine g_ladd (pc := 117) hG dX4_solveExactly_117 ?_
  refine g_aload_n (pc := 118) hG 4 rfl dX4_solveExactly_118 ?_
  refine g_get (pc := 119) hG fl4_57 1 rfl rfl dX4_solveExactly_119 ?_
  refine g_iload_n (pc := 122) hG 5 rfl dX4_solveExactly_122 ?_
  refine g_iaload (pc := 123) hG 4 i rfl rfl (by omega) (by omega) (by decide) dX4_solveExactly_123 ?_
  refine g_i2l (pc := 124) hG (by omega) dX4_solveExactly_124 ?_
  refine g_lload (pc := 125) hG 0 rfl dX4_solveExactly_125 ?_
  refine g_lmul (pc := 127) hG dX4_solveExactly_127 ?_
  refine g_ladd (pc := 128) hG dX4_solveExactly_128 ?_
  refine g_nmL (pc := 129) hG (fun x129 ex129 => ?_)
  refine g_put (pc := 129) hG fp4_42 0 rfl rfl rfl (Nat.le_of_ble_eq_true rfl) (ws' := [lsoC0 cI cL cZ ad (o) (t) (b) (x) (y) (w) (x129), ploC0 cI cL cZ ad (o2) (((z : Nat) : Int)), i26C0 cI cL cZ ad (o2 + 1) (A), i26C0 cI cL cZ ad (o2 + 2) (B), i26C0 cI cL cZ ad (o2 + 3) (C), i26C0 cI cL cZ ad (o2 + 4) (T)]) rfl dX4_solveExactly_129 ?_
  refine g_aload_n (pc := 132) hG 3 rfl dX4_solveExactly_132 ?_
  refine g_get (pc := 133) hG fl4_42 0 rfl rfl dX4_solveExactly_133 ?_
  refine g_lconst (z := 0) (pc := 136) hG dX4_solveExactly_136 (by decide) ?_
  have hdv : x129 = dvZ A B C i j k := by rw [ex129, ex30, ex62, ex94]; rfl
  have hdb := dv_bd hB hi9 hj9 hk9
  rw [← hdv] at hdb
  refine g_lc_ne (pc := 137) hG (by omega) (by omega) (tgt := 142) (by decide) dX4_solveExactly_137 dX4_solveExactly_138 (fun h137 => ?_) (fun h137 => ?_)
  · refine g_aload_n (pc := 142) hG 4 rfl dX4_solveExactly_142 ?_
    refine g_get (pc := 143) hG fl4_63 1 rfl rfl dX4_solveExactly_143 ?_
    refine g_iload_n (pc := 146) hG 5 rfl dX4_solveExactly_146 ?_
    refine g_iaload (pc := 147) hG 5 i rfl rfl (by omega) (by omega) (by decide) dX4_solveExactly_147 ?_
    refine g_i2l (pc := 148) hG (by omega) dX4_solveExactly_148 ?_
    refine g_lstore (pc := 149) hG (by decide) (lv' := [(11, lV (T i)), (9, lV (x94)), (7, lV (x62)), (5, lV (x30)), (0, .ref (ad (o))), (1, .ref (ad (o2))), (2, iV (((i : Nat) : Int))), (3, iV (((j : Nat) : Int))), (4, iV (((k : Nat) : Int)))]) rfl dX4_solveExactly_149 ?_
    refine g_aload_n (pc := 151) hG 5 rfl dX4_solveExactly_151 ?_
    refine g_get (pc := 152) hG fl4_63 1 rfl rfl dX4_solveExactly_152 ?_
    refine g_iload_n (pc := 155) hG 7 rfl dX4_solveExactly_155 ?_
    refine g_iaload (pc := 156) hG 5 j rfl rfl (by omega) (by omega) (by decide) dX4_solveExactly_156 ?_
    refine g_i2l (pc := 157) hG (by omega) dX4_solveExactly_157 ?_
    refine g_lstore (pc := 158) hG (by decide) (lv' := [(13, lV (T j)), (11, lV (T i)), (9, lV (x94)), (7, lV (x62)), (5, lV (x30)), (0, .ref (ad (o))), (1, .ref (ad (o2))), (2, iV (((i : Nat) : Int))), (3, iV (((j : Nat) : Int))), (4, iV (((k : Nat) : Int)))]) rfl dX4_solveExactly_158 ?_
    refine g_aload_n (pc := 160) hG 6 rfl dX4_solveExactly_160 ?_
    refine g_get (pc := 161) hG fl4_63 1 rfl rfl dX4_solveExactly_161 ?_
    refine g_iload (pc := 164) hG 9 rfl dX4_solveExactly_164 ?_
    refine g_iaload (pc := 166) hG 5 k rfl rfl (by omega) (by omega) (by decide) dX4_solveExactly_166 ?_
    refine g_i2l (pc := 167) hG (by omega) dX4_solveExactly_167 ?_
    refine g_lstore (pc := 168) hG (by decide) (lv' := [(15, lV (T k)), (13, lV (T j)), (11, lV (T i)), (9, lV (x94)), (7, lV (x62)), (5, lV (x30)), (0, .ref (ad (o))), (1, .ref (ad (o2))), (2, iV (((i : Nat) : Int))), (3, iV (((j : Nat) : Int))), (4, iV (((k : Nat) : Int)))]) rfl dX4_solveExactly_168 ?_
    refine g_aload_n (pc := 170) hG 6 rfl dX4_solveExactly_170 ?_
    refine g_lload (pc := 171) hG 2 rfl dX4_solveExactly_171 ?_
    refine g_lload (pc := 173) hG 5 rfl dX4_solveExactly_173 ?_
    refine g_lmul (pc := 175) hG dX4_solveExactly_175 ?_
    refine g_lload (pc := 176) hG 1 rfl dX4_solveExactly_176 ?_
    refine g_aload_n (pc := 178) hG 7 rfl dX4_solveExactly_178 ?_
    refine g_get (pc := 179) hG fl4_53 1 rfl rfl dX4_solveExactly_179 ?_
    refine g_iload (pc := 182) hG 10 rfl dX4_solveExactly_182 ?_
    refine g_iaload (pc := 184) hG 3 k rfl rfl (by omega) (by omega) (by decide) dX4_solveExactly_184 ?_
    refine g_aload_n (pc := 185) hG 7 rfl dX4_solveExactly_185 ?_
    refine g_get (pc := 186) hG fl4_57 1 rfl rfl dX4_solveExactly_186 ?_
    refine g_iload_n (pc := 189) hG 8 rfl dX4_solveExactly_189 ?_
    refine g_iaload (pc := 190) hG 4 i rfl rfl (by omega) (by omega) (by decide) dX4_solveExactly_190 ?_
    refine g_imul (pc := 191) hG dX4_solveExactly_191 ?_
    refine g_aload_n (pc := 192) hG 7 rfl dX4_solveExactly_192 ?_
    refine g_get (pc := 193) hG fl4_57 1 rfl rfl dX4_solveExactly_193 ?_
    refine g_iload (pc := 196) hG 10 rfl dX4_solveExactly_196 ?_
    refine g_iaload (pc := 198) hG 4 k rfl rfl (by omega) (by omega) (by decide) dX4_solveExactly_198 ?_
    refine g_aload_n (pc := 199) hG 7 rfl dX4_solveExactly_199 ?_
    refine g_get (pc := 200) hG fl4_53 1 rfl rfl dX4_solveExactly_200 ?_
    refine g_iload_n (pc := 203) hG 8 rfl dX4_solveExactly_203 ?_
    refine g_iaload (pc := 204) hG 3 i rfl rfl (by omega) (by omega) (by decide) dX4_solveExactly_204 ?_
    refine g_imul (pc := 205) hG dX4_solveExactly_205 ?_
    refine g_isub (pc := 206) hG dX4_solveExactly_206 ?_
    refine g_i2l (pc := 207) hG (by exact cr_in (by omega) (by omega) (by omega) (by omega)) dX4_solveExactly_207 ?_
    refine g_lmul (pc := 208) hG dX4_solveExactly_208 ?_
    refine g_ladd (pc := 209) hG dX4_solveExactly_209 ?_
    refine g_lload (pc := 210) hG 0 rfl dX4_solveExactly_210 ?_
    refine g_aload_n (pc := 212) hG 7 rfl dX4_solveExactly_212 ?_
    refine g_get (pc := 213) hG fl4_53 1 rfl rfl dX4_solveExactly_213 ?_
    refine g_iload_n (pc := 216) hG 8 rfl dX4_solveExactly_216 ?_
    refine g_iaload (pc := 217) hG 3 i rfl rfl (by omega) (by omega) (by decide) dX4_solveExactly_217 ?_
    refine g_aload_n (pc := 218) hG 7 rfl dX4_solveExactly_218 ?_
    refine g_get (pc := 219) hG fl4_57 1 rfl rfl dX4_solveExactly_219 ?_
    refine g_iload_n (pc := 222) hG 9 rfl dX4_solveExactly_222 ?_
    refine g_iaload (pc := 223) hG 4 j rfl rfl (by omega) (by omega) (by decide) dX4_solveExactly_223 ?_
    refine g_imul (pc := 224) hG dX4_solveExactly_224 ?_
    refine g_aload_n (pc := 225) hG 7 rfl dX4_solveExactly_225 ?_
    refine g_get (pc := 226) hG fl4_57 1 rfl rfl dX4_solveExactly_226 ?_
    refine g_iload_n (pc := 229) hG 8 rfl dX4_solveExactly_229 ?_
    refine g_iaload (pc := 230) hG 4 i rfl rfl (by omega) (by omega) (by decide) dX4_solveExactly_230 ?_
    refine g_aload_n (pc := 231) hG 7 rfl dX4_solveExactly_231 ?_
    refine g_get (pc := 232) hG fl4_53 1 rfl rfl dX4_solveExactly_232 ?_
    refine g_iload_n (pc := 235) hG 9 rfl dX4_solveExactly_235 ?_
    refine g_iaload (pc := 236) hG 3 j rfl rfl (by omega) (by omega) (by decide) dX4_solveExactly_236 ?_
    refine g_imul (pc := 237) hG dX4_solveExactly_237 ?_
    refine g_isub (pc := 238) hG dX4_solveExactly_238 ?_
    refine g_i2l (pc := 239) hG (by exact cr_in (by omega) (by omega) (by omega) (by omega)) dX4_solveExactly_239 ?_
    refine g_lmul (pc := 240) hG dX4_solveExactly_240 ?_
    refine g_ladd (pc := 241) hG dX4_solveExactly_241 ?_
    refine g_nmL (pc := 242) hG (fun x242 ex242 => ?_)
    refine g_put (pc := 242) hG fp4_66 0 rfl rfl rfl (Nat.le_of_ble_eq_true rfl) (ws' := [lsoC0 cI cL cZ ad (o) (t) (b) (x242) (y) (w) (x129), ploC0 cI cL cZ ad (o2) (((z : Nat) : Int)), i26C0 cI cL cZ ad (o2 + 1) (A), i26C0 cI cL cZ ad (o2 + 2) (B), i26C0 cI cL cZ ad (o2 + 3) (C), i26C0 cI cL cZ ad (o2 + 4) (T)]) rfl dX4_solveExactly_242 ?_
    refine g_aload_n (pc := 245) hG 6 rfl dX4_solveExactly_245 ?_
    refine g_lload (pc := 246) hG 2 rfl dX4_solveExactly_246 ?_
    refine g_lload (pc := 248) hG 4 rfl dX4_solveExactly_248 ?_
    refine g_lmul (pc := 250) hG dX4_solveExactly_250 ?_
    refine g_lload (pc := 251) hG 1 rfl dX4_solveExactly_251 ?_
    refine g_aload_n (pc := 253) hG 7 rfl dX4_solveExactly_253 ?_
    refine g_get (pc := 254) hG fl4_57 1 rfl rfl dX4_solveExactly_254 ?_
    refine g_iload (pc := 257) hG 10 rfl dX4_solveExactly_257 ?_
    refine g_iaload (pc := 259) hG 4 k rfl rfl (by omega) (by omega) (by decide) dX4_solveExactly_259 ?_
    refine g_aload_n (pc := 260) hG 7 rfl dX4_solveExactly_260 ?_
    refine g_get (pc := 261) hG fl4_60 1 rfl rfl dX4_solveExactly_261 ?_
    refine g_iload_n (pc := 264) hG 8 rfl dX4_solveExactly_264 ?_
    refine g_iaload (pc := 265) hG 2 i rfl rfl (by omega) (by omega) (by decide) dX4_solveExactly_265 ?_
    refine g_imul (pc := 266) hG dX4_solveExactly_266 ?_
    refine g_aload_n (pc := 267) hG 7 rfl dX4_solveExactly_267 ?_
    refine g_get (pc := 268) hG fl4_60 1 rfl rfl dX4_solveExactly_268 ?_
    refine g_iload (pc := 271) hG 10 rfl dX4_solveExactly_271 ?_
    refine g_iaload (pc := 273) hG 2 k rfl rfl (by omega) (by omega) (by decide) dX4_solveExactly_273 ?_
    refine g_aload_n (pc := 274) hG 7 rfl dX4_solveExactly_274 ?_
    refine g_get (pc := 275) hG fl4_57 1 rfl rfl dX4_solveExactly_275 ?_
    refine g_iload_n (pc := 278) hG 8 rfl dX4_solveExactly_278 ?_
    refine g_iaload (pc := 279) hG 4 i rfl rfl (by omega) (by omega) (by decide) dX4_solveExactly_279 ?_
    refine g_imul (pc := 280) hG dX4_solveExactly_280 ?_
    refine g_isub (pc := 281) hG dX4_solveExactly_281 ?_
    refine g_i2l (pc := 282) hG (by exact cr_in (by omega) (by omega) (by omega) (by omega)) dX4_solveExactly_282 ?_
    refine g_lmul (pc := 283) hG dX4_solveExactly_283 ?_
    refine g_ladd (pc := 284) hG dX4_solveExactly_284 ?_
    refine g_lload (pc := 285) hG 0 rfl dX4_solveExactly_285 ?_
    refine g_aload_n (pc := 287) hG 7 rfl dX4_solveExactly_287 ?_
    refine g_get (pc := 288) hG fl4_57 1 rfl rfl dX4_solveExactly_288 ?_
    refine g_iload_n (pc := 291) hG 8 rfl dX4_solveExactly_291 ?_
    refine g_iaload (pc := 292) hG 4 i rfl rfl (by omega) (by omega) (by decide) dX4_solveExactly_292 ?_
    refine g_aload_n (pc := 293) hG 7 rfl dX4_solveExactly_293 ?_
    refine g_get (pc := 294) hG fl4_60 1 rfl rfl dX4_solveExactly_294 ?_
    refine g_iload_n (pc := 297) hG 9 rfl dX4_solveExactly_297 ?_
    refine g_iaload (pc := 298) hG 2 j rfl rfl (by omega) (by omega) (by decide) dX4_solveExactly_298 ?_
    refine g_imul (pc := 299) hG dX4_solveExactly_299 ?_
    refine g_aload_n (pc := 300) hG 7 rfl dX4_solveExactly_300 ?_
    refine g_get (pc := 301) hG fl4_60 1 rfl rfl dX4_solveExactly_301 ?_
    refine g_iload_n (pc := 304) hG 8 rfl dX4_solveExactly_304 ?_
    refine g_iaload (pc := 305) hG 2 i rfl rfl (by omega) (by omega) (by decide) dX4_solveExactly_305 ?_
    refine g_aload_n (pc := 306) hG 7 rfl dX4_solveExactly_306 ?_
    refine g_get (pc := 307) hG fl4_57 1 rfl rfl dX4_solveExactly_307 ?_
    refine g_iload_n (pc := 310) hG 9 rfl dX4_solveExactly_310 ?_
    refine g_iaload (pc := 311) hG 4 j rfl rfl (by omega) (by omega) (by decide) dX4_solveExactly_311 ?_
    refine g_imul (pc := 312) hG dX4_solveExactly_312 ?_
    refine g_isub (pc := 313) hG dX4_solveExactly_313 ?_
    refine g_i2l (pc := 314) hG (by exact cr_in (by omega) (by omega) (by omega) (by omega)) dX4_solveExactly_314 ?_
    refine g_lmul (pc := 315) hG dX4_solveExactly_315 ?_
    refine g_ladd (pc := 316) hG dX4_solveExactly_316 ?_
    refine g_nmL (pc := 317) hG (fun x317 ex317 => ?_)
    refine g_put (pc := 317) hG fp4_68 0 rfl rfl rfl (Nat.le_of_ble_eq_true rfl) (ws' := [lsoC0 cI cL cZ ad (o) (t) (b) (x242) (x317) (w) (x129), ploC0 cI cL cZ ad (o2) (((z : Nat) : Int)), i26C0 cI cL cZ ad (o2 + 1) (A), i26C0 cI cL cZ ad (o2 + 2) (B), i26C0 cI cL cZ ad (o2 + 3) (C), i26C0 cI cL cZ ad (o2 + 4) (T)]) rfl dX4_solveExactly_317 ?_
    refine g_aload_n (pc := 320) hG 6 rfl dX4_solveExactly_320 ?_
    refine g_lload (pc := 321) hG 2 rfl dX4_solveExactly_321 ?_
    refine g_lload (pc := 323) hG 3 rfl dX4_solveExactly_323 ?_
    refine g_lmul (pc := 325) hG dX4_solveExactly_325 ?_
    refine g_lload (pc := 326) hG 1 rfl dX4_solveExactly_326 ?_
    refine g_aload_n (pc := 328) hG 7 rfl dX4_solveExactly_328 ?_
    refine g_get (pc := 329) hG fl4_60 1 rfl rfl dX4_solveExactly_329 ?_
    refine g_iload (pc := 332) hG 10 rfl dX4_solveExactly_332 ?_
    refine g_iaload (pc := 334) hG 2 k rfl rfl (by omega) (by omega) (by decide) dX4_solveExactly_334 ?_
    refine g_aload_n (pc := 335) hG 7 rfl dX4_solveExactly_335 ?_
    refine g_get (pc := 336) hG fl4_53 1 rfl rfl dX4_solveExactly_336 ?_
    refine g_iload_n (pc := 339) hG 8 rfl dX4_solveExactly_339 ?_
    refine g_iaload (pc := 340) hG 3 i rfl rfl (by omega) (by omega) (by decide) dX4_solveExactly_340 ?_
    refine g_imul (pc := 341) hG dX4_solveExactly_341 ?_
    refine g_aload_n (pc := 342) hG 7 rfl dX4_solveExactly_342 ?_
    refine g_get (pc := 343) hG fl4_53 1 rfl rfl dX4_solveExactly_343 ?_
    refine g_iload (pc := 346) hG 10 rfl dX4_solveExactly_346 ?_
    refine g_iaload (pc := 348) hG 3 k rfl rfl (by omega) (by omega) (by decide) dX4_solveExactly_348 ?_
    refine g_aload_n (pc := 349) hG 7 rfl dX4_solveExactly_349 ?_
    refine g_get (pc := 350) hG fl4_60 1 rfl rfl dX4_solveExactly_350 ?_
    refine g_iload_n (pc := 353) hG 8 rfl dX4_solveExactly_353 ?_
    refine g_iaload (pc := 354) hG 2 i rfl rfl (by omega) (by omega) (by decide) dX4_solveExactly_354 ?_
    refine g_imul (pc := 355) hG dX4_solveExactly_355 ?_
    refine g_isub (pc := 356) hG dX4_solveExactly_356 ?_
    refine g_i2l (pc := 357) hG (by exact cr_in (by omega) (by omega) (by omega) (by omega)) dX4_solveExactly_357 ?_
    refine g_lmul (pc := 358) hG dX4_solveExactly_358 ?_
    refine g_ladd (pc := 359) hG dX4_solveExactly_359 ?_
    refine g_lload (pc := 360) hG 0 rfl dX4_solveExactly_360 ?_
    refine g_aload_n (pc := 362) hG 7 rfl dX4_solveExactly_362 ?_
    refine g_get (pc := 363) hG fl4_60 1 rfl rfl dX4_solveExactly_363 ?_
    refine g_iload_n (pc := 366) hG 8 rfl dX4_solveExactly_366 ?_
    refine g_iaload (pc := 367) hG 2 i rfl rfl (by omega) (by omega) (by decide) dX4_solveExactly_367 ?_
    refine g_aload_n (pc := 368) hG 7 rfl dX4_solveExactly_368 ?_
    refine g_get (pc := 369) hG fl4_53 1 rfl rfl dX4_solveExactly_369 ?_
    refine g_iload_n (pc := 372) hG 9 rfl dX4_solveExactly_372 ?_
    refine g_iaload (pc := 373) hG 3 j rfl rfl (by omega) (by omega) (by decide) dX4_solveExactly_373 ?_
    refine g_imul (pc := 374) hG dX4_solveExactly_374 ?_
    refine g_aload_n (pc := 375) hG 7 rfl dX4_solveExactly_375 ?_
    refine g_get (pc := 376) hG fl4_53 1 rfl rfl dX4_solveExactly_376 ?_
    refine g_iload_n (pc := 379) hG 8 rfl dX4_solveExactly_379 ?_
    refine g_iaload (pc := 380) hG 3 i rfl rfl (by omega) (by omega) (by decide) dX4_solveExactly_380 ?_
    refine g_aload_n (pc := 381) hG 7 rfl dX4_solveExactly_381 ?_
    refine g_get (pc := 382) hG fl4_60 1 rfl rfl dX4_solveExactly_382 ?_
    refine g_iload_n (pc := 385) hG 9 rfl dX4_solveExactly_385 ?_
    refine g_iaload (pc := 386) hG 2 j rfl rfl (by omega) (by omega) (by decide) dX4_solveExactly_386 ?_
    refine g_imul (pc := 387) hG dX4_solveExactly_387 ?_
    refine g_isub (pc := 388) hG dX4_solveExactly_388 ?_
    refine g_i2l (pc := 389) hG (by exact cr_in (by omega) (by omega) (by omega) (by omega)) dX4_solveExactly_389 ?_
    refine g_lmul (pc := 390) hG dX4_solveExactly_390 ?_
    refine g_ladd (pc := 391) hG dX4_solveExactly_391 ?_
    refine g_nmL (pc := 392) hG (fun x392 ex392 => ?_)
    refine g_put (pc := 392) hG fp4_70 0 rfl rfl rfl (Nat.le_of_ble_eq_true rfl) (ws' := [lsoC0 cI cL cZ ad (o) (t) (b) (x242) (x317) (x392) (x129), ploC0 cI cL cZ ad (o2) (((z : Nat) : Int)), i26C0 cI cL cZ ad (o2 + 1) (A), i26C0 cI cL cZ ad (o2 + 2) (B), i26C0 cI cL cZ ad (o2 + 3) (C), i26C0 cI cL cZ ad (o2 + 4) (T)]) rfl dX4_solveExactly_392 ?_
    exact g_return (pc := 395) hG ⟨x242, x317, x392, x129, hdv, fun _ => ⟨by rw [ex242, ex30]; rfl, by rw [ex317, ex62]; rfl, by rw [ex392, ex94]; rfl⟩, rfl, rfl⟩ dX4_solveExactly_395
  · exact g_return (pc := 141) hG ⟨x, y, w, x129, hdv, fun h => absurd h137 h, rfl, rfl⟩ dX4_solveExactly_141
set_option maxHeartbeats 4000000 in
set_option maxRecDepth 100000 in
theorem c_X4_sumBelow {l : Launch} {D : va_G} {cI cL cZ cX cG : ClassId} (ad : Nat → Nat) (o : Nat) (o2 : Nat) (t : Int) (b : Int) (x : Int) (y : Int) (w : Int) (d : Int) (A : Nat → Int) (B : Nat → Int) (C : Nat → Int) (T : Nat → Int) (z : Nat) (bd : Int) (hz : z ≤ 24) (hB : PlB A B C T z) (hS : SzB x y w d) (hb : 0 ≤ b ∧ b ≤ 4374) (hbd : -10000000000000 ≤ bd ∧ bd ≤ 10000000000000) : Ct l D (gT cI cL cZ cX cG) yX4_sumBelow cX4_sumBelow 21 (some .long) ({ frames := 1, cells := 0, slots := 0, locals := 40 }) [.ref (ad (o)), .ref (ad (o2)), lV (bd)] ([lsoC0 cI cL cZ ad (o) (t) (b) (x) (y) (w) (d), ploC0 cI cL cZ ad (o2) (((z : Nat) : Int)), i26C0 cI cL cZ ad (o2 + 1) (A), i26C0 cI cL cZ ad (o2 + 2) (B), i26C0 cI cL cZ ad (o2 + 3) (C), i26C0 cI cL cZ ad (o2 + 4) (T)]) (fun vv_ ww_ => vv_ = some (lV (sbZ A B C T x y w d b bd z)) ∧ ww_ = [lsoC0 cI cL cZ ad (o) (t) (b) (x) (y) (w) (d), ploC0 cI cL cZ ad (o2) (((z : Nat) : Int)), i26C0 cI cL cZ ad (o2 + 1) (A), i26C0 cI cL cZ ad (o2 + 2) (B), i26C0 cI cL cZ ad (o2 + 3) (C), i26C0 cI cL cZ ad (o2 + 4) (T)]) := by
  refine Ct.of (by decide) (Nat.le_of_ble_eq_true rfl) (fun G hG => ?_)
  show G 0 [(0, .ref (ad (o))), (1, .ref (ad (o2))), (2, lV (bd))] [] ([lsoC0 cI cL cZ ad (o) (t) (b) (x) (y) (w) (d), ploC0 cI cL cZ ad (o2) (((z : Nat) : Int)), i26C0 cI cL cZ ad (o2 + 1) (A), i26C0 cI cL cZ ad (o2 + 2) (B), i26C0 cI cL cZ ad (o2 + 3) (C), i26C0 cI cL cZ ad (o2 + 4) (T)])
  refine g_aload_n (pc := 0) hG 1 rfl dX4_sumBelow_0 ?_
  refine g_get (pc := 1) hG fl4_60 1 rfl rfl dX4_sumBelow_1 ?_
  refine g_astore (pc := 4) hG (by decide) (lv' := [(4, .ref (ad (o2 + 1))), (0, .ref (ad (o))), (1, .ref (ad (o2))), (2, lV (bd))]) rfl dX4_sumBelow_4 ?_
  refine g_aload_n (pc := 6) hG 2 rfl dX4_sumBelow_6 ?_
  refine g_get (pc := 7) hG fl4_53 1 rfl rfl dX4_sumBelow_7 ?_
  refine g_astore (pc := 10) hG (by decide) (lv' := [(5, .ref (ad (o2 + 2))), (4, .ref (ad (o2 + 1))), (0, .ref (ad (o))), (1, .ref (ad (o2))), (2, lV (bd))]) rfl dX4_sumBelow_10 ?_
  refine g_aload_n (pc := 12) hG 3 rfl dX4_sumBelow_12 ?_
  refine g_get (pc := 13) hG fl4_57 1 rfl rfl dX4_sumBelow_13 ?_
  refine g_astore (pc := 16) hG (by decide) (lv' := [(6, .ref (ad (o2 + 3))), (5, .ref (ad (o2 + 2))), (4, .ref (ad (o2 + 1))), (0, .ref (ad (o))), (1, .ref (ad (o2))), (2, lV (bd))]) rfl dX4_sumBelow_16 ?_
  refine g_aload_n (pc := 18) hG 4 rfl dX4_sumBelow_18 ?_
  refine g_get (pc := 19) hG fl4_63 1 rfl rfl dX4_sumBelow_19 ?_
  refine g_astore (pc := 22) hG (by decide) (lv' := [(7, .ref (ad (o2 + 4))), (6, .ref (ad (o2 + 3))), (5, .ref (ad (o2 + 2))), (4, .ref (ad (o2 + 1))), (0, .ref (ad (o))), (1, .ref (ad (o2))), (2, lV (bd))]) rfl dX4_sumBelow_22 ?_
  refine g_aload_n (pc := 24) hG 4 rfl dX4_sumBelow_24 ?_
  refine g_get (pc := 25) hG fl4_66 0 rfl rfl dX4_sumBelow_25 ?_
  refine g_lstore (pc := 28) hG (by decide) (lv' := [(8, lV (x)), (7, .ref (ad (o2 + 4))), (6, .ref (ad (o2 + 3))), (5, .ref (ad (o2 + 2))), (4, .ref (ad (o2 + 1))), (0, .ref (ad (o))), (1, .ref (ad (o2))), (2, lV (bd))]) rfl dX4_sumBelow_28 ?_
  refine g_aload_n (pc := 30) hG 5 rfl dX4_sumBelow_30 ?_
  refine g_get (pc := 31) hG fl4_68 0 rfl rfl dX4_sumBelow_31 ?_
  refine g_lstore (pc := 34) hG (by decide) (lv' := [(10, lV (y)), (8, lV (x)), (7, .ref (ad (o2 + 4))), (6, .ref (ad (o2 + 3))), (5, .ref (ad (o2 + 2))), (4, .ref (ad (o2 + 1))), (0, .ref (ad (o))), (1, .ref (ad (o2))), (2, lV (bd))]) rfl dX4_sumBelow_34 ?_
  refine g_aload_n (pc := 36) hG 6 rfl dX4_sumBelow_36 ?_
  refine g_get (pc := 37) hG fl4_70 0 rfl rfl dX4_sumBelow_37 ?_
  refine g_lstore (pc := 40) hG (by decide) (lv' := [(12, lV (w)), (10, lV (y)), (8, lV (x)), (7, .ref (ad (o2 + 4))), (6, .ref (ad (o2 + 3))), (5, .ref (ad (o2 + 2))), (4, .ref (ad (o2 + 1))), (0, .ref (ad (o))), (1, .ref (ad (o2))), (2, lV (bd))]) rfl dX4_sumBelow_40 ?_
  refine g_aload_n (pc := 42) hG 7 rfl dX4_sumBelow_42 ?_
  refine g_get (pc := 43) hG fl4_42 0 rfl rfl dX4_sumBelow_43 ?_
  refine g_lstore (pc := 46) hG (by decide) (lv' := [(14, lV (d)), (12, lV (w)), (10, lV (y)), (8, lV (x)), (7, .ref (ad (o2 + 4))), (6, .ref (ad (o2 + 3))), (5, .ref (ad (o2 + 2))), (4, .ref (ad (o2 + 1))), (0, .ref (ad (o))), (1, .ref (ad (o2))), (2, lV (bd))]) rfl dX4_sumBelow_46 ?_
  refine g_aload_n (pc := 48) hG 8 rfl dX4_sumBelow_48 ?_
  refine g_get (pc := 49) hG fl4_19 0 rfl rfl dX4_sumBelow_49 ?_
  refine g_lstore (pc := 52) hG (by decide) (lv' := [(16, lV (b)), (14, lV (d)), (12, lV (w)), (10, lV (y)), (8, lV (x)), (7, .ref (ad (o2 + 4))), (6, .ref (ad (o2 + 3))), (5, .ref (ad (o2 + 2))), (4, .ref (ad (o2 + 1))), (0, .ref (ad (o))), (1, .ref (ad (o2))), (2, lV (bd))]) rfl dX4_sumBelow_52 ?_
  refine g_lconst (z := 0) (pc := 54) hG dX4_sumBelow_54 (by decide) ?_
  refine g_lstore (pc := 55) hG (by decide) (lv' := [(18, lV (0)), (16, lV (b)), (14, lV (d)), (12, lV (w)), (10, lV (y)), (8, lV (x)), (7, .ref (ad (o2 + 4))), (6, .ref (ad (o2 + 3))), (5, .ref (ad (o2 + 2))), (4, .ref (ad (o2 + 1))), (0, .ref (ad (o))), (1, .ref (ad (o2))), (2, lV (bd))]) rfl dX4_sumBelow_55 ?_
  refine g_iconst (pc := 57) hG dX4_sumBelow_57 ?_
  refine g_istore (pc := 58) hG (by decide) (lv' := [(20, iV (0)), (18, lV (0)), (16, lV (b)), (14, lV (d)), (12, lV (w)), (10, lV (y)), (8, lV (x)), (7, .ref (ad (o2 + 4))), (6, .ref (ad (o2 + 3))), (5, .ref (ad (o2 + 2))), (4, .ref (ad (o2 + 1))), (0, .ref (ad (o))), (1, .ref (ad (o2))), (2, lV (bd))]) rfl dX4_sumBelow_58 ?_
  have L60 : ∀ (fu60 : Nat) (r : Nat) (q : Int), z - r < fu60 → (r ≤ z) → (q = sumA A B C T x y w d r) → (r = 0 ∨ b = 0 ∨ q * b < bd) → G 60 [(0, .ref (ad (o))), (1, .ref (ad (o2))), (2, lV (bd)), (4, .ref (ad (o2 + 1))), (5, .ref (ad (o2 + 2))), (6, .ref (ad (o2 + 3))), (7, .ref (ad (o2 + 4))), (8, lV (x)), (10, lV (y)), (12, lV (w)), (14, lV (d)), (16, lV (b)), (18, lV (q)), (20, iV (((r : Nat) : Int)))] [] ([lsoC0 cI cL cZ ad (o) (t) (b) (x) (y) (w) (d), ploC0 cI cL cZ ad (o2) (((z : Nat) : Int)), i26C0 cI cL cZ ad (o2 + 1) (A), i26C0 cI cL cZ ad (o2 + 2) (B), i26C0 cI cL cZ ad (o2 + 3) (C), i26C0 cI cL cZ ad (o2 + 4) (T)]) := by
    intro fu60
    induction fu60 with
    | zero => intro r q hm; exact absurd hm (Nat.not_lt_zero _)
    | succ fu60 ih60 =>
      intro r q hm60 hr hq hl
      refine g_iload (pc := 60) hG 13 rfl dX4_sumBelow_60 ?_
      refine g_aload_n (pc := 62) hG 1 rfl dX4_sumBelow_62 ?_
      refine g_get (pc := 63) hG fl4_22 1 rfl rfl dX4_sumBelow_63 ?_
      refine g_icmp_ge (pc := 66) hG (by omega) (by omega) (tgt := 143) (by decide) dX4_sumBelow_66 (fun h66 => ?_) (fun h66 => ?_)
      · refine g_lload (pc := 143) hG 12 rfl dX4_sumBelow_143 ?_
        exact g_lreturn (pc := 145) hG ⟨sL (sb_yes hq (by omega) hl), rfl⟩ dX4_sumBelow_145
      · refine g_lload (pc := 69) hG 12 rfl dX4_sumBelow_69 ?_
        refine g_aload (pc := 71) hG 6 rfl dX4_sumBelow_71 ?_
        refine g_iload (pc := 73) hG 13 rfl dX4_sumBelow_73 ?_
        obtain ⟨b1, b2, b3, b4⟩ := hB r (by omega)
        have hab := ms_bd hB hS (show r < z + 2 by omega)
        have hqb := sum_bd hB hS (show r ≤ z + 2 by omega)
        rw [← hq] at hqb
        refine g_iaload (pc := 75) hG 5 r rfl rfl (by omega) (by omega) (by decide) dX4_sumBelow_75 ?_
        refine g_i2l (pc := 76) hG (by omega) dX4_sumBelow_76 ?_
        refine g_lload (pc := 77) hG 10 rfl dX4_sumBelow_77 ?_
        refine g_lmul (pc := 79) hG dX4_sumBelow_79 ?_
        refine g_aload (pc := 80) hG 3 rfl dX4_sumBelow_80 ?_
        refine g_iload (pc := 82) hG 13 rfl dX4_sumBelow_82 ?_
        refine g_iaload (pc := 84) hG 2 r rfl rfl (by omega) (by omega) (by decide) dX4_sumBelow_84 ?_
        refine g_i2l (pc := 85) hG (by omega) dX4_sumBelow_85 ?_
        refine g_lload (pc := 86) hG 7 rfl dX4_sumBelow_86 ?_
        refine g_lmul (pc := 88) hG dX4_sumBelow_88 ?_
        refine g_lsub (pc := 89) hG dX4_sumBelow_89 ?_
        refine g_aload (pc := 90) hG 4 rfl dX4_sumBelow_90 ?_
        refine g_iload (pc := 92) hG 13 rfl dX4_sumBelow_92 ?_
        refine g_iaload (pc := 94) hG 3 r rfl rfl (by omega) (by omega) (by decide) dX4_sumBelow_94 ?_
        refine g_i2l (pc := 95) hG (by omega) dX4_sumBelow_95 ?_
        refine g_lload (pc := 96) hG 8 rfl dX4_sumBelow_96 ?_
        refine g_lmul (pc := 98) hG dX4_sumBelow_98 ?_
        refine g_lsub (pc := 99) hG dX4_sumBelow_99 ?_
        refine g_aload (pc := 100) hG 5 rfl dX4_sumBelow_100 ?_
        refine g_iload (pc := 102) hG 13 rfl dX4_sumBelow_102 ?_
        refine g_iaload (pc := 104) hG 4 r rfl rfl (by omega) (by omega) (by decide) dX4_sumBelow_104 ?_
        refine g_i2l (pc := 105) hG (by omega) dX4_sumBelow_105 ?_
        refine g_lload (pc := 106) hG 9 rfl dX4_sumBelow_106 ?_
        refine g_lmul (pc := 108) hG dX4_sumBelow_108 ?_
        refine g_lsub (pc := 109) hG dX4_sumBelow_109 ?_
        refine g_labs (pc := 110) hG ⟨(inB wd_611 rfl), (inB wd_479 rfl), (inB wd_61 rfl), (inB wd_480 rfl)⟩ ⟨Nat.le_of_ble_eq_true rfl, Nat.le_of_ble_eq_true rfl⟩ (by omega) dX4_sumBelow_110 ?_
        refine g_ladd (pc := 113) hG dX4_sumBelow_113 ?_
        refine g_nmL (pc := 114) hG (fun x114 ex114 => ?_)
        refine g_lstore (pc := 114) hG (by decide) (lv' := [(18, lV (x114)), (0, .ref (ad (o))), (1, .ref (ad (o2))), (2, lV (bd)), (4, .ref (ad (o2 + 1))), (5, .ref (ad (o2 + 2))), (6, .ref (ad (o2 + 3))), (7, .ref (ad (o2 + 4))), (8, lV (x)), (10, lV (y)), (12, lV (w)), (14, lV (d)), (16, lV (b)), (20, iV (((r : Nat) : Int)))]) rfl dX4_sumBelow_114 ?_
        refine g_lload (pc := 116) hG 12 rfl dX4_sumBelow_116 ?_
        refine g_lconst (z := 0) (pc := 118) hG dX4_sumBelow_118 (by decide) ?_
        have hq2 := sum_bd hB hS (show r + 1 ≤ z + 2 by omega)
        have hx114 : x114 = sumA A B C T x y w d (r + 1) := by rw [ex114, hq]; rfl
        rw [← hx114] at hq2
        have hmb := mul_bd (a := x114) (b := b) (A := 50000000) (B := 4374) (by omega) (by omega)
        have J137 : ∀ (_ : Unit), (((b = 0)) ∨ ((¬ b = 0) ∧ (x114 * b < bd))) → G 137 [(0, .ref (ad (o))), (1, .ref (ad (o2))), (2, lV (bd)), (4, .ref (ad (o2 + 1))), (5, .ref (ad (o2 + 2))), (6, .ref (ad (o2 + 3))), (7, .ref (ad (o2 + 4))), (8, lV (x)), (10, lV (y)), (12, lV (w)), (14, lV (d)), (16, lV (b)), (18, lV (x114)), (20, iV (((r : Nat) : Int)))] [] ([lsoC0 cI cL cZ ad (o) (t) (b) (x) (y) (w) (d), ploC0 cI cL cZ ad (o2) (((z : Nat) : Int)), i26C0 cI cL cZ ad (o2 + 1) (A), i26C0 cI cL cZ ad (o2 + 2) (B), i26C0 cI cL cZ ad (o2 + 3) (C), i26C0 cI cL cZ ad (o2 + 4) (T)]) := by
          intro _ k137
          refine g_iinc (pc := 137) hG 13 rfl (by decide) (lv' := [(20, iV ((((r : Nat) : Int)) + 1)), (0, .ref (ad (o))), (1, .ref (ad (o2))), (2, lV (bd)), (4, .ref (ad (o2 + 1))), (5, .ref (ad (o2 + 2))), (6, .ref (ad (o2 + 3))), (7, .ref (ad (o2 + 4))), (8, lV (x)), (10, lV (y)), (12, lV (w)), (14, lV (d)), (16, lV (b)), (18, lV (x114))]) rfl dX4_sumBelow_137 ?_
          refine g_goto (pc := 140) hG (tgt := 60) (by decide) dX4_sumBelow_140 ?_
          exact g_lv (pc := 60) hG [1, 2, 3, 4, 5, 6, 7, 8, 9, 10, 11, 12, 13, 0] rfl (ih60 (r + 1) x114 (by omega) (by omega) (by rw [ex114, hq]; rfl) (Or.inr (by rcases k137 with h | h; exact Or.inl h; exact Or.inr h.2)))
        refine g_lc_eq (pc := 119) hG (by omega) (by omega) (tgt := 137) (by decide) dX4_sumBelow_119 dX4_sumBelow_120 (fun h119 => ?_) (fun h119 => ?_)
        · exact g_lv (pc := 137) hG [1, 2, 3, 4, 5, 6, 7, 8, 9, 10, 11, 12, 0, 13] rfl (J137 () (Or.inl (h119)))
        · refine g_lload (pc := 123) hG 0 rfl dX4_sumBelow_123 ?_
          refine g_lload (pc := 125) hG 12 rfl dX4_sumBelow_125 ?_
          refine g_lmul (pc := 127) hG dX4_sumBelow_127 ?_
          refine g_lload_n (pc := 128) hG 3 rfl dX4_sumBelow_128 ?_
          refine g_lc_lt (pc := 129) hG (by omega) (by omega) (tgt := 137) (by decide) dX4_sumBelow_129 dX4_sumBelow_130 (fun h129 => ?_) (fun h129 => ?_)
          · exact g_lv (pc := 137) hG [1, 2, 3, 4, 5, 6, 7, 8, 9, 10, 11, 12, 0, 13] rfl (J137 () (Or.inr (⟨h119, h129⟩)))
          · refine g_ldc2 (z := -1) (pc := 133) hG (v := -1) (inB wd_606 rfl) (by decide) dX4_sumBelow_133 ?_
            exact g_lreturn (pc := 136) hG ⟨sL (sb_no hb (by omega) hx114 h119 (by omega) hB hS), rfl⟩ dX4_sumBelow_136
  exact g_lv (pc := 60) hG [11, 12, 13, 10, 9, 8, 7, 6, 5, 4, 3, 2, 1, 0] rfl (L60 _ 0 0 (Nat.lt_succ_self _) (by omega) (rfl) (Or.inl rfl))
set_option maxHeartbeats 4000000 in
set_option maxRecDepth 100000 in
theorem c_X4_takeIfLess {l : Launch} {D : va_G} {cI cL cZ cX cG : ClassId} (ad : Nat → Nat) (o : Nat) (o2 : Nat) (t : Int) (b : Int) (x : Int) (y : Int) (w : Int) (d : Int) (f : Nat → Int) (A : Nat → Int) (B : Nat → Int) (C : Nat → Int) (T : Nat → Int) (z : Nat) (hz : 1 ≤ z ∧ z ≤ 24) (hB : PlB A B C T z) (hS : SzB x y w d) (hd0 : d ≠ 0) (ht : 0 ≤ t ∧ t ≤ 50000000) (hb : 0 ≤ b ∧ b ≤ 4374) : Ct l D (gT cI cL cZ cX cG) yX4_takeIfLess cX4_takeIfLess 8 none ({ frames := 2, cells := 0, slots := 0, locals := 80 }) [.ref (ad (o)), .ref (ad (o2))] ([lsoC0 cI cL cZ ad (o) (t) (b) (x) (y) (w) (d), l3C0 cI cL cZ ad (o + 1) (f), ploC0 cI cL cZ ad (o2) (((z : Nat) : Int)), i26C0 cI cL cZ ad (o2 + 1) (A), i26C0 cI cL cZ ad (o2 + 2) (B), i26C0 cI cL cZ ad (o2 + 3) (C), i26C0 cI cL cZ ad (o2 + 4) (T)]) (fun vv_ ww_ => ∃ (t2 : Int), ∃ (b2 : Int), ∃ (f2 : Nat → Int), (TkR A B C T z x y w d t b f t2 b2 f2) ∧ vv_ = none ∧ ww_ = [lsoC0 cI cL cZ ad (o) (t2) (b2) (x) (y) (w) (d), l3C0 cI cL cZ ad (o + 1) (f2), ploC0 cI cL cZ ad (o2) (((z : Nat) : Int)), i26C0 cI cL cZ ad (o2 + 1) (A), i26C0 cI cL cZ ad (o2 + 2) (B), i26C0 cI cL cZ ad (o2 + 3) (C), i26C0 cI cL cZ ad (o2 + 4) (T)]) := by
  refine Ct.of (by decide) (Nat.le_of_ble_eq_true rfl) (fun G hG => ?_)
  show G 0 [(0, .ref (ad (o))), (1, .ref (ad (o2)))] [] ([lsoC0 cI cL cZ ad (o) (t) (b) (x) (y) (w) (d), l3C0 cI cL cZ ad (o + 1) (f), ploC0 cI cL cZ ad (o2) (((z : Nat) : Int)), i26C0 cI cL cZ ad (o2 + 1) (A), i26C0 cI cL cZ ad (o2 + 2) (B), i26C0 cI cL cZ ad (o2 + 3) (C), i26C0 cI cL cZ ad (o2 + 4) (T)])
  refine g_aload_n (pc := 0) hG 0 rfl dX4_takeIfLess_0 ?_
  refine g_get (pc := 1) hG fl4_42 0 rfl rfl dX4_takeIfLess_1 ?_
  refine g_lconst (z := 0) (pc := 4) hG dX4_takeIfLess_4 (by decide) ?_
  obtain ⟨sx, sy, sw, sd⟩ := id hS
  have J16 : ∀ (j16s0 : Int), (((0 ≤ d) ∧ j16s0 = 1) ∨ ((¬ 0 ≤ d) ∧ j16s0 = -1)) → G 16 [(0, .ref (ad (o))), (1, .ref (ad (o2)))] [lV (j16s0)] ([lsoC0 cI cL cZ ad (o) (t) (b) (x) (y) (w) (d), l3C0 cI cL cZ ad (o + 1) (f), ploC0 cI cL cZ ad (o2) (((z : Nat) : Int)), i26C0 cI cL cZ ad (o2 + 1) (A), i26C0 cI cL cZ ad (o2 + 2) (B), i26C0 cI cL cZ ad (o2 + 3) (C), i26C0 cI cL cZ ad (o2 + 4) (T)]) := by
    intro j16s0 k16
    refine g_lstore_n (pc := 16) hG (by decide) (lv' := [(2, lV (j16s0)), (0, .ref (ad (o))), (1, .ref (ad (o2)))]) rfl dX4_takeIfLess_16 ?_
    refine g_lload_n (pc := 17) hG 0 rfl dX4_takeIfLess_17 ?_
    refine g_aload_n (pc := 18) hG 1 rfl dX4_takeIfLess_18 ?_
    refine g_get (pc := 19) hG fl4_42 0 rfl rfl dX4_takeIfLess_19 ?_
    refine g_lmul (pc := 22) hG dX4_takeIfLess_22 ?_
    refine g_nmL (pc := 23) hG (fun x23 ex23 => ?_)
    refine g_lstore (pc := 23) hG (by decide) (lv' := [(4, lV (x23)), (2, lV (j16s0)), (0, .ref (ad (o))), (1, .ref (ad (o2)))]) rfl dX4_takeIfLess_23 ?_
    refine g_aload_n (pc := 25) hG 2 rfl dX4_takeIfLess_25 ?_
    refine g_aload_n (pc := 26) hG 3 rfl dX4_takeIfLess_26 ?_
    refine g_aload_n (pc := 27) hG 2 rfl dX4_takeIfLess_27 ?_
    refine g_get (pc := 28) hG fl4_15 0 rfl rfl dX4_takeIfLess_28 ?_
    refine g_lload (pc := 31) hG 0 rfl dX4_takeIfLess_31 ?_
    refine g_lmul (pc := 33) hG dX4_takeIfLess_33 ?_
    have hnb : x23 = (d.natAbs : Int) := by rcases k16 with h | h <;> rw [ex23, h.2] <;> omega
    have htb := mul_bd (a := t) (b := x23) (A := 50000000) (B := 4374) (by omega) (by omega)
    refine g_callV (pc := 34) hG (As := [.ref (ad (o2)), lV (t * x23)]) (rest := []) (c_X4_sumBelow (l := l) (D := D) (cI := cI) (cL := cL) (cZ := cZ) (cX := cX) (cG := cG) ad o o2 t b x y w d A B C T z (t * x23) (by omega) (hB) (hS) (hb) (by omega)) (Sp.sel [0, 2, 3, 4, 5, 6] rfl (by decide)) cv4_74 ⟨rfl, rfl⟩ ⟨Nat.le_of_ble_eq_true rfl, Nat.le_of_ble_eq_true rfl⟩ 0 rfl rfl rfl rfl (Nat.le_of_ble_eq_true rfl) dX4_takeIfLess_34 (fun v w1 h => ?_)
    obtain ⟨rfl, rfl⟩ := h
    show G 37 [(4, lV (x23)), (2, lV (j16s0)), (0, .ref (ad (o))), (1, .ref (ad (o2)))] [lV (sbZ A B C T x y w d b (t * x23) z)] ([lsoC0 cI cL cZ ad (o) (t) (b) (x) (y) (w) (d), l3C0 cI cL cZ ad (o + 1) (f), ploC0 cI cL cZ ad (o2) (((z : Nat) : Int)), i26C0 cI cL cZ ad (o2 + 1) (A), i26C0 cI cL cZ ad (o2 + 2) (B), i26C0 cI cL cZ ad (o2 + 3) (C), i26C0 cI cL cZ ad (o2 + 4) (T)])
    refine g_nmL (pc := 37) hG (fun x37 ex37 => ?_)
    refine g_lstore (pc := 37) hG (by decide) (lv' := [(6, lV (x37)), (4, lV (x23)), (2, lV (j16s0)), (0, .ref (ad (o))), (1, .ref (ad (o2)))]) rfl dX4_takeIfLess_37 ?_
    refine g_lload (pc := 39) hG 0 rfl dX4_takeIfLess_39 ?_
    refine g_ldc2 (z := -1) (pc := 41) hG (v := -1) (inB wd_606 rfl) (by decide) dX4_takeIfLess_41 ?_
    have hsb := sb_bd hB hS (b := b) (bd := t * x23) (z := z) (by omega)
    have J96 : ∀ (j96lso0t : Int) (j96lso0b : Int) (j96l31f : Nat → Int), (((x37 = -1) ∧ j96lso0t = t ∧ j96lso0b = b ∧ j96l31f = f) ∨ ((¬ x37 = -1) ∧ j96lso0t = x37 ∧ j96lso0b = x23 ∧ j96l31f = upZ (upZ (upZ f 0 (j16s0 * x)) 1 (j16s0 * y)) 2 (j16s0 * w))) → G 96 [(0, .ref (ad (o))), (1, .ref (ad (o2))), (2, lV (j16s0)), (4, lV (x23)), (6, lV (x37))] [] ([lsoC0 cI cL cZ ad (o) (j96lso0t) (j96lso0b) (x) (y) (w) (d), l3C0 cI cL cZ ad (o + 1) (j96l31f), ploC0 cI cL cZ ad (o2) (((z : Nat) : Int)), i26C0 cI cL cZ ad (o2 + 1) (A), i26C0 cI cL cZ ad (o2 + 2) (B), i26C0 cI cL cZ ad (o2 + 3) (C), i26C0 cI cL cZ ad (o2 + 4) (T)]) := by
      intro j96lso0t j96lso0b j96l31f k96
      exact g_return (pc := 96) hG ⟨j96lso0t, j96lso0b, j96l31f, TkR.of hd0 hz.1 hb k16 ex23 hB hS ex37 k96 hz.2, rfl, rfl⟩ dX4_takeIfLess_96
    refine g_lc_eq (pc := 44) hG (by omega) (by omega) (tgt := 96) (by decide) dX4_takeIfLess_44 dX4_takeIfLess_45 (fun h44 => ?_) (fun h44 => ?_)
    · exact g_lv (pc := 96) hG [3, 4, 2, 1, 0] rfl (J96 t b f (Or.inl ⟨h44, rfl, rfl, rfl⟩))
    · refine g_aload_n (pc := 48) hG 3 rfl dX4_takeIfLess_48 ?_
      refine g_lload (pc := 49) hG 0 rfl dX4_takeIfLess_49 ?_
      refine g_put (pc := 51) hG fp4_15 0 rfl rfl rfl (Nat.le_of_ble_eq_true rfl) (ws' := [lsoC0 cI cL cZ ad (o) (x37) (b) (x) (y) (w) (d), l3C0 cI cL cZ ad (o + 1) (f), ploC0 cI cL cZ ad (o2) (((z : Nat) : Int)), i26C0 cI cL cZ ad (o2 + 1) (A), i26C0 cI cL cZ ad (o2 + 2) (B), i26C0 cI cL cZ ad (o2 + 3) (C), i26C0 cI cL cZ ad (o2 + 4) (T)]) rfl dX4_takeIfLess_51 ?_
      refine g_aload_n (pc := 54) hG 3 rfl dX4_takeIfLess_54 ?_
      refine g_lload (pc := 55) hG 1 rfl dX4_takeIfLess_55 ?_
      refine g_put (pc := 57) hG fp4_19 0 rfl rfl rfl (Nat.le_of_ble_eq_true rfl) (ws' := [lsoC0 cI cL cZ ad (o) (x37) (x23) (x) (y) (w) (d), l3C0 cI cL cZ ad (o + 1) (f), ploC0 cI cL cZ ad (o2) (((z : Nat) : Int)), i26C0 cI cL cZ ad (o2 + 1) (A), i26C0 cI cL cZ ad (o2 + 2) (B), i26C0 cI cL cZ ad (o2 + 3) (C), i26C0 cI cL cZ ad (o2 + 4) (T)]) rfl dX4_takeIfLess_57 ?_
      refine g_aload_n (pc := 60) hG 3 rfl dX4_takeIfLess_60 ?_
      refine g_get (pc := 61) hG fl4_9 0 rfl rfl dX4_takeIfLess_61 ?_
      refine g_iconst (pc := 64) hG dX4_takeIfLess_64 ?_
      refine g_lload_n (pc := 65) hG 2 rfl dX4_takeIfLess_65 ?_
      refine g_aload_n (pc := 66) hG 3 rfl dX4_takeIfLess_66 ?_
      refine g_get (pc := 67) hG fl4_66 0 rfl rfl dX4_takeIfLess_67 ?_
      refine g_lmul (pc := 70) hG dX4_takeIfLess_70 ?_
      refine g_lastore (pc := 71) hG 1 0 rfl rfl (by omega) (by omega) (by decide) (ws' := [lsoC0 cI cL cZ ad (o) (x37) (x23) (x) (y) (w) (d), l3C0 cI cL cZ ad (o + 1) (upZ f 0 (j16s0 * x)), ploC0 cI cL cZ ad (o2) (((z : Nat) : Int)), i26C0 cI cL cZ ad (o2 + 1) (A), i26C0 cI cL cZ ad (o2 + 2) (B), i26C0 cI cL cZ ad (o2 + 3) (C), i26C0 cI cL cZ ad (o2 + 4) (T)]) rfl dX4_takeIfLess_71 ?_
      refine g_aload_n (pc := 72) hG 3 rfl dX4_takeIfLess_72 ?_
      refine g_get (pc := 73) hG fl4_9 0 rfl rfl dX4_takeIfLess_73 ?_
      refine g_iconst (pc := 76) hG dX4_takeIfLess_76 ?_
      refine g_lload_n (pc := 77) hG 2 rfl dX4_takeIfLess_77 ?_
      refine g_aload_n (pc := 78) hG 3 rfl dX4_takeIfLess_78 ?_
      refine g_get (pc := 79) hG fl4_68 0 rfl rfl dX4_takeIfLess_79 ?_
      refine g_lmul (pc := 82) hG dX4_takeIfLess_82 ?_
      refine g_lastore (pc := 83) hG 1 1 rfl rfl (by omega) (by omega) (by decide) (ws' := [lsoC0 cI cL cZ ad (o) (x37) (x23) (x) (y) (w) (d), l3C0 cI cL cZ ad (o + 1) (upZ (upZ f 0 (j16s0 * x)) 1 (j16s0 * y)), ploC0 cI cL cZ ad (o2) (((z : Nat) : Int)), i26C0 cI cL cZ ad (o2 + 1) (A), i26C0 cI cL cZ ad (o2 + 2) (B), i26C0 cI cL cZ ad (o2 + 3) (C), i26C0 cI cL cZ ad (o2 + 4) (T)]) rfl dX4_takeIfLess_83 ?_
      refine g_aload_n (pc := 84) hG 3 rfl dX4_takeIfLess_84 ?_
      refine g_get (pc := 85) hG fl4_9 0 rfl rfl dX4_takeIfLess_85 ?_
      refine g_iconst (pc := 88) hG dX4_takeIfLess_88 ?_
      refine g_lload_n (pc := 89) hG 2 rfl dX4_takeIfLess_89 ?_
      refine g_aload_n (pc := 90) hG 3 rfl dX4_takeIfLess_90 ?_
      refine g_get (pc := 91) hG fl4_70 0 rfl rfl dX4_takeIfLess_91 ?_
      refine g_lmul (pc := 94) hG dX4_takeIfLess_94 ?_
      refine g_lastore (pc := 95) hG 1 2 rfl rfl (by omega) (by omega) (by decide) (ws' := [lsoC0 cI cL cZ ad (o) (x37) (x23) (x) (y) (w) (d), l3C0 cI cL cZ ad (o + 1) (upZ (upZ (upZ f 0 (j16s0 * x)) 1 (j16s0 * y)) 2 (j16s0 * w)), ploC0 cI cL cZ ad (o2) (((z : Nat) : Int)), i26C0 cI cL cZ ad (o2 + 1) (A), i26C0 cI cL cZ ad (o2 + 2) (B), i26C0 cI cL cZ ad (o2 + 3) (C), i26C0 cI cL cZ ad (o2 + 4) (T)]) rfl dX4_takeIfLess_95 ?_
      exact g_lv (pc := 96) hG [3, 4, 2, 1, 0] rfl (J96 x37 x23 (upZ (upZ (upZ f 0 (j16s0 * x)) 1 (j16s0 * y)) 2 (j16s0 * w)) (Or.inr (⟨h44, rfl, rfl, rfl⟩)))
  refine g_lc_ge (pc := 5) hG (by omega) (by omega) (tgt := 15) (by decide) dX4_takeIfLess_5 dX4_takeIfLess_6 (fun h5 => ?_) (fun h5 => ?_)
  · refine g_lconst (z := 1) (pc := 15) hG dX4_takeIfLess_15 (by decide) ?_
    exact g_lv (pc := 16) hG [0, 1] rfl (J16 1 (Or.inl ⟨h5, rfl⟩))
  · refine g_ldc2 (z := -1) (pc := 9) hG (v := -1) (inB wd_606 rfl) (by decide) dX4_takeIfLess_9 ?_
    refine g_goto (pc := 12) hG (tgt := 16) (by decide) dX4_takeIfLess_12 ?_
    exact g_lv (pc := 16) hG [0, 1] rfl (J16 (-1) (Or.inr (⟨h5, rfl⟩)))
set_option maxHeartbeats 4000000 in
set_option maxRecDepth 100000 in
theorem c_X4_find {l : Launch} {D : va_G} {cI cL cZ cX cG : ClassId} (ad : Nat → Nat) (o : Nat) (o2 : Nat) (o3 : Nat) (t : Int) (b : Int) (x : Int) (y : Int) (w : Int) (d : Int) (f : Nat → Int) (A : Nat → Int) (B : Nat → Int) (C : Nat → Int) (T : Nat → Int) (z : Nat) (p : Nat → Int) (k : Int) (z2 : Int) (m : Nat) (hm : 1 ≤ m ∧ m ≤ 3) (hz : z ≤ 24) (hB : PlB A B C T z) : Ct l D (gT cI cL cZ cX cG) yX4_find cX4_find 6 none ({ frames := 3, cells := 0, slots := 0, locals := 107 }) [.ref (ad (o)), .ref (ad (o2)), .ref (ad (o3)), iV (((m : Nat) : Int))] ([lsoC0 cI cL cZ ad (o) (t) (b) (x) (y) (w) (d), l3C0 cI cL cZ ad (o + 1) (f), ploC0 cI cL cZ ad (o2) (((z : Nat) : Int)), i26C0 cI cL cZ ad (o2 + 1) (A), i26C0 cI cL cZ ad (o2 + 2) (B), i26C0 cI cL cZ ad (o2 + 3) (C), i26C0 cI cL cZ ad (o2 + 4) (T), pkoC0 cI cL cZ ad (o3) (k) (z2), i10C0 cI cL cZ ad (o3 + 1) (p)]) (fun vv_ ww_ => ∃ (t2 : Int), ∃ (b2 : Int), ∃ (x2 : Int), ∃ (y2 : Int), ∃ (w2 : Int), ∃ (d2 : Int), ∃ (f2 : Nat → Int), ∃ (p2 : Nat → Int), ∃ (k2 : Int), ∃ (z3 : Int), ((t2, b2, f2 0, f2 1, f2 2) = szAll A B C T z m (f 0) (f 1) (f 2)) ∧ vv_ = none ∧ ww_ = [lsoC0 cI cL cZ ad (o) (t2) (b2) (x2) (y2) (w2) (d2), l3C0 cI cL cZ ad (o + 1) (f2), ploC0 cI cL cZ ad (o2) (((z : Nat) : Int)), i26C0 cI cL cZ ad (o2 + 1) (A), i26C0 cI cL cZ ad (o2 + 2) (B), i26C0 cI cL cZ ad (o2 + 3) (C), i26C0 cI cL cZ ad (o2 + 4) (T), pkoC0 cI cL cZ ad (o3) (k2) (z3), i10C0 cI cL cZ ad (o3 + 1) (p2)]) := by
  refine Ct.of (by decide) (Nat.le_of_ble_eq_true rfl) (fun G hG => ?_)
  show G 0 [(0, .ref (ad (o))), (1, .ref (ad (o2))), (2, .ref (ad (o3))), (3, iV (((m : Nat) : Int)))] [] ([lsoC0 cI cL cZ ad (o) (t) (b) (x) (y) (w) (d), l3C0 cI cL cZ ad (o + 1) (f), ploC0 cI cL cZ ad (o2) (((z : Nat) : Int)), i26C0 cI cL cZ ad (o2 + 1) (A), i26C0 cI cL cZ ad (o2 + 2) (B), i26C0 cI cL cZ ad (o2 + 3) (C), i26C0 cI cL cZ ad (o2 + 4) (T), pkoC0 cI cL cZ ad (o3) (k) (z2), i10C0 cI cL cZ ad (o3 + 1) (p)])
  refine g_aload_n (pc := 0) hG 0 rfl dX4_find_0 ?_
  refine g_lconst (z := 0) (pc := 1) hG dX4_find_1 (by decide) ?_
  refine g_put (pc := 2) hG fp4_15 0 rfl rfl rfl (Nat.le_of_ble_eq_true rfl) (ws' := [lsoC0 cI cL cZ ad (o) (0) (b) (x) (y) (w) (d), l3C0 cI cL cZ ad (o + 1) (f), ploC0 cI cL cZ ad (o2) (((z : Nat) : Int)), i26C0 cI cL cZ ad (o2 + 1) (A), i26C0 cI cL cZ ad (o2 + 2) (B), i26C0 cI cL cZ ad (o2 + 3) (C), i26C0 cI cL cZ ad (o2 + 4) (T), pkoC0 cI cL cZ ad (o3) (k) (z2), i10C0 cI cL cZ ad (o3 + 1) (p)]) rfl dX4_find_2 ?_
  refine g_aload_n (pc := 5) hG 0 rfl dX4_find_5 ?_
  refine g_lconst (z := 0) (pc := 6) hG dX4_find_6 (by decide) ?_
  refine g_put (pc := 7) hG fp4_19 0 rfl rfl rfl (Nat.le_of_ble_eq_true rfl) (ws' := [lsoC0 cI cL cZ ad (o) (0) (0) (x) (y) (w) (d), l3C0 cI cL cZ ad (o + 1) (f), ploC0 cI cL cZ ad (o2) (((z : Nat) : Int)), i26C0 cI cL cZ ad (o2 + 1) (A), i26C0 cI cL cZ ad (o2 + 2) (B), i26C0 cI cL cZ ad (o2 + 3) (C), i26C0 cI cL cZ ad (o2 + 4) (T), pkoC0 cI cL cZ ad (o3) (k) (z2), i10C0 cI cL cZ ad (o3 + 1) (p)]) rfl dX4_find_7 ?_
  refine g_aload_n (pc := 10) hG 2 rfl dX4_find_10 ?_
  refine g_iload_n (pc := 11) hG 3 rfl dX4_find_11 ?_
  refine g_aload_n (pc := 12) hG 1 rfl dX4_find_12 ?_
  refine g_get (pc := 13) hG fl4_22 2 rfl rfl dX4_find_13 ?_
  refine g_callV (pc := 16) hG (As := [iV (((m : Nat) : Int)), iV (((z : Nat) : Int))]) (rest := []) (c_X5_begin (l := l) (D := D) (cI := cI) (cL := cL) (cZ := cZ) (cX := cX) (cG := cG) ad o3 p k z2 (((m : Nat) : Int)) (((z : Nat) : Int)) (by omega) (by omega)) (Sp.sel [7, 8] rfl (by decide)) cv4_28 ⟨rfl, rfl⟩ ⟨Nat.le_of_ble_eq_true rfl, Nat.le_of_ble_eq_true rfl⟩ 7 rfl rfl rfl rfl (Nat.le_of_ble_eq_true rfl) dX4_find_16 (fun v w1 h => ?_)
  obtain ⟨v_16, p2_16, k2_16, z2_16, hg_16, rfl, rfl⟩ := h
  show G 19 [(0, .ref (ad (o))), (1, .ref (ad (o2))), (2, .ref (ad (o3))), (3, iV (((m : Nat) : Int)))] [bV (v_16)] ([lsoC0 cI cL cZ ad (o) (0) (0) (x) (y) (w) (d), l3C0 cI cL cZ ad (o + 1) (f), ploC0 cI cL cZ ad (o2) (((z : Nat) : Int)), i26C0 cI cL cZ ad (o2 + 1) (A), i26C0 cI cL cZ ad (o2 + 2) (B), i26C0 cI cL cZ ad (o2 + 3) (C), i26C0 cI cL cZ ad (o2 + 4) (T), pkoC0 cI cL cZ ad (o3) (k2_16) (z2_16), i10C0 cI cL cZ ad (o3 + 1) (p2_16)])
  refine g_istore (pc := 19) hG (by decide) (lv' := [(4, bV (v_16)), (0, .ref (ad (o))), (1, .ref (ad (o2))), (2, .ref (ad (o3))), (3, iV (((m : Nat) : Int)))]) rfl dX4_find_19 ?_
  refine g_iconst (pc := 21) hG dX4_find_21 ?_
  refine g_istore (pc := 22) hG (by decide) (lv' := [(5, iV (0)), (4, bV (v_16)), (0, .ref (ad (o))), (1, .ref (ad (o2))), (2, .ref (ad (o3))), (3, iV (((m : Nat) : Int)))]) rfl dX4_find_22 ?_
  have L24 : ∀ (fu24 : Nat) (mo : Bool) (tu : Nat) (t9 : Int) (b9 : Int) (x9 : Int) (y9 : Int) (w9 : Int) (d9 : Int) (f9 : Nat → Int) (p9 : Nat → Int) (k9 : Int) (z9 : Int), 10000 - tu < fu24 → (SzI A B C T z m (szAll A B C T z m (f 0) (f 1) (f 2)) mo tu t9 b9 f9 p9 k9 z9) → G 24 [(0, .ref (ad (o))), (1, .ref (ad (o2))), (2, .ref (ad (o3))), (4, bV (mo)), (5, iV (((tu : Nat) : Int)))] [] ([lsoC0 cI cL cZ ad (o) (t9) (b9) (x9) (y9) (w9) (d9), l3C0 cI cL cZ ad (o + 1) (f9), ploC0 cI cL cZ ad (o2) (((z : Nat) : Int)), i26C0 cI cL cZ ad (o2 + 1) (A), i26C0 cI cL cZ ad (o2 + 2) (B), i26C0 cI cL cZ ad (o2 + 3) (C), i26C0 cI cL cZ ad (o2 + 4) (T), pkoC0 cI cL cZ ad (o3) (k9) (z9), i10C0 cI cL cZ ad (o3 + 1) (p9)]) := by
    intro fu24
    induction fu24 with
    | zero => intro mo tu t9 b9 x9 y9 w9 d9 f9 p9 k9 z9 hm; exact absurd hm (Nat.not_lt_zero _)
    | succ fu24 ih24 =>
      intro mo tu t9 b9 x9 y9 w9 d9 f9 p9 k9 z9 hm24 hI
      refine g_iload (pc := 24) hG 3 rfl dX4_find_24 ?_
      have J83 : ∀ (j83pko7k : Int) (j83pko7z : Int), (((mo = false) ∧ j83pko7k = k9 ∧ j83pko7z = z9) ∨ ((mo = true) ∧ (10000 ≤ ((tu : Nat) : Int)) ∧ j83pko7k = ((m : Nat) : Int) ∧ j83pko7z = ((z : Nat) : Int))) → G 83 [(0, .ref (ad (o))), (1, .ref (ad (o2))), (2, .ref (ad (o3))), (4, bV (mo)), (5, iV (((tu : Nat) : Int)))] [] ([lsoC0 cI cL cZ ad (o) (t9) (b9) (x9) (y9) (w9) (d9), l3C0 cI cL cZ ad (o + 1) (f9), ploC0 cI cL cZ ad (o2) (((z : Nat) : Int)), i26C0 cI cL cZ ad (o2 + 1) (A), i26C0 cI cL cZ ad (o2 + 2) (B), i26C0 cI cL cZ ad (o2 + 3) (C), i26C0 cI cL cZ ad (o2 + 4) (T), pkoC0 cI cL cZ ad (o3) (j83pko7k) (j83pko7z), i10C0 cI cL cZ ad (o3 + 1) (p9)]) := by
        intro j83pko7k j83pko7z k83
        exact g_return (pc := 83) hG ⟨t9, b9, x9, y9, w9, d9, f9, p9, j83pko7k, j83pko7z, hI.out (by first | exact Or.inl (by assumption) | (rcases k83 with h | h; exact Or.inl h.1; exact Or.inr (by omega))), rfl, rfl⟩ dX4_find_83
      refine g_ifb_eq (pc := 26) hG (tgt := 83) (by decide) dX4_find_26 (fun h26 => ?_) (fun h26 => ?_)
      · exact g_lv (pc := 83) hG [0, 1, 2, 3, 4] rfl (J83 k9 z9 (Or.inl ⟨h26, rfl, rfl⟩))
      · obtain ⟨pl, hP⟩ := hI.some h26
        have htu := hP.tuL
        have hBt := hP.bd
        have hmz := hP.mz
        refine g_ws (pc := 29) hG (ws' := [lsoC0 cI cL cZ ad (o) (t9) (b9) (x9) (y9) (w9) (d9), l3C0 cI cL cZ ad (o + 1) (f9), ploC0 cI cL cZ ad (o2) (((z : Nat) : Int)), i26C0 cI cL cZ ad (o2 + 1) (A), i26C0 cI cL cZ ad (o2 + 2) (B), i26C0 cI cL cZ ad (o2 + 3) (C), i26C0 cI cL cZ ad (o2 + 4) (T), pkoC0 cI cL cZ ad (o3) (((m : Nat) : Int)) (((z : Nat) : Int)), i10C0 cI cL cZ ad (o3 + 1) (p9)]) (by rw [hP.kE, hP.zE]) ?_
        refine g_iload (pc := 29) hG 4 rfl dX4_find_29 ?_
        refine g_sipush (pc := 31) hG dX4_find_31 (by decide) ?_
        refine g_icmp_ge (pc := 34) hG (by omega) (by omega) (tgt := 83) (by decide) dX4_find_34 (fun h34 => ?_) (fun h34 => ?_)
        · exact g_lv (pc := 83) hG [0, 1, 2, 3, 4] rfl (J83 (((m : Nat) : Int)) (((z : Nat) : Int)) (Or.inr (⟨h26, h34, rfl, rfl⟩)))
        · refine g_aload_n (pc := 37) hG 0 rfl dX4_find_37 ?_
          refine g_aload_n (pc := 38) hG 1 rfl dX4_find_38 ?_
          refine g_aload_n (pc := 39) hG 2 rfl dX4_find_39 ?_
          refine g_iconst (pc := 40) hG dX4_find_40 ?_
          refine g_callV (pc := 41) hG (As := [iV (0)]) (rest := [.ref (ad (o2)), .ref (ad (o))]) (c_X5_placeOf (l := l) (D := D) (cI := cI) (cL := cL) (cZ := cZ) (cX := cX) (cG := cG) ad o3 p9 m z 0 (by omega) (by omega) (by omega)) (Sp.sel [7, 8] rfl (by decide)) cv4_34 ⟨rfl, rfl⟩ ⟨Nat.le_of_ble_eq_true rfl, Nat.le_of_ble_eq_true rfl⟩ 7 rfl rfl rfl rfl (Nat.le_of_ble_eq_true rfl) dX4_find_41 (fun v w1 h => ?_)
          obtain ⟨rfl, rfl⟩ := h
          show G 44 [(0, .ref (ad (o))), (1, .ref (ad (o2))), (2, .ref (ad (o3))), (4, bV (mo)), (5, iV (((tu : Nat) : Int)))] [iV (if 0 < m then p9 0 else ((z : Int) + 0 - m)), .ref (ad (o2)), .ref (ad (o))] ([lsoC0 cI cL cZ ad (o) (t9) (b9) (x9) (y9) (w9) (d9), l3C0 cI cL cZ ad (o + 1) (f9), ploC0 cI cL cZ ad (o2) (((z : Nat) : Int)), i26C0 cI cL cZ ad (o2 + 1) (A), i26C0 cI cL cZ ad (o2 + 2) (B), i26C0 cI cL cZ ad (o2 + 3) (C), i26C0 cI cL cZ ad (o2 + 4) (T), pkoC0 cI cL cZ ad (o3) (((m : Nat) : Int)) (((z : Nat) : Int)), i10C0 cI cL cZ ad (o3 + 1) (p9)])
          refine g_eqI (pc := 44) hG (show (if 0 < m then p9 0 else ((z : Int) + 0 - m)) = ((plc pl z 0 : Nat) : Int) by exact hP.atp 0 (by omega)) ?_
          refine g_aload_n (pc := 44) hG 2 rfl dX4_find_44 ?_
          refine g_iconst (pc := 45) hG dX4_find_45 ?_
          refine g_callV (pc := 46) hG (As := [iV (1)]) (rest := [iV (((plc pl z 0 : Nat) : Int)), .ref (ad (o2)), .ref (ad (o))]) (c_X5_placeOf (l := l) (D := D) (cI := cI) (cL := cL) (cZ := cZ) (cX := cX) (cG := cG) ad o3 p9 m z 1 (by omega) (by omega) (by omega)) (Sp.sel [7, 8] rfl (by decide)) cv4_34 ⟨rfl, rfl⟩ ⟨Nat.le_of_ble_eq_true rfl, Nat.le_of_ble_eq_true rfl⟩ 7 rfl rfl rfl rfl (Nat.le_of_ble_eq_true rfl) dX4_find_46 (fun v w1 h => ?_)
          obtain ⟨rfl, rfl⟩ := h
          show G 49 [(0, .ref (ad (o))), (1, .ref (ad (o2))), (2, .ref (ad (o3))), (4, bV (mo)), (5, iV (((tu : Nat) : Int)))] [iV (if 1 < m then p9 1 else ((z : Int) + 1 - m)), iV (((plc pl z 0 : Nat) : Int)), .ref (ad (o2)), .ref (ad (o))] ([lsoC0 cI cL cZ ad (o) (t9) (b9) (x9) (y9) (w9) (d9), l3C0 cI cL cZ ad (o + 1) (f9), ploC0 cI cL cZ ad (o2) (((z : Nat) : Int)), i26C0 cI cL cZ ad (o2 + 1) (A), i26C0 cI cL cZ ad (o2 + 2) (B), i26C0 cI cL cZ ad (o2 + 3) (C), i26C0 cI cL cZ ad (o2 + 4) (T), pkoC0 cI cL cZ ad (o3) (((m : Nat) : Int)) (((z : Nat) : Int)), i10C0 cI cL cZ ad (o3 + 1) (p9)])
          refine g_eqI (pc := 49) hG (show (if 1 < m then p9 1 else ((z : Int) + 1 - m)) = ((plc pl z 1 : Nat) : Int) by exact hP.atp 1 (by omega)) ?_
          refine g_aload_n (pc := 49) hG 2 rfl dX4_find_49 ?_
          refine g_iconst (pc := 50) hG dX4_find_50 ?_
          refine g_callV (pc := 51) hG (As := [iV (2)]) (rest := [iV (((plc pl z 1 : Nat) : Int)), iV (((plc pl z 0 : Nat) : Int)), .ref (ad (o2)), .ref (ad (o))]) (c_X5_placeOf (l := l) (D := D) (cI := cI) (cL := cL) (cZ := cZ) (cX := cX) (cG := cG) ad o3 p9 m z 2 (by omega) (by omega) (by omega)) (Sp.sel [7, 8] rfl (by decide)) cv4_34 ⟨rfl, rfl⟩ ⟨Nat.le_of_ble_eq_true rfl, Nat.le_of_ble_eq_true rfl⟩ 7 rfl rfl rfl rfl (Nat.le_of_ble_eq_true rfl) dX4_find_51 (fun v w1 h => ?_)
          obtain ⟨rfl, rfl⟩ := h
          show G 54 [(0, .ref (ad (o))), (1, .ref (ad (o2))), (2, .ref (ad (o3))), (4, bV (mo)), (5, iV (((tu : Nat) : Int)))] [iV (if 2 < m then p9 2 else ((z : Int) + 2 - m)), iV (((plc pl z 1 : Nat) : Int)), iV (((plc pl z 0 : Nat) : Int)), .ref (ad (o2)), .ref (ad (o))] ([lsoC0 cI cL cZ ad (o) (t9) (b9) (x9) (y9) (w9) (d9), l3C0 cI cL cZ ad (o + 1) (f9), ploC0 cI cL cZ ad (o2) (((z : Nat) : Int)), i26C0 cI cL cZ ad (o2 + 1) (A), i26C0 cI cL cZ ad (o2 + 2) (B), i26C0 cI cL cZ ad (o2 + 3) (C), i26C0 cI cL cZ ad (o2 + 4) (T), pkoC0 cI cL cZ ad (o3) (((m : Nat) : Int)) (((z : Nat) : Int)), i10C0 cI cL cZ ad (o3 + 1) (p9)])
          refine g_eqI (pc := 54) hG (show (if 2 < m then p9 2 else ((z : Int) + 2 - m)) = ((plc pl z 2 : Nat) : Int) by exact hP.atp 2 (by omega)) ?_
          refine g_callV (pc := 54) hG (As := [.ref (ad (o2)), iV (((plc pl z 0 : Nat) : Int)), iV (((plc pl z 1 : Nat) : Int)), iV (((plc pl z 2 : Nat) : Int))]) (rest := []) (c_X4_solveExactly (l := l) (D := D) (cI := cI) (cL := cL) (cZ := cZ) (cX := cX) (cG := cG) ad o o2 t9 b9 x9 y9 w9 d9 A B C T z (plc pl z 0) (plc pl z 1) (plc pl z 2) (hz) (hB) (hP.lt 0 (by omega)) (hP.lt 1 (by omega)) (hP.lt 2 (by omega))) (Sp.sel [0, 2, 3, 4, 5, 6] rfl (by decide)) cv4_38 ⟨rfl, rfl⟩ ⟨Nat.le_of_ble_eq_true rfl, Nat.le_of_ble_eq_true rfl⟩ 0 rfl rfl rfl rfl (Nat.le_of_ble_eq_true rfl) dX4_find_54 (fun v w1 h => ?_)
          obtain ⟨x2_54, y2_54, w2_54, d2_54, hd_54, hx_54, rfl, rfl⟩ := h
          show G 57 [(0, .ref (ad (o))), (1, .ref (ad (o2))), (2, .ref (ad (o3))), (4, bV (mo)), (5, iV (((tu : Nat) : Int)))] [] ([lsoC0 cI cL cZ ad (o) (t9) (b9) (x2_54) (y2_54) (w2_54) (d2_54), l3C0 cI cL cZ ad (o + 1) (f9), ploC0 cI cL cZ ad (o2) (((z : Nat) : Int)), i26C0 cI cL cZ ad (o2 + 1) (A), i26C0 cI cL cZ ad (o2 + 2) (B), i26C0 cI cL cZ ad (o2 + 3) (C), i26C0 cI cL cZ ad (o2 + 4) (T), pkoC0 cI cL cZ ad (o3) (((m : Nat) : Int)) (((z : Nat) : Int)), i10C0 cI cL cZ ad (o3 + 1) (p9)])
          refine g_aload_n (pc := 57) hG 0 rfl dX4_find_57 ?_
          refine g_get (pc := 58) hG fl4_42 0 rfl rfl dX4_find_58 ?_
          refine g_lconst (z := 0) (pc := 61) hG dX4_find_61 (by decide) ?_
          have hdb := dv_bd hB (hP.lt 0 (by omega)) (hP.lt 1 (by omega)) (hP.lt 2 (by omega))
          rw [← hd_54] at hdb
          refine g_lc_eq (pc := 62) hG (by omega) (by omega) (tgt := 71) (by decide) dX4_find_62 dX4_find_63 (fun h62 => ?_) (fun h62 => ?_)
          · refine g_aload_n (pc := 71) hG 2 rfl dX4_find_71 ?_
            refine g_callV (pc := 72) hG (As := []) (rest := []) (c_X5_advance (l := l) (D := D) (cI := cI) (cL := cL) (cZ := cZ) (cX := cX) (cG := cG) ad o3 p9 m z (by omega) (by omega) (hP.pos)) (Sp.sel [7, 8] rfl (by decide)) cv4_49 ⟨rfl, rfl⟩ ⟨Nat.le_of_ble_eq_true rfl, Nat.le_of_ble_eq_true rfl⟩ 7 rfl rfl rfl rfl (Nat.le_of_ble_eq_true rfl) dX4_find_72 (fun v w1 h => ?_)
            obtain ⟨v_72, p2_72, hg_72, rfl, rfl⟩ := h
            show G 75 [(0, .ref (ad (o))), (1, .ref (ad (o2))), (2, .ref (ad (o3))), (4, bV (mo)), (5, iV (((tu : Nat) : Int)))] [bV (v_72)] ([lsoC0 cI cL cZ ad (o) (t9) (b9) (x2_54) (y2_54) (w2_54) (d2_54), l3C0 cI cL cZ ad (o + 1) (f9), ploC0 cI cL cZ ad (o2) (((z : Nat) : Int)), i26C0 cI cL cZ ad (o2 + 1) (A), i26C0 cI cL cZ ad (o2 + 2) (B), i26C0 cI cL cZ ad (o2 + 3) (C), i26C0 cI cL cZ ad (o2 + 4) (T), pkoC0 cI cL cZ ad (o3) (((m : Nat) : Int)) (((z : Nat) : Int)), i10C0 cI cL cZ ad (o3 + 1) (p2_72)])
            refine g_istore (pc := 75) hG (by decide) (lv' := [(4, bV (v_72)), (0, .ref (ad (o))), (1, .ref (ad (o2))), (2, .ref (ad (o3))), (5, iV (((tu : Nat) : Int)))]) rfl dX4_find_75 ?_
            refine g_iinc (pc := 77) hG 4 rfl (by decide) (lv' := [(5, iV ((((tu : Nat) : Int)) + 1)), (4, bV (v_72)), (0, .ref (ad (o))), (1, .ref (ad (o2))), (2, .ref (ad (o3)))]) rfl dX4_find_77 ?_
            refine g_goto (pc := 80) hG (tgt := 24) (by decide) dX4_find_80 ?_
            exact g_lv (pc := 24) hG [2, 3, 4, 1, 0] rfl (ih24 v_72 (tu + 1) t9 b9 x2_54 y2_54 w2_54 d2_54 f9 p2_72 (((m : Nat) : Int)) (((z : Nat) : Int)) (by omega) (hP.next (by omega) hB (Or.inl ⟨by rw [← hd_54]; exact h62, rfl, rfl, rfl⟩) hg_72))
          · refine g_aload_n (pc := 66) hG 0 rfl dX4_find_66 ?_
            refine g_aload_n (pc := 67) hG 1 rfl dX4_find_67 ?_
            refine g_callV (pc := 68) hG (As := [.ref (ad (o2))]) (rest := []) (c_X4_takeIfLess (l := l) (D := D) (cI := cI) (cL := cL) (cZ := cZ) (cX := cX) (cG := cG) ad o o2 t9 b9 x2_54 y2_54 w2_54 d2_54 f9 A B C T z (by omega) (hB) (nu_SzB hB (hP.lt 0 (by omega)) (hP.lt 1 (by omega)) (hP.lt 2 (by omega)) hd_54 (hx_54 h62)) (h62) (hBt.1) (hBt.2)) (Sp.sel [0, 1, 2, 3, 4, 5, 6] rfl (by decide)) cv4_45 ⟨rfl, rfl⟩ ⟨Nat.le_of_ble_eq_true rfl, Nat.le_of_ble_eq_true rfl⟩ 0 rfl rfl rfl rfl (Nat.le_of_ble_eq_true rfl) dX4_find_68 (fun v w1 h => ?_)
            obtain ⟨t2_68, b2_68, f2_68, hk_68, rfl, rfl⟩ := h
            show G 71 [(0, .ref (ad (o))), (1, .ref (ad (o2))), (2, .ref (ad (o3))), (4, bV (mo)), (5, iV (((tu : Nat) : Int)))] [] ([lsoC0 cI cL cZ ad (o) (t2_68) (b2_68) (x2_54) (y2_54) (w2_54) (d2_54), l3C0 cI cL cZ ad (o + 1) (f2_68), ploC0 cI cL cZ ad (o2) (((z : Nat) : Int)), i26C0 cI cL cZ ad (o2 + 1) (A), i26C0 cI cL cZ ad (o2 + 2) (B), i26C0 cI cL cZ ad (o2 + 3) (C), i26C0 cI cL cZ ad (o2 + 4) (T), pkoC0 cI cL cZ ad (o3) (((m : Nat) : Int)) (((z : Nat) : Int)), i10C0 cI cL cZ ad (o3 + 1) (p9)])
            refine g_aload_n (pc := 71) hG 2 rfl dX4_find_71 ?_
            refine g_callV (pc := 72) hG (As := []) (rest := []) (c_X5_advance (l := l) (D := D) (cI := cI) (cL := cL) (cZ := cZ) (cX := cX) (cG := cG) ad o3 p9 m z (by omega) (by omega) (hP.pos)) (Sp.sel [7, 8] rfl (by decide)) cv4_49 ⟨rfl, rfl⟩ ⟨Nat.le_of_ble_eq_true rfl, Nat.le_of_ble_eq_true rfl⟩ 7 rfl rfl rfl rfl (Nat.le_of_ble_eq_true rfl) dX4_find_72 (fun v w1 h => ?_)
            obtain ⟨v_72, p2_72, hg_72, rfl, rfl⟩ := h
            show G 75 [(0, .ref (ad (o))), (1, .ref (ad (o2))), (2, .ref (ad (o3))), (4, bV (mo)), (5, iV (((tu : Nat) : Int)))] [bV (v_72)] ([lsoC0 cI cL cZ ad (o) (t2_68) (b2_68) (x2_54) (y2_54) (w2_54) (d2_54), l3C0 cI cL cZ ad (o + 1) (f2_68), ploC0 cI cL cZ ad (o2) (((z : Nat) : Int)), i26C0 cI cL cZ ad (o2 + 1) (A), i26C0 cI cL cZ ad (o2 + 2) (B), i26C0 cI cL cZ ad (o2 + 3) (C), i26C0 cI cL cZ ad (o2 + 4) (T), pkoC0 cI cL cZ ad (o3) (((m : Nat) : Int)) (((z : Nat) : Int)), i10C0 cI cL cZ ad (o3 + 1) (p2_72)])
            refine g_istore (pc := 75) hG (by decide) (lv' := [(4, bV (v_72)), (0, .ref (ad (o))), (1, .ref (ad (o2))), (2, .ref (ad (o3))), (5, iV (((tu : Nat) : Int)))]) rfl dX4_find_75 ?_
            refine g_iinc (pc := 77) hG 4 rfl (by decide) (lv' := [(5, iV ((((tu : Nat) : Int)) + 1)), (4, bV (v_72)), (0, .ref (ad (o))), (1, .ref (ad (o2))), (2, .ref (ad (o3)))]) rfl dX4_find_77 ?_
            refine g_goto (pc := 80) hG (tgt := 24) (by decide) dX4_find_80 ?_
            exact g_lv (pc := 24) hG [2, 3, 4, 1, 0] rfl (ih24 v_72 (tu + 1) t2_68 b2_68 x2_54 y2_54 w2_54 d2_54 f2_68 p2_72 (((m : Nat) : Int)) (((z : Nat) : Int)) (by omega) (hP.next (by omega) hB (Or.inr ⟨by rw [← hd_54]; exact h62, nu_TkR hd_54 (hx_54 h62) hk_68⟩) hg_72))
  exact g_lv (pc := 24) hG [2, 3, 4, 1, 0] rfl (L24 _ v_16 0 0 0 x y w d f p2_16 k2_16 z2_16 (Nat.lt_succ_self _) (SzI.init hm hz hg_16))
