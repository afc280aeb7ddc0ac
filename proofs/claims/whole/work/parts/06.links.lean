theorem wl_0 : ∀ w ∈ u_ws RX0 TX0 9, w ∈ lwB := by
  show ∀ w ∈ [u_lay RX0 TX0 0, u_lay RX0 TX0 1, u_lay RX0 TX0 2, u_lay RX0 TX0 3, u_lay RX0 TX0 4, u_lay RX0 TX0 5, u_lay RX0 TX0 6, u_lay RX0 TX0 7, u_lay RX0 TX0 8], w ∈ lwB
  intro w hw
  simp only [List.mem_cons, List.not_mem_nil, or_false] at hw
  rcases hw with rfl | rfl | rfl | rfl | rfl | rfl | rfl | rfl | rfl
  · exact (inB wd_258 rfl)
  · exact (inB wd_260 rfl)
  · exact (inB wd_262 rfl)
  · exact (inB wd_264 rfl)
  · exact (inB wd_266 rfl)
  · exact (inB wd_268 rfl)
  · exact (inB wd_270 rfl)
  · exact (inB wd_272 rfl)
  · exact (inB wd_274 rfl)
theorem wl_1 : ∀ w ∈ u_ws RX1 TX1 4, w ∈ lwB := by
  show ∀ w ∈ [u_lay RX1 TX1 0, u_lay RX1 TX1 1, u_lay RX1 TX1 2, u_lay RX1 TX1 3], w ∈ lwB
  intro w hw
  simp only [List.mem_cons, List.not_mem_nil, or_false] at hw
  rcases hw with rfl | rfl | rfl | rfl
  · exact (inB wd_306 rfl)
  · exact (inB wd_308 rfl)
  · exact (inB wd_310 rfl)
  · exact (inB wd_312 rfl)
theorem wl_3 : ∀ w ∈ u_ws RX3 TX3 3, w ∈ lwB := by
  show ∀ w ∈ [u_lay RX3 TX3 0, u_lay RX3 TX3 1, u_lay RX3 TX3 2], w ∈ lwB
  intro w hw
  simp only [List.mem_cons, List.not_mem_nil, or_false] at hw
  rcases hw with rfl | rfl | rfl
  · exact (inB wd_234 rfl)
  · exact (inB wd_236 rfl)
  · exact (inB wd_238 rfl)
theorem wl_4 : ∀ w ∈ u_ws RX4 TX4 7, w ∈ lwB := by
  show ∀ w ∈ [u_lay RX4 TX4 0, u_lay RX4 TX4 1, u_lay RX4 TX4 2, u_lay RX4 TX4 3, u_lay RX4 TX4 4, u_lay RX4 TX4 5, u_lay RX4 TX4 6], w ∈ lwB
  intro w hw
  simp only [List.mem_cons, List.not_mem_nil, or_false] at hw
  rcases hw with rfl | rfl | rfl | rfl | rfl | rfl | rfl
  · exact (inB wd_208 rfl)
  · exact (inB wd_210 rfl)
  · exact (inB wd_212 rfl)
  · exact (inB wd_214 rfl)
  · exact (inB wd_216 rfl)
  · exact (inB wd_218 rfl)
  · exact (inB wd_220 rfl)
theorem wl_5 : ∀ w ∈ u_ws RX5 TX5 3, w ∈ lwB := by
  show ∀ w ∈ [u_lay RX5 TX5 0, u_lay RX5 TX5 1, u_lay RX5 TX5 2], w ∈ lwB
  intro w hw
  simp only [List.mem_cons, List.not_mem_nil, or_false] at hw
  rcases hw with rfl | rfl | rfl
  · exact (inB wd_154 rfl)
  · exact (inB wd_156 rfl)
  · exact (inB wd_158 rfl)
theorem wl_6 : ∀ w ∈ u_ws RX6 TX6 6, w ∈ lwB := by
  show ∀ w ∈ [u_lay RX6 TX6 0, u_lay RX6 TX6 1, u_lay RX6 TX6 2, u_lay RX6 TX6 3, u_lay RX6 TX6 4, u_lay RX6 TX6 5], w ∈ lwB
  intro w hw
  simp only [List.mem_cons, List.not_mem_nil, or_false] at hw
  rcases hw with rfl | rfl | rfl | rfl | rfl | rfl
  · exact (inB wd_132 rfl)
  · exact (inB wd_134 rfl)
  · exact (inB wd_136 rfl)
  · exact (inB wd_138 rfl)
  · exact (inB wd_140 rfl)
  · exact (inB wd_142 rfl)
theorem wl_7 : ∀ w ∈ u_ws RX7 TX7 3, w ∈ lwB := by
  show ∀ w ∈ [u_lay RX7 TX7 0, u_lay RX7 TX7 1, u_lay RX7 TX7 2], w ∈ lwB
  intro w hw
  simp only [List.mem_cons, List.not_mem_nil, or_false] at hw
  rcases hw with rfl | rfl | rfl
  · exact (inB wd_289 rfl)
  · exact (inB wd_291 rfl)
  · exact (inB wd_293 rfl)
theorem wl_8 : ∀ w ∈ u_ws RX8 TX8 6, w ∈ lwB := by
  show ∀ w ∈ [u_lay RX8 TX8 0, u_lay RX8 TX8 1, u_lay RX8 TX8 2, u_lay RX8 TX8 3, u_lay RX8 TX8 4, u_lay RX8 TX8 5], w ∈ lwB
  intro w hw
  simp only [List.mem_cons, List.not_mem_nil, or_false] at hw
  rcases hw with rfl | rfl | rfl | rfl | rfl | rfl
  · exact (inB wd_178 rfl)
  · exact (inB wd_180 rfl)
  · exact (inB wd_182 rfl)
  · exact (inB wd_184 rfl)
  · exact (inB wd_186 rfl)
  · exact (inB wd_188 rfl)
theorem wl_9 : ∀ w ∈ u_ws RX9 TX9 6, w ∈ lwB := by
  show ∀ w ∈ [u_lay RX9 TX9 0, u_lay RX9 TX9 1, u_lay RX9 TX9 2, u_lay RX9 TX9 3, u_lay RX9 TX9 4, u_lay RX9 TX9 5], w ∈ lwB
  intro w hw
  simp only [List.mem_cons, List.not_mem_nil, or_false] at hw
  rcases hw with rfl | rfl | rfl | rfl | rfl | rfl
  · exact (inB wd_93 rfl)
  · exact (inB wd_95 rfl)
  · exact (inB wd_97 rfl)
  · exact (inB wd_99 rfl)
  · exact (inB wd_101 rfl)
  · exact (inB wd_103 rfl)
theorem wl_10 : ∀ w ∈ u_ws RX10 TX10 19, w ∈ lwB := by
  show ∀ w ∈ [u_lay RX10 TX10 0, u_lay RX10 TX10 1, u_lay RX10 TX10 2, u_lay RX10 TX10 3, u_lay RX10 TX10 4, u_lay RX10 TX10 5, u_lay RX10 TX10 6, u_lay RX10 TX10 7, u_lay RX10 TX10 8, u_lay RX10 TX10 9, u_lay RX10 TX10 10, u_lay RX10 TX10 11, u_lay RX10 TX10 12, u_lay RX10 TX10 13, u_lay RX10 TX10 14, u_lay RX10 TX10 15, u_lay RX10 TX10 16, u_lay RX10 TX10 17, u_lay RX10 TX10 18], w ∈ lwB
  intro w hw
  simp only [List.mem_cons, List.not_mem_nil, or_false] at hw
  rcases hw with rfl | rfl | rfl | rfl | rfl | rfl | rfl | rfl | rfl | rfl | rfl | rfl | rfl | rfl | rfl | rfl | rfl | rfl | rfl
  · exact (inB wd_334 rfl)
  · exact (inB wd_336 rfl)
  · exact (inB wd_338 rfl)
  · exact (inB wd_340 rfl)
  · exact (inB wd_342 rfl)
  · exact (inB wd_344 rfl)
  · exact (inB wd_346 rfl)
  · exact (inB wd_348 rfl)
  · exact (inB wd_350 rfl)
  · exact (inB wd_352 rfl)
  · exact (inB wd_354 rfl)
  · exact (inB wd_356 rfl)
  · exact (inB wd_358 rfl)
  · exact (inB wd_360 rfl)
  · exact (inB wd_362 rfl)
  · exact (inB wd_364 rfl)
  · exact (inB wd_366 rfl)
  · exact (inB wd_368 rfl)
  · exact (inB wd_370 rfl)
theorem wl_11 : ∀ w ∈ u_ws RX11 TX11 39, w ∈ lwB := by
  show ∀ w ∈ [u_lay RX11 TX11 0, u_lay RX11 TX11 1, u_lay RX11 TX11 2, u_lay RX11 TX11 3, u_lay RX11 TX11 4, u_lay RX11 TX11 5, u_lay RX11 TX11 6, u_lay RX11 TX11 7, u_lay RX11 TX11 8, u_lay RX11 TX11 9, u_lay RX11 TX11 10, u_lay RX11 TX11 11, u_lay RX11 TX11 12, u_lay RX11 TX11 13, u_lay RX11 TX11 14, u_lay RX11 TX11 15, u_lay RX11 TX11 16, u_lay RX11 TX11 17, u_lay RX11 TX11 18, u_lay RX11 TX11 19, u_lay RX11 TX11 20, u_lay RX11 TX11 21, u_lay RX11 TX11 22, u_lay RX11 TX11 23, u_lay RX11 TX11 24, u_lay RX11 TX11 25, u_lay RX11 TX11 26, u_lay RX11 TX11 27, u_lay RX11 TX11 28, u_lay RX11 TX11 29, u_lay RX11 TX11 30, u_lay RX11 TX11 31, u_lay RX11 TX11 32, u_lay RX11 TX11 33, u_lay RX11 TX11 34, u_lay RX11 TX11 35, u_lay RX11 TX11 36, u_lay RX11 TX11 37, u_lay RX11 TX11 38], w ∈ lwB
  intro w hw
  simp only [List.mem_cons, List.not_mem_nil, or_false] at hw
  rcases hw with rfl | rfl | rfl | rfl | rfl | rfl | rfl | rfl | rfl | rfl | rfl | rfl | rfl | rfl | rfl | rfl | rfl | rfl | rfl | rfl | rfl | rfl | rfl | rfl | rfl | rfl | rfl | rfl | rfl | rfl | rfl | rfl | rfl | rfl | rfl | rfl | rfl | rfl | rfl
  · exact (inB wd_786 rfl)
  · exact (inB wd_788 rfl)
  · exact (inB wd_790 rfl)
  · exact (inB wd_792 rfl)
  · exact (inB wd_794 rfl)
  · exact (inB wd_796 rfl)
  · exact (inB wd_798 rfl)
  · exact (inB wd_800 rfl)
  · exact (inB wd_802 rfl)
  · exact (inB wd_804 rfl)
  · exact (inB wd_806 rfl)
  · exact (inB wd_808 rfl)
  · exact (inB wd_810 rfl)
  · exact (inB wd_812 rfl)
  · exact (inB wd_814 rfl)
  · exact (inB wd_816 rfl)
  · exact (inB wd_818 rfl)
  · exact (inB wd_820 rfl)
  · exact (inB wd_822 rfl)
  · exact (inB wd_824 rfl)
  · exact (inB wd_826 rfl)
  · exact (inB wd_828 rfl)
  · exact (inB wd_830 rfl)
  · exact (inB wd_832 rfl)
  · exact (inB wd_834 rfl)
  · exact (inB wd_836 rfl)
  · exact (inB wd_838 rfl)
  · exact (inB wd_840 rfl)
  · exact (inB wd_842 rfl)
  · exact (inB wd_844 rfl)
  · exact (inB wd_846 rfl)
  · exact (inB wd_848 rfl)
  · exact (inB wd_850 rfl)
  · exact (inB wd_852 rfl)
  · exact (inB wd_854 rfl)
  · exact (inB wd_856 rfl)
  · exact (inB wd_858 rfl)
  · exact (inB wd_860 rfl)
  · exact (inB wd_862 rfl)
theorem fl9_9 : FL RX9 9 8 0 := ⟨RX9, TX9, 6, rfl, by decide, wl_9, (inB wd_78 rfl)⟩
theorem fl9_15 : FL RX9 15 8 1 := ⟨RX9, TX9, 6, rfl, by decide, wl_9, (inB wd_79 rfl)⟩
theorem fl6_48 : FL RX6 48 8 1 := ⟨RX9, TX9, 6, rfl, by decide, wl_9, (inB wd_80 rfl)⟩
theorem fl8_28 : FL RX8 28 8 1 := ⟨RX9, TX9, 6, rfl, by decide, wl_9, (inB wd_81 rfl)⟩
theorem fl10_111 : FL RX10 111 8 1 := ⟨RX9, TX9, 6, rfl, by decide, wl_9, (inB wd_82 rfl)⟩
theorem fl9_18 : FL RX9 18 8 2 := ⟨RX9, TX9, 6, rfl, by decide, wl_9, (inB wd_83 rfl)⟩
theorem fl6_36 : FL RX6 36 8 2 := ⟨RX9, TX9, 6, rfl, by decide, wl_9, (inB wd_84 rfl)⟩
theorem fl10_164 : FL RX10 164 8 2 := ⟨RX9, TX9, 6, rfl, by decide, wl_9, (inB wd_85 rfl)⟩
theorem fl9_22 : FL RX9 22 8 3 := ⟨RX9, TX9, 6, rfl, by decide, wl_9, (inB wd_86 rfl)⟩
theorem fp9_22 : FP RX9 22 8 3 .int := ⟨RX9, TX9, 6, tyX9, rfl, by decide, wl_9, (inB wd_86 rfl), tyX9_ok, nmX9, rfl, by decide +kernel⟩
theorem fl10_178 : FL RX10 178 8 3 := ⟨RX9, TX9, 6, rfl, by decide, wl_9, (inB wd_87 rfl)⟩
theorem fp10_178 : FP RX10 178 8 3 .int := ⟨RX9, TX9, 6, tyX9, rfl, by decide, wl_9, (inB wd_87 rfl), tyX9_ok, nmX9, rfl, by decide +kernel⟩
theorem fl9_26 : FL RX9 26 8 4 := ⟨RX9, TX9, 6, rfl, by decide, wl_9, (inB wd_88 rfl)⟩
theorem fp9_26 : FP RX9 26 8 4 .int := ⟨RX9, TX9, 6, tyX9, rfl, by decide, wl_9, (inB wd_88 rfl), tyX9_ok, nmX9, rfl, by decide +kernel⟩
theorem fl6_31 : FL RX6 31 8 4 := ⟨RX9, TX9, 6, rfl, by decide, wl_9, (inB wd_89 rfl)⟩
theorem fp6_31 : FP RX6 31 8 4 .int := ⟨RX9, TX9, 6, tyX9, rfl, by decide, wl_9, (inB wd_89 rfl), tyX9_ok, nmX9, rfl, by decide +kernel⟩
theorem fl10_161 : FL RX10 161 8 4 := ⟨RX9, TX9, 6, rfl, by decide, wl_9, (inB wd_90 rfl)⟩
theorem fp10_161 : FP RX10 161 8 4 .int := ⟨RX9, TX9, 6, tyX9, rfl, by decide, wl_9, (inB wd_90 rfl), tyX9_ok, nmX9, rfl, by decide +kernel⟩
theorem fl9_29 : FL RX9 29 8 5 := ⟨RX9, TX9, 6, rfl, by decide, wl_9, (inB wd_91 rfl)⟩
theorem fp9_29 : FP RX9 29 8 5 .int := ⟨RX9, TX9, 6, tyX9, rfl, by decide, wl_9, (inB wd_91 rfl), tyX9_ok, nmX9, rfl, by decide +kernel⟩
theorem fl10_199 : FL RX10 199 8 5 := ⟨RX9, TX9, 6, rfl, by decide, wl_9, (inB wd_92 rfl)⟩
theorem fp10_199 : FP RX10 199 8 5 .int := ⟨RX9, TX9, 6, tyX9, rfl, by decide, wl_9, (inB wd_92 rfl), tyX9_ok, nmX9, rfl, by decide +kernel⟩
theorem fl6_11 : FL RX6 11 5 0 := ⟨RX6, TX6, 6, rfl, by decide, wl_6, (inB wd_114 rfl)⟩
theorem fl4_60 : FL RX4 60 5 0 := ⟨RX6, TX6, 6, rfl, by decide, wl_6, (inB wd_115 rfl)⟩
theorem fl3_45 : FL RX3 45 5 0 := ⟨RX6, TX6, 6, rfl, by decide, wl_6, (inB wd_116 rfl)⟩
theorem fl6_15 : FL RX6 15 5 1 := ⟨RX6, TX6, 6, rfl, by decide, wl_6, (inB wd_117 rfl)⟩
theorem fl4_53 : FL RX4 53 5 1 := ⟨RX6, TX6, 6, rfl, by decide, wl_6, (inB wd_118 rfl)⟩
theorem fl3_39 : FL RX3 39 5 1 := ⟨RX6, TX6, 6, rfl, by decide, wl_6, (inB wd_119 rfl)⟩
theorem fl6_18 : FL RX6 18 5 2 := ⟨RX6, TX6, 6, rfl, by decide, wl_6, (inB wd_120 rfl)⟩
theorem fl4_57 : FL RX4 57 5 2 := ⟨RX6, TX6, 6, rfl, by decide, wl_6, (inB wd_121 rfl)⟩
theorem fl3_42 : FL RX3 42 5 2 := ⟨RX6, TX6, 6, rfl, by decide, wl_6, (inB wd_122 rfl)⟩
theorem fl6_21 : FL RX6 21 5 3 := ⟨RX6, TX6, 6, rfl, by decide, wl_6, (inB wd_123 rfl)⟩
theorem fl3_32 : FL RX3 32 5 3 := ⟨RX6, TX6, 6, rfl, by decide, wl_6, (inB wd_124 rfl)⟩
theorem fl4_63 : FL RX4 63 5 3 := ⟨RX6, TX6, 6, rfl, by decide, wl_6, (inB wd_125 rfl)⟩
theorem fl6_24 : FL RX6 24 5 4 := ⟨RX6, TX6, 6, rfl, by decide, wl_6, (inB wd_126 rfl)⟩
theorem fl10_289 : FL RX10 289 5 4 := ⟨RX6, TX6, 6, rfl, by decide, wl_6, (inB wd_127 rfl)⟩
theorem fl6_27 : FL RX6 27 5 5 := ⟨RX6, TX6, 6, rfl, by decide, wl_6, (inB wd_128 rfl)⟩
theorem fp6_27 : FP RX6 27 5 5 .int := ⟨RX6, TX6, 6, tyX6, rfl, by decide, wl_6, (inB wd_128 rfl), tyX6_ok, nmX6, rfl, by decide +kernel⟩
theorem fl3_17 : FL RX3 17 5 5 := ⟨RX6, TX6, 6, rfl, by decide, wl_6, (inB wd_129 rfl)⟩
theorem fp3_17 : FP RX3 17 5 5 .int := ⟨RX6, TX6, 6, tyX6, rfl, by decide, wl_6, (inB wd_129 rfl), tyX6_ok, nmX6, rfl, by decide +kernel⟩
theorem fl4_22 : FL RX4 22 5 5 := ⟨RX6, TX6, 6, rfl, by decide, wl_6, (inB wd_130 rfl)⟩
theorem fp4_22 : FP RX4 22 5 5 .int := ⟨RX6, TX6, 6, tyX6, rfl, by decide, wl_6, (inB wd_130 rfl), tyX6_ok, nmX6, rfl, by decide +kernel⟩
theorem fl10_284 : FL RX10 284 5 5 := ⟨RX6, TX6, 6, rfl, by decide, wl_6, (inB wd_131 rfl)⟩
theorem fp10_284 : FP RX10 284 5 5 .int := ⟨RX6, TX6, 6, tyX6, rfl, by decide, wl_6, (inB wd_131 rfl), tyX6_ok, nmX6, rfl, by decide +kernel⟩
theorem fl5_9 : FL RX5 9 4 0 := ⟨RX5, TX5, 3, rfl, by decide, wl_5, (inB wd_151 rfl)⟩
theorem fl5_15 : FL RX5 15 4 1 := ⟨RX5, TX5, 3, rfl, by decide, wl_5, (inB wd_152 rfl)⟩
theorem fp5_15 : FP RX5 15 4 1 .int := ⟨RX5, TX5, 3, tyX5, rfl, by decide, wl_5, (inB wd_152 rfl), tyX5_ok, nmX5, rfl, by decide +kernel⟩
theorem fl5_19 : FL RX5 19 4 2 := ⟨RX5, TX5, 3, rfl, by decide, wl_5, (inB wd_153 rfl)⟩
theorem fp5_19 : FP RX5 19 4 2 .int := ⟨RX5, TX5, 3, tyX5, rfl, by decide, wl_5, (inB wd_153 rfl), tyX5_ok, nmX5, rfl, by decide +kernel⟩
theorem fl8_9 : FL RX8 9 7 0 := ⟨RX8, TX8, 6, rfl, by decide, wl_8, (inB wd_167 rfl)⟩
theorem fl8_15 : FL RX8 15 7 1 := ⟨RX8, TX8, 6, rfl, by decide, wl_8, (inB wd_168 rfl)⟩
theorem fl0_91 : FL RX0 91 7 1 := ⟨RX8, TX8, 6, rfl, by decide, wl_8, (inB wd_169 rfl)⟩
theorem fl8_18 : FL RX8 18 7 2 := ⟨RX8, TX8, 6, rfl, by decide, wl_8, (inB wd_170 rfl)⟩
theorem fl10_131 : FL RX10 131 7 2 := ⟨RX8, TX8, 6, rfl, by decide, wl_8, (inB wd_171 rfl)⟩
theorem fl8_21 : FL RX8 21 7 3 := ⟨RX8, TX8, 6, rfl, by decide, wl_8, (inB wd_172 rfl)⟩
theorem fl8_24 : FL RX8 24 7 4 := ⟨RX8, TX8, 6, rfl, by decide, wl_8, (inB wd_173 rfl)⟩
theorem fp8_24 : FP RX8 24 7 4 .long := ⟨RX8, TX8, 6, tyX8, rfl, by decide, wl_8, (inB wd_173 rfl), tyX8_ok, nmX8, rfl, by decide +kernel⟩
theorem fl0_65 : FL RX0 65 7 4 := ⟨RX8, TX8, 6, rfl, by decide, wl_8, (inB wd_174 rfl)⟩
theorem fp0_65 : FP RX0 65 7 4 .long := ⟨RX8, TX8, 6, tyX8, rfl, by decide, wl_8, (inB wd_174 rfl), tyX8_ok, nmX8, rfl, by decide +kernel⟩
theorem fl10_126 : FL RX10 126 7 5 := ⟨RX8, TX8, 6, rfl, by decide, wl_8, (inB wd_175 rfl)⟩
theorem fp10_126 : FP RX10 126 7 5 .int := ⟨RX8, TX8, 6, tyX8, rfl, by decide, wl_8, (inB wd_175 rfl), tyX8_ok, nmX8, rfl, by decide +kernel⟩
theorem fl8_45 : FL RX8 45 7 5 := ⟨RX8, TX8, 6, rfl, by decide, wl_8, (inB wd_176 rfl)⟩
theorem fp8_45 : FP RX8 45 7 5 .int := ⟨RX8, TX8, 6, tyX8, rfl, by decide, wl_8, (inB wd_176 rfl), tyX8_ok, nmX8, rfl, by decide +kernel⟩
theorem fl0_101 : FL RX0 101 7 5 := ⟨RX8, TX8, 6, rfl, by decide, wl_8, (inB wd_177 rfl)⟩
theorem fp0_101 : FP RX0 101 7 5 .int := ⟨RX8, TX8, 6, tyX8, rfl, by decide, wl_8, (inB wd_177 rfl), tyX8_ok, nmX8, rfl, by decide +kernel⟩
theorem fl4_9 : FL RX4 9 3 0 := ⟨RX4, TX4, 7, rfl, by decide, wl_4, (inB wd_198 rfl)⟩
theorem fl10_215 : FL RX10 215 3 0 := ⟨RX4, TX4, 7, rfl, by decide, wl_4, (inB wd_199 rfl)⟩
theorem fl4_15 : FL RX4 15 3 1 := ⟨RX4, TX4, 7, rfl, by decide, wl_4, (inB wd_200 rfl)⟩
theorem fp4_15 : FP RX4 15 3 1 .long := ⟨RX4, TX4, 7, tyX4, rfl, by decide, wl_4, (inB wd_200 rfl), tyX4_ok, nmX4, rfl, by decide +kernel⟩
theorem fl10_209 : FL RX10 209 3 1 := ⟨RX4, TX4, 7, rfl, by decide, wl_4, (inB wd_201 rfl)⟩
theorem fp10_209 : FP RX10 209 3 1 .long := ⟨RX4, TX4, 7, tyX4, rfl, by decide, wl_4, (inB wd_201 rfl), tyX4_ok, nmX4, rfl, by decide +kernel⟩
theorem fl4_19 : FL RX4 19 3 2 := ⟨RX4, TX4, 7, rfl, by decide, wl_4, (inB wd_202 rfl)⟩
theorem fp4_19 : FP RX4 19 3 2 .long := ⟨RX4, TX4, 7, tyX4, rfl, by decide, wl_4, (inB wd_202 rfl), tyX4_ok, nmX4, rfl, by decide +kernel⟩
theorem fl10_213 : FL RX10 213 3 2 := ⟨RX4, TX4, 7, rfl, by decide, wl_4, (inB wd_203 rfl)⟩
theorem fp10_213 : FP RX10 213 3 2 .long := ⟨RX4, TX4, 7, tyX4, rfl, by decide, wl_4, (inB wd_203 rfl), tyX4_ok, nmX4, rfl, by decide +kernel⟩
theorem fl4_66 : FL RX4 66 3 3 := ⟨RX4, TX4, 7, rfl, by decide, wl_4, (inB wd_204 rfl)⟩
theorem fp4_66 : FP RX4 66 3 3 .long := ⟨RX4, TX4, 7, tyX4, rfl, by decide, wl_4, (inB wd_204 rfl), tyX4_ok, nmX4, rfl, by decide +kernel⟩
theorem fl4_68 : FL RX4 68 3 4 := ⟨RX4, TX4, 7, rfl, by decide, wl_4, (inB wd_205 rfl)⟩
theorem fp4_68 : FP RX4 68 3 4 .long := ⟨RX4, TX4, 7, tyX4, rfl, by decide, wl_4, (inB wd_205 rfl), tyX4_ok, nmX4, rfl, by decide +kernel⟩
theorem fl4_70 : FL RX4 70 3 5 := ⟨RX4, TX4, 7, rfl, by decide, wl_4, (inB wd_206 rfl)⟩
theorem fp4_70 : FP RX4 70 3 5 .long := ⟨RX4, TX4, 7, tyX4, rfl, by decide, wl_4, (inB wd_206 rfl), tyX4_ok, nmX4, rfl, by decide +kernel⟩
theorem fl4_42 : FL RX4 42 3 6 := ⟨RX4, TX4, 7, rfl, by decide, wl_4, (inB wd_207 rfl)⟩
theorem fp4_42 : FP RX4 42 3 6 .long := ⟨RX4, TX4, 7, tyX4, rfl, by decide, wl_4, (inB wd_207 rfl), tyX4_ok, nmX4, rfl, by decide +kernel⟩
theorem fl3_13 : FL RX3 13 2 0 := ⟨RX3, TX3, 3, rfl, by decide, wl_3, (inB wd_229 rfl)⟩
theorem fl3_25 : FL RX3 25 2 1 := ⟨RX3, TX3, 3, rfl, by decide, wl_3, (inB wd_230 rfl)⟩
theorem fp3_25 : FP RX3 25 2 1 .long := ⟨RX3, TX3, 3, tyX3, rfl, by decide, wl_3, (inB wd_230 rfl), tyX3_ok, nmX3, rfl, by decide +kernel⟩
theorem fl10_228 : FL RX10 228 2 1 := ⟨RX3, TX3, 3, rfl, by decide, wl_3, (inB wd_231 rfl)⟩
theorem fp10_228 : FP RX10 228 2 1 .long := ⟨RX3, TX3, 3, tyX3, rfl, by decide, wl_3, (inB wd_231 rfl), tyX3_ok, nmX3, rfl, by decide +kernel⟩
theorem fl3_29 : FL RX3 29 2 2 := ⟨RX3, TX3, 3, rfl, by decide, wl_3, (inB wd_232 rfl)⟩
theorem fp3_29 : FP RX3 29 2 2 .long := ⟨RX3, TX3, 3, tyX3, rfl, by decide, wl_3, (inB wd_232 rfl), tyX3_ok, nmX3, rfl, by decide +kernel⟩
theorem fl10_229 : FL RX10 229 2 2 := ⟨RX3, TX3, 3, rfl, by decide, wl_3, (inB wd_233 rfl)⟩
theorem fp10_229 : FP RX10 229 2 2 .long := ⟨RX3, TX3, 3, tyX3, rfl, by decide, wl_3, (inB wd_233 rfl), tyX3_ok, nmX3, rfl, by decide +kernel⟩
theorem fl0_12 : FL RX0 12 0 0 := ⟨RX0, TX0, 9, rfl, by decide, wl_0, (inB wd_249 rfl)⟩
theorem fl0_18 : FL RX0 18 0 1 := ⟨RX0, TX0, 9, rfl, by decide, wl_0, (inB wd_250 rfl)⟩
theorem fl0_22 : FL RX0 22 0 2 := ⟨RX0, TX0, 9, rfl, by decide, wl_0, (inB wd_251 rfl)⟩
theorem fl0_25 : FL RX0 25 0 3 := ⟨RX0, TX0, 9, rfl, by decide, wl_0, (inB wd_252 rfl)⟩
theorem fl0_28 : FL RX0 28 0 4 := ⟨RX0, TX0, 9, rfl, by decide, wl_0, (inB wd_253 rfl)⟩
theorem fl0_31 : FL RX0 31 0 5 := ⟨RX0, TX0, 9, rfl, by decide, wl_0, (inB wd_254 rfl)⟩
theorem fl0_34 : FL RX0 34 0 6 := ⟨RX0, TX0, 9, rfl, by decide, wl_0, (inB wd_255 rfl)⟩
theorem fl0_37 : FL RX0 37 0 7 := ⟨RX0, TX0, 9, rfl, by decide, wl_0, (inB wd_256 rfl)⟩
theorem fl0_114 : FL RX0 114 0 8 := ⟨RX0, TX0, 9, rfl, by decide, wl_0, (inB wd_257 rfl)⟩
theorem fp0_114 : FP RX0 114 0 8 .int := ⟨RX0, TX0, 9, tyX0, rfl, by decide, wl_0, (inB wd_257 rfl), tyX0_ok, nmX0, rfl, by decide +kernel⟩
theorem fl7_9 : FL RX7 9 6 0 := ⟨RX7, TX7, 3, rfl, by decide, wl_7, (inB wd_283 rfl)⟩
theorem fl10_256 : FL RX10 256 6 0 := ⟨RX7, TX7, 3, rfl, by decide, wl_7, (inB wd_284 rfl)⟩
theorem fl7_13 : FL RX7 13 6 1 := ⟨RX7, TX7, 3, rfl, by decide, wl_7, (inB wd_285 rfl)⟩
theorem fl10_257 : FL RX10 257 6 1 := ⟨RX7, TX7, 3, rfl, by decide, wl_7, (inB wd_286 rfl)⟩
theorem fl7_16 : FL RX7 16 6 2 := ⟨RX7, TX7, 3, rfl, by decide, wl_7, (inB wd_287 rfl)⟩
theorem fp7_16 : FP RX7 16 6 2 .int := ⟨RX7, TX7, 3, tyX7, rfl, by decide, wl_7, (inB wd_287 rfl), tyX7_ok, nmX7, rfl, by decide +kernel⟩
theorem fl10_253 : FL RX10 253 6 2 := ⟨RX7, TX7, 3, rfl, by decide, wl_7, (inB wd_288 rfl)⟩
theorem fp10_253 : FP RX10 253 6 2 .int := ⟨RX7, TX7, 3, tyX7, rfl, by decide, wl_7, (inB wd_288 rfl), tyX7_ok, nmX7, rfl, by decide +kernel⟩
theorem fl1_9 : FL RX1 9 1 0 := ⟨RX1, TX1, 4, rfl, by decide, wl_1, (inB wd_302 rfl)⟩
theorem fp1_9 : FP RX1 9 1 0 .boolean := ⟨RX1, TX1, 4, tyX1, rfl, by decide, wl_1, (inB wd_302 rfl), tyX1_ok, nmX1, rfl, by decide +kernel⟩
theorem fl1_19 : FL RX1 19 1 1 := ⟨RX1, TX1, 4, rfl, by decide, wl_1, (inB wd_303 rfl)⟩
theorem fp1_19 : FP RX1 19 1 1 .long := ⟨RX1, TX1, 4, tyX1, rfl, by decide, wl_1, (inB wd_303 rfl), tyX1_ok, nmX1, rfl, by decide +kernel⟩
theorem fl1_15 : FL RX1 15 1 2 := ⟨RX1, TX1, 4, rfl, by decide, wl_1, (inB wd_304 rfl)⟩
theorem fp1_15 : FP RX1 15 1 2 .long := ⟨RX1, TX1, 4, tyX1, rfl, by decide, wl_1, (inB wd_304 rfl), tyX1_ok, nmX1, rfl, by decide +kernel⟩
theorem fl1_28 : FL RX1 28 1 3 := ⟨RX1, TX1, 4, rfl, by decide, wl_1, (inB wd_305 rfl)⟩
theorem fp1_28 : FP RX1 28 1 3 .long := ⟨RX1, TX1, 4, tyX1, rfl, by decide, wl_1, (inB wd_305 rfl), tyX1_ok, nmX1, rfl, by decide +kernel⟩
theorem fl10_10 : FL RX10 10 9 0 := ⟨RX10, TX10, 19, rfl, by decide, wl_10, (inB wd_315 rfl)⟩
theorem fl10_19 : FL RX10 19 9 1 := ⟨RX10, TX10, 19, rfl, by decide, wl_10, (inB wd_316 rfl)⟩
theorem fl10_26 : FL RX10 26 9 2 := ⟨RX10, TX10, 19, rfl, by decide, wl_10, (inB wd_317 rfl)⟩
theorem fl10_33 : FL RX10 33 9 3 := ⟨RX10, TX10, 19, rfl, by decide, wl_10, (inB wd_318 rfl)⟩
theorem fl10_37 : FL RX10 37 9 4 := ⟨RX10, TX10, 19, rfl, by decide, wl_10, (inB wd_319 rfl)⟩
theorem fl10_40 : FL RX10 40 9 5 := ⟨RX10, TX10, 19, rfl, by decide, wl_10, (inB wd_320 rfl)⟩
theorem fl10_44 : FL RX10 44 9 6 := ⟨RX10, TX10, 19, rfl, by decide, wl_10, (inB wd_321 rfl)⟩
theorem fl10_50 : FL RX10 50 9 7 := ⟨RX10, TX10, 19, rfl, by decide, wl_10, (inB wd_322 rfl)⟩
theorem fl10_57 : FL RX10 57 9 8 := ⟨RX10, TX10, 19, rfl, by decide, wl_10, (inB wd_323 rfl)⟩
theorem fl10_64 : FL RX10 64 9 9 := ⟨RX10, TX10, 19, rfl, by decide, wl_10, (inB wd_324 rfl)⟩
theorem fl10_71 : FL RX10 71 9 10 := ⟨RX10, TX10, 19, rfl, by decide, wl_10, (inB wd_325 rfl)⟩
theorem fl10_78 : FL RX10 78 9 11 := ⟨RX10, TX10, 19, rfl, by decide, wl_10, (inB wd_326 rfl)⟩
theorem fl10_82 : FL RX10 82 9 12 := ⟨RX10, TX10, 19, rfl, by decide, wl_10, (inB wd_327 rfl)⟩
theorem fl10_261 : FL RX10 261 9 13 := ⟨RX10, TX10, 19, rfl, by decide, wl_10, (inB wd_328 rfl)⟩
theorem fp10_261 : FP RX10 261 9 13 .boolean := ⟨RX10, TX10, 19, tyX10, rfl, by decide, wl_10, (inB wd_328 rfl), tyX10_ok, nmX10, rfl, by decide +kernel⟩
theorem fl10_264 : FL RX10 264 9 14 := ⟨RX10, TX10, 19, rfl, by decide, wl_10, (inB wd_329 rfl)⟩
theorem fp10_264 : FP RX10 264 9 14 .boolean := ⟨RX10, TX10, 19, tyX10, rfl, by decide, wl_10, (inB wd_329 rfl), tyX10_ok, nmX10, rfl, by decide +kernel⟩
theorem fl10_267 : FL RX10 267 9 15 := ⟨RX10, TX10, 19, rfl, by decide, wl_10, (inB wd_330 rfl)⟩
theorem fp10_267 : FP RX10 267 9 15 .boolean := ⟨RX10, TX10, 19, tyX10, rfl, by decide, wl_10, (inB wd_330 rfl), tyX10_ok, nmX10, rfl, by decide +kernel⟩
theorem fl10_216 : FL RX10 216 9 16 := ⟨RX10, TX10, 19, rfl, by decide, wl_10, (inB wd_331 rfl)⟩
theorem fp10_216 : FP RX10 216 9 16 .boolean := ⟨RX10, TX10, 19, tyX10, rfl, by decide, wl_10, (inB wd_331 rfl), tyX10_ok, nmX10, rfl, by decide +kernel⟩
theorem fl10_270 : FL RX10 270 9 17 := ⟨RX10, TX10, 19, rfl, by decide, wl_10, (inB wd_332 rfl)⟩
theorem fp10_270 : FP RX10 270 9 17 .boolean := ⟨RX10, TX10, 19, tyX10, rfl, by decide, wl_10, (inB wd_332 rfl), tyX10_ok, nmX10, rfl, by decide +kernel⟩
theorem fl10_85 : FL RX10 85 9 18 := ⟨RX10, TX10, 19, rfl, by decide, wl_10, (inB wd_333 rfl)⟩
theorem fp10_85 : FP RX10 85 9 18 .int := ⟨RX10, TX10, 19, tyX10, rfl, by decide, wl_10, (inB wd_333 rfl), tyX10_ok, nmX10, rfl, by decide +kernel⟩
theorem fl11_7 : FL RX11 7 10 0 := ⟨RX11, TX11, 39, rfl, by decide, wl_11, (inB wd_747 rfl)⟩
theorem fp11_7 : FP RX11 7 10 0 .int := ⟨RX11, TX11, 39, tyX11, rfl, by decide, wl_11, (inB wd_747 rfl), tyX11_ok, nmX11, rfl, by decide +kernel⟩
theorem fl11_94 : FL RX11 94 10 1 := ⟨RX11, TX11, 39, rfl, by decide, wl_11, (inB wd_748 rfl)⟩
theorem fp11_94 : FP RX11 94 10 1 .int := ⟨RX11, TX11, 39, tyX11, rfl, by decide, wl_11, (inB wd_748 rfl), tyX11_ok, nmX11, rfl, by decide +kernel⟩
theorem fl11_15 : FL RX11 15 10 2 := ⟨RX11, TX11, 39, rfl, by decide, wl_11, (inB wd_749 rfl)⟩
theorem fl11_18 : FL RX11 18 10 3 := ⟨RX11, TX11, 39, rfl, by decide, wl_11, (inB wd_750 rfl)⟩
theorem fl11_22 : FL RX11 22 10 4 := ⟨RX11, TX11, 39, rfl, by decide, wl_11, (inB wd_751 rfl)⟩
theorem fl11_26 : FL RX11 26 10 5 := ⟨RX11, TX11, 39, rfl, by decide, wl_11, (inB wd_752 rfl)⟩
theorem fl11_31 : FL RX11 31 10 6 := ⟨RX11, TX11, 39, rfl, by decide, wl_11, (inB wd_753 rfl)⟩
theorem fl11_34 : FL RX11 34 10 7 := ⟨RX11, TX11, 39, rfl, by decide, wl_11, (inB wd_754 rfl)⟩
theorem fl11_104 : FL RX11 104 10 8 := ⟨RX11, TX11, 39, rfl, by decide, wl_11, (inB wd_755 rfl)⟩
theorem fp11_104 : FP RX11 104 10 8 .long := ⟨RX11, TX11, 39, tyX11, rfl, by decide, wl_11, (inB wd_755 rfl), tyX11_ok, nmX11, rfl, by decide +kernel⟩
theorem fl11_38 : FL RX11 38 10 9 := ⟨RX11, TX11, 39, rfl, by decide, wl_11, (inB wd_756 rfl)⟩
theorem fl11_101 : FL RX11 101 10 10 := ⟨RX11, TX11, 39, rfl, by decide, wl_11, (inB wd_757 rfl)⟩
theorem fp11_101 : FP RX11 101 10 10 .int := ⟨RX11, TX11, 39, tyX11, rfl, by decide, wl_11, (inB wd_757 rfl), tyX11_ok, nmX11, rfl, by decide +kernel⟩
theorem fl11_41 : FL RX11 41 10 11 := ⟨RX11, TX11, 39, rfl, by decide, wl_11, (inB wd_758 rfl)⟩
theorem fl11_44 : FL RX11 44 10 12 := ⟨RX11, TX11, 39, rfl, by decide, wl_11, (inB wd_759 rfl)⟩
theorem fl11_47 : FL RX11 47 10 13 := ⟨RX11, TX11, 39, rfl, by decide, wl_11, (inB wd_760 rfl)⟩
theorem fl11_116 : FL RX11 116 10 14 := ⟨RX11, TX11, 39, rfl, by decide, wl_11, (inB wd_761 rfl)⟩
theorem fp11_116 : FP RX11 116 10 14 .long := ⟨RX11, TX11, 39, tyX11, rfl, by decide, wl_11, (inB wd_761 rfl), tyX11_ok, nmX11, rfl, by decide +kernel⟩
theorem fl11_50 : FL RX11 50 10 15 := ⟨RX11, TX11, 39, rfl, by decide, wl_11, (inB wd_762 rfl)⟩
theorem fl11_126 : FL RX11 126 10 16 := ⟨RX11, TX11, 39, rfl, by decide, wl_11, (inB wd_763 rfl)⟩
theorem fp11_126 : FP RX11 126 10 16 .int := ⟨RX11, TX11, 39, tyX11, rfl, by decide, wl_11, (inB wd_763 rfl), tyX11_ok, nmX11, rfl, by decide +kernel⟩
theorem fl11_129 : FL RX11 129 10 17 := ⟨RX11, TX11, 39, rfl, by decide, wl_11, (inB wd_764 rfl)⟩
theorem fp11_129 : FP RX11 129 10 17 .int := ⟨RX11, TX11, 39, tyX11, rfl, by decide, wl_11, (inB wd_764 rfl), tyX11_ok, nmX11, rfl, by decide +kernel⟩
theorem fl11_53 : FL RX11 53 10 18 := ⟨RX11, TX11, 39, rfl, by decide, wl_11, (inB wd_765 rfl)⟩
theorem fl11_56 : FL RX11 56 10 19 := ⟨RX11, TX11, 39, rfl, by decide, wl_11, (inB wd_766 rfl)⟩
theorem fl11_59 : FL RX11 59 10 20 := ⟨RX11, TX11, 39, rfl, by decide, wl_11, (inB wd_767 rfl)⟩
theorem fl11_208 : FL RX11 208 10 21 := ⟨RX11, TX11, 39, rfl, by decide, wl_11, (inB wd_768 rfl)⟩
theorem fp11_208 : FP RX11 208 10 21 .long := ⟨RX11, TX11, 39, tyX11, rfl, by decide, wl_11, (inB wd_768 rfl), tyX11_ok, nmX11, rfl, by decide +kernel⟩
theorem fl11_201 : FL RX11 201 10 22 := ⟨RX11, TX11, 39, rfl, by decide, wl_11, (inB wd_769 rfl)⟩
theorem fp11_201 : FP RX11 201 10 22 .long := ⟨RX11, TX11, 39, tyX11, rfl, by decide, wl_11, (inB wd_769 rfl), tyX11_ok, nmX11, rfl, by decide +kernel⟩
theorem fl11_62 : FL RX11 62 10 23 := ⟨RX11, TX11, 39, rfl, by decide, wl_11, (inB wd_770 rfl)⟩
theorem fl11_211 : FL RX11 211 10 24 := ⟨RX11, TX11, 39, rfl, by decide, wl_11, (inB wd_771 rfl)⟩
theorem fp11_211 : FP RX11 211 10 24 .long := ⟨RX11, TX11, 39, tyX11, rfl, by decide, wl_11, (inB wd_771 rfl), tyX11_ok, nmX11, rfl, by decide +kernel⟩
theorem fl11_65 : FL RX11 65 10 25 := ⟨RX11, TX11, 39, rfl, by decide, wl_11, (inB wd_772 rfl)⟩
theorem fl11_68 : FL RX11 68 10 26 := ⟨RX11, TX11, 39, rfl, by decide, wl_11, (inB wd_773 rfl)⟩
theorem fl11_220 : FL RX11 220 10 27 := ⟨RX11, TX11, 39, rfl, by decide, wl_11, (inB wd_774 rfl)⟩
theorem fp11_220 : FP RX11 220 10 27 .int := ⟨RX11, TX11, 39, tyX11, rfl, by decide, wl_11, (inB wd_774 rfl), tyX11_ok, nmX11, rfl, by decide +kernel⟩
theorem fl11_71 : FL RX11 71 10 28 := ⟨RX11, TX11, 39, rfl, by decide, wl_11, (inB wd_775 rfl)⟩
theorem fl11_74 : FL RX11 74 10 29 := ⟨RX11, TX11, 39, rfl, by decide, wl_11, (inB wd_776 rfl)⟩
theorem fl11_223 : FL RX11 223 10 30 := ⟨RX11, TX11, 39, rfl, by decide, wl_11, (inB wd_777 rfl)⟩
theorem fp11_223 : FP RX11 223 10 30 .long := ⟨RX11, TX11, 39, tyX11, rfl, by decide, wl_11, (inB wd_777 rfl), tyX11_ok, nmX11, rfl, by decide +kernel⟩
theorem fl11_256 : FL RX11 256 10 31 := ⟨RX11, TX11, 39, rfl, by decide, wl_11, (inB wd_778 rfl)⟩
theorem fp11_256 : FP RX11 256 10 31 .long := ⟨RX11, TX11, 39, tyX11, rfl, by decide, wl_11, (inB wd_778 rfl), tyX11_ok, nmX11, rfl, by decide +kernel⟩
theorem fl11_259 : FL RX11 259 10 32 := ⟨RX11, TX11, 39, rfl, by decide, wl_11, (inB wd_779 rfl)⟩
theorem fp11_259 : FP RX11 259 10 32 .long := ⟨RX11, TX11, 39, tyX11, rfl, by decide, wl_11, (inB wd_779 rfl), tyX11_ok, nmX11, rfl, by decide +kernel⟩
theorem fl11_265 : FL RX11 265 10 33 := ⟨RX11, TX11, 39, rfl, by decide, wl_11, (inB wd_780 rfl)⟩
theorem fp11_265 : FP RX11 265 10 33 .long := ⟨RX11, TX11, 39, tyX11, rfl, by decide, wl_11, (inB wd_780 rfl), tyX11_ok, nmX11, rfl, by decide +kernel⟩
theorem fl11_262 : FL RX11 262 10 34 := ⟨RX11, TX11, 39, rfl, by decide, wl_11, (inB wd_781 rfl)⟩
theorem fp11_262 : FP RX11 262 10 34 .long := ⟨RX11, TX11, 39, tyX11, rfl, by decide, wl_11, (inB wd_781 rfl), tyX11_ok, nmX11, rfl, by decide +kernel⟩
theorem fl11_252 : FL RX11 252 10 35 := ⟨RX11, TX11, 39, rfl, by decide, wl_11, (inB wd_782 rfl)⟩
theorem fp11_252 : FP RX11 252 10 35 .boolean := ⟨RX11, TX11, 39, tyX11, rfl, by decide, wl_11, (inB wd_782 rfl), tyX11_ok, nmX11, rfl, by decide +kernel⟩
theorem fl11_77 : FL RX11 77 10 36 := ⟨RX11, TX11, 39, rfl, by decide, wl_11, (inB wd_783 rfl)⟩
theorem fl11_80 : FL RX11 80 10 37 := ⟨RX11, TX11, 39, rfl, by decide, wl_11, (inB wd_784 rfl)⟩
theorem fl11_272 : FL RX11 272 10 38 := ⟨RX11, TX11, 39, rfl, by decide, wl_11, (inB wd_785 rfl)⟩
theorem fp11_272 : FP RX11 272 10 38 .int := ⟨RX11, TX11, 39, tyX11, rfl, by decide, wl_11, (inB wd_785 rfl), tyX11_ok, nmX11, rfl, by decide +kernel⟩
theorem cvL_13 : CV RL 13 RX10 yX10_start cX10_start 2 (some .boolean) 1 := ⟨⟨(inB wd_373 rfl), (inB wd_49 rfl), (inB wd_376 rfl), by decide +kernel⟩, rfl, (inB wd_374 rfl), (inB wd_375 rfl)⟩
theorem cv10_89 : CV RX10 89 RX9 yX9_clear cX9_clear 2 none 1 := ⟨⟨(inB wd_377 rfl), (inB wd_50 rfl), (inB wd_380 rfl), by decide +kernel⟩, rfl, (inB wd_378 rfl), (inB wd_379 rfl)⟩
theorem cv10_93 : CV RX10 93 RX10 yX10_forget cX10_forget 1 none 0 := ⟨⟨(inB wd_381 rfl), (inB wd_49 rfl), (inB wd_384 rfl), by decide +kernel⟩, rfl, (inB wd_383 rfl), (inB wd_0 rfl)⟩
theorem cvL_18 : CV RL 18 RX10 yX10_row cX10_row 6 (some .int) 4 := ⟨⟨(inB wd_385 rfl), (inB wd_49 rfl), (inB wd_388 rfl), by decide +kernel⟩, rfl, (inB wd_386 rfl), (inB wd_387 rfl)⟩
theorem cv10_96 : CV RX10 96 RX9 yX9_add cX9_add 9 (some .int) 4 := ⟨⟨(inB wd_389 rfl), (inB wd_50 rfl), (inB wd_392 rfl), by decide +kernel⟩, rfl, (inB wd_390 rfl), (inB wd_391 rfl)⟩
theorem cs9_40 : CS RX9 40 yX9_isWithin cX9_isWithin 2 (some .boolean) 2 := ⟨⟨(inB wd_393 rfl), (inB wd_50 rfl), (inB wd_395 rfl), by decide +kernel⟩, (inB wd_394 rfl)⟩
theorem cvL_23 : CV RL 23 RX10 yX10_set cX10_set 3 (some .boolean) 2 := ⟨⟨(inB wd_396 rfl), (inB wd_49 rfl), (inB wd_399 rfl), by decide +kernel⟩, rfl, (inB wd_397 rfl), (inB wd_398 rfl)⟩
theorem cv10_100 : CV RX10 100 RX9 yX9_has cX9_has 2 (some .boolean) 1 := ⟨⟨(inB wd_400 rfl), (inB wd_50 rfl), (inB wd_403 rfl), by decide +kernel⟩, rfl, (inB wd_401 rfl), (inB wd_402 rfl)⟩
theorem cv10_104 : CV RX10 104 RX9 yX9_keeps cX9_keeps 2 (some .boolean) 1 := ⟨⟨(inB wd_404 rfl), (inB wd_50 rfl), (inB wd_407 rfl), by decide +kernel⟩, rfl, (inB wd_405 rfl), (inB wd_406 rfl)⟩
theorem cv9_32 : CV RX9 32 RX9 yX9_has cX9_has 2 (some .boolean) 1 := ⟨⟨(inB wd_408 rfl), (inB wd_50 rfl), (inB wd_403 rfl), by decide +kernel⟩, rfl, (inB wd_401 rfl), (inB wd_402 rfl)⟩
theorem cv10_107 : CV RX10 107 RX9 yX9_keep cX9_keep 3 none 2 := ⟨⟨(inB wd_409 rfl), (inB wd_50 rfl), (inB wd_412 rfl), by decide +kernel⟩, rfl, (inB wd_410 rfl), (inB wd_411 rfl)⟩
theorem cvL_28 : CV RL 28 RX10 yX10_at cX10_at 3 (some .int) 2 := ⟨⟨(inB wd_413 rfl), (inB wd_49 rfl), (inB wd_416 rfl), by decide +kernel⟩, rfl, (inB wd_414 rfl), (inB wd_415 rfl)⟩
theorem cv10_115 : CV RX10 115 RX9 yX9_hasColumn cX9_hasColumn 2 (some .boolean) 1 := ⟨⟨(inB wd_417 rfl), (inB wd_50 rfl), (inB wd_420 rfl), by decide +kernel⟩, rfl, (inB wd_418 rfl), (inB wd_419 rfl)⟩
theorem cv10_118 : CV RX10 118 RX9 yX9_number cX9_number 3 (some .int) 2 := ⟨⟨(inB wd_421 rfl), (inB wd_50 rfl), (inB wd_424 rfl), by decide +kernel⟩, rfl, (inB wd_422 rfl), (inB wd_423 rfl)⟩
theorem cvL_33 : CV RL 33 RX10 yX10_there cX10_there 2 (some .boolean) 1 := ⟨⟨(inB wd_425 rfl), (inB wd_49 rfl), (inB wd_428 rfl), by decide +kernel⟩, rfl, (inB wd_426 rfl), (inB wd_427 rfl)⟩
theorem cvL_37 : CV RL 37 RX10 yX10_free cX10_free 1 (some .int) 0 := ⟨⟨(inB wd_429 rfl), (inB wd_49 rfl), (inB wd_432 rfl), by decide +kernel⟩, rfl, (inB wd_430 rfl), (inB wd_431 rfl)⟩
theorem cv10_122 : CV RX10 122 RX10 yX10_squaresNow cX10_squaresNow 2 (some (.object "GuessBench$Squares")) 0 := ⟨⟨(inB wd_433 rfl), (inB wd_49 rfl), (inB wd_436 rfl), by decide +kernel⟩, rfl, (inB wd_435 rfl), (inB wd_1 rfl)⟩
theorem cv10_159 : CV RX10 159 RX8 yX8_clear cX8_clear 2 none 0 := ⟨⟨(inB wd_437 rfl), (inB wd_53 rfl), (inB wd_440 rfl), by decide +kernel⟩, rfl, (inB wd_438 rfl), (inB wd_439 rfl)⟩
theorem cv10_168 : CV RX10 168 RX8 yX8_add cX8_add 9 none 2 := ⟨⟨(inB wd_441 rfl), (inB wd_53 rfl), (inB wd_444 rfl), by decide +kernel⟩, rfl, (inB wd_442 rfl), (inB wd_443 rfl)⟩
theorem cv8_34 : CV RX8 34 RX9 yX9_number cX9_number 3 (some .int) 2 := ⟨⟨(inB wd_445 rfl), (inB wd_50 rfl), (inB wd_424 rfl), by decide +kernel⟩, rfl, (inB wd_422 rfl), (inB wd_423 rfl)⟩
theorem cv10_171 : CV RX10 171 RX8 yX8_solve cX8_solve 1 none 0 := ⟨⟨(inB wd_446 rfl), (inB wd_53 rfl), (inB wd_449 rfl), by decide +kernel⟩, rfl, (inB wd_447 rfl), (inB wd_448 rfl)⟩
theorem cv8_38 : CV RX8 38 RX8 yX8_measure cX8_measure 4 none 0 := ⟨⟨(inB wd_450 rfl), (inB wd_53 rfl), (inB wd_453 rfl), by decide +kernel⟩, rfl, (inB wd_451 rfl), (inB wd_452 rfl)⟩
theorem cv8_41 : CV RX8 41 RX8 yX8_solveFor cX8_solveFor 11 none 2 := ⟨⟨(inB wd_454 rfl), (inB wd_53 rfl), (inB wd_457 rfl), by decide +kernel⟩, rfl, (inB wd_455 rfl), (inB wd_456 rfl)⟩
theorem cv8_49 : CV RX8 49 RX8 yX8_rowProduct cX8_rowProduct 9 (some .long) 4 := ⟨⟨(inB wd_458 rfl), (inB wd_53 rfl), (inB wd_461 rfl), by decide +kernel⟩, rfl, (inB wd_459 rfl), (inB wd_460 rfl)⟩
theorem cvL_42 : CV RL 42 RX10 yX10_weight cX10_weight 4 (some .long) 2 := ⟨⟨(inB wd_462 rfl), (inB wd_49 rfl), (inB wd_465 rfl), by decide +kernel⟩, rfl, (inB wd_463 rfl), (inB wd_464 rfl)⟩
theorem cv10_134 : CV RX10 134 RX8 yX8_bottom cX8_bottom 1 (some .long) 0 := ⟨⟨(inB wd_467 rfl), (inB wd_53 rfl), (inB wd_470 rfl), by decide +kernel⟩, rfl, (inB wd_468 rfl), (inB wd_469 rfl)⟩
theorem cs10_138 : CS RX10 138 yX2_tell cX2_tell 7 (some .long) 3 := ⟨⟨(inB wd_471 rfl), (inB wd_60 rfl), (inB wd_473 rfl), by decide +kernel⟩, (inB wd_472 rfl)⟩
theorem cs2_19 : CS RX2 19 yX2_common cX2_common 11 (some .long) 2 := ⟨⟨(inB wd_475 rfl), (inB wd_60 rfl), (inB wd_477 rfl), by decide +kernel⟩, (inB wd_476 rfl)⟩
theorem cs2_9 : CS RX2 9 yJ9_abs_067f4 cJ9_abs_067f4 2 (some .long) 1 := ⟨⟨(inB wd_478 rfl), (inB wd_61 rfl), (inB wd_480 rfl), by decide +kernel⟩, (inB wd_479 rfl)⟩
theorem cvL_47 : CV RL 47 RX10 yX10_miss cX10_miss 6 (some .long) 2 := ⟨⟨(inB wd_481 rfl), (inB wd_49 rfl), (inB wd_484 rfl), by decide +kernel⟩, rfl, (inB wd_482 rfl), (inB wd_483 rfl)⟩
theorem cv10_144 : CV RX10 144 RX9 yX9_copyNumbers cX9_copyNumbers 4 none 2 := ⟨⟨(inB wd_485 rfl), (inB wd_50 rfl), (inB wd_488 rfl), by decide +kernel⟩, rfl, (inB wd_486 rfl), (inB wd_487 rfl)⟩
theorem cv9_36 : CV RX9 36 RX9 yX9_number cX9_number 3 (some .int) 2 := ⟨⟨(inB wd_489 rfl), (inB wd_50 rfl), (inB wd_424 rfl), by decide +kernel⟩, rfl, (inB wd_422 rfl), (inB wd_423 rfl)⟩
theorem cs10_148 : CS RX10 148 yX8_product cX8_product 2 (some .long) 2 := ⟨⟨(inB wd_490 rfl), (inB wd_53 rfl), (inB wd_492 rfl), by decide +kernel⟩, (inB wd_491 rfl)⟩
theorem cvL_51 : CV RL 51 RX10 yX10_sum cX10_sum 3 (some .long) 1 := ⟨⟨(inB wd_493 rfl), (inB wd_49 rfl), (inB wd_496 rfl), by decide +kernel⟩, rfl, (inB wd_494 rfl), (inB wd_495 rfl)⟩
theorem cv10_152 : CV RX10 152 RX8 yX8_leftTop cX8_leftTop 1 (some .long) 0 := ⟨⟨(inB wd_497 rfl), (inB wd_53 rfl), (inB wd_500 rfl), by decide +kernel⟩, rfl, (inB wd_498 rfl), (inB wd_499 rfl)⟩
theorem cv8_53 : CV RX8 53 RX8 yX8_bottom cX8_bottom 1 (some .long) 0 := ⟨⟨(inB wd_501 rfl), (inB wd_53 rfl), (inB wd_470 rfl), by decide +kernel⟩, rfl, (inB wd_468 rfl), (inB wd_469 rfl)⟩
theorem cs8_57 : CS RX8 57 yX8_product cX8_product 2 (some .long) 2 := ⟨⟨(inB wd_502 rfl), (inB wd_53 rfl), (inB wd_492 rfl), by decide +kernel⟩, (inB wd_491 rfl)⟩
theorem cvL_56 : CV RL 56 RX10 yX10_pull cX10_pull 4 (some .long) 2 := ⟨⟨(inB wd_503 rfl), (inB wd_49 rfl), (inB wd_506 rfl), by decide +kernel⟩, rfl, (inB wd_504 rfl), (inB wd_505 rfl)⟩
theorem cv10_155 : CV RX10 155 RX8 yX8_solveFor cX8_solveFor 11 none 2 := ⟨⟨(inB wd_507 rfl), (inB wd_53 rfl), (inB wd_457 rfl), by decide +kernel⟩, rfl, (inB wd_455 rfl), (inB wd_456 rfl)⟩
theorem cvL_60 : CV RL 60 RX10 yX10_without cX10_without 5 (some .long) 3 := ⟨⟨(inB wd_508 rfl), (inB wd_49 rfl), (inB wd_511 rfl), by decide +kernel⟩, rfl, (inB wd_509 rfl), (inB wd_510 rfl)⟩
theorem cvL_65 : CV RL 65 RX10 yX10_far cX10_far 5 (some .long) 3 := ⟨⟨(inB wd_512 rfl), (inB wd_49 rfl), (inB wd_515 rfl), by decide +kernel⟩, rfl, (inB wd_513 rfl), (inB wd_514 rfl)⟩
theorem cv10_174 : CV RX10 174 RX10 yX10_isWhole cX10_isWhole 1 (some .boolean) 0 := ⟨⟨(inB wd_516 rfl), (inB wd_49 rfl), (inB wd_519 rfl), by decide +kernel⟩, rfl, (inB wd_518 rfl), (inB wd_2 rfl)⟩
theorem cvL_69 : CV RL 69 RX10 yX10_few cX10_few 5 (some .long) 2 := ⟨⟨(inB wd_520 rfl), (inB wd_49 rfl), (inB wd_523 rfl), by decide +kernel⟩, rfl, (inB wd_521 rfl), (inB wd_522 rfl)⟩
theorem cv10_181 : CV RX10 181 RX1 yX1_clear cX1_clear 1 none 0 := ⟨⟨(inB wd_524 rfl), (inB wd_58 rfl), (inB wd_527 rfl), by decide +kernel⟩, rfl, (inB wd_525 rfl), (inB wd_526 rfl)⟩
theorem cs10_182 : CS RX10 182 yJ6_bitCount_0f7a4 cJ6_bitCount_0f7a4 1 (some .int) 1 := ⟨⟨(inB wd_528 rfl), (inB wd_62 rfl), (inB wd_530 rfl), by decide +kernel⟩, (inB wd_529 rfl)⟩
theorem cv10_188 : CV RX10 188 RX8 yX8_copyColumns cX8_copyColumns 7 none 2 := ⟨⟨(inB wd_534 rfl), (inB wd_53 rfl), (inB wd_537 rfl), by decide +kernel⟩, rfl, (inB wd_535 rfl), (inB wd_536 rfl)⟩
theorem cv10_192 : CV RX10 192 RX1 yX1_offer cX1_offer 7 none 3 := ⟨⟨(inB wd_538 rfl), (inB wd_58 rfl), (inB wd_541 rfl), by decide +kernel⟩, rfl, (inB wd_539 rfl), (inB wd_540 rfl)⟩
theorem cs1_22 : CS RX1 22 yX2_order cX2_order 18 (some .int) 4 := ⟨⟨(inB wd_542 rfl), (inB wd_60 rfl), (inB wd_544 rfl), by decide +kernel⟩, (inB wd_543 rfl)⟩
theorem cv10_196 : CV RX10 196 RX1 yX1_tell cX1_tell 2 (some .long) 1 := ⟨⟨(inB wd_545 rfl), (inB wd_58 rfl), (inB wd_548 rfl), by decide +kernel⟩, rfl, (inB wd_546 rfl), (inB wd_547 rfl)⟩
theorem cs1_33 : CS RX1 33 yX2_tell cX2_tell 7 (some .long) 3 := ⟨⟨(inB wd_550 rfl), (inB wd_60 rfl), (inB wd_473 rfl), by decide +kernel⟩, (inB wd_472 rfl)⟩
theorem cvL_73 : CV RL 73 RX10 yX10_half cX10_half 3 (some .long) 2 := ⟨⟨(inB wd_551 rfl), (inB wd_49 rfl), (inB wd_554 rfl), by decide +kernel⟩, rfl, (inB wd_552 rfl), (inB wd_553 rfl)⟩
theorem cv10_202 : CV RX10 202 RX10 yX10_findHalf cX10_findHalf 8 none 1 := ⟨⟨(inB wd_555 rfl), (inB wd_49 rfl), (inB wd_558 rfl), by decide +kernel⟩, rfl, (inB wd_557 rfl), (inB wd_3 rfl)⟩
theorem cv10_220 : CV RX10 220 RX10 yX10_poolNow cX10_poolNow 1 (some (.object "GuessBench$Pool")) 0 := ⟨⟨(inB wd_559 rfl), (inB wd_49 rfl), (inB wd_562 rfl), by decide +kernel⟩, rfl, (inB wd_561 rfl), (inB wd_4 rfl)⟩
theorem cv10_273 : CV RX10 273 RX6 yX6_fill cX6_fill 3 none 1 := ⟨⟨(inB wd_563 rfl), (inB wd_51 rfl), (inB wd_566 rfl), by decide +kernel⟩, rfl, (inB wd_564 rfl), (inB wd_565 rfl)⟩
theorem cv6_40 : CV RX6 40 RX9 yX9_number cX9_number 3 (some .int) 2 := ⟨⟨(inB wd_567 rfl), (inB wd_50 rfl), (inB wd_424 rfl), by decide +kernel⟩, rfl, (inB wd_422 rfl), (inB wd_423 rfl)⟩
theorem cv6_44 : CV RX6 44 RX6 yX6_put cX6_put 5 none 4 := ⟨⟨(inB wd_568 rfl), (inB wd_51 rfl), (inB wd_571 rfl), by decide +kernel⟩, rfl, (inB wd_570 rfl), (inB wd_5 rfl)⟩
theorem cv10_285 : CV RX10 285 RX5 yX5_begin cX5_begin 4 (some .boolean) 2 := ⟨⟨(inB wd_572 rfl), (inB wd_52 rfl), (inB wd_575 rfl), by decide +kernel⟩, rfl, (inB wd_573 rfl), (inB wd_574 rfl)⟩
theorem cv10_292 : CV RX10 292 RX5 yX5_placeOf cX5_placeOf 2 (some .int) 1 := ⟨⟨(inB wd_576 rfl), (inB wd_52 rfl), (inB wd_579 rfl), by decide +kernel⟩, rfl, (inB wd_577 rfl), (inB wd_578 rfl)⟩
theorem cv10_295 : CV RX10 295 RX5 yX5_advance cX5_advance 3 (some .boolean) 0 := ⟨⟨(inB wd_580 rfl), (inB wd_52 rfl), (inB wd_583 rfl), by decide +kernel⟩, rfl, (inB wd_581 rfl), (inB wd_582 rfl)⟩
theorem cvL_77 : CV RL 77 RX10 yX10_sizes cX10_sizes 3 (some .long) 1 := ⟨⟨(inB wd_584 rfl), (inB wd_49 rfl), (inB wd_587 rfl), by decide +kernel⟩, rfl, (inB wd_585 rfl), (inB wd_586 rfl)⟩
theorem cv10_205 : CV RX10 205 RX10 yX10_sizesNow cX10_sizesNow 1 (some (.object "GuessBench$LeastSizes")) 0 := ⟨⟨(inB wd_588 rfl), (inB wd_49 rfl), (inB wd_591 rfl), by decide +kernel⟩, rfl, (inB wd_590 rfl), (inB wd_6 rfl)⟩
theorem cv10_277 : CV RX10 277 RX4 yX4_find cX4_find 6 none 3 := ⟨⟨(inB wd_592 rfl), (inB wd_54 rfl), (inB wd_595 rfl), by decide +kernel⟩, rfl, (inB wd_593 rfl), (inB wd_594 rfl)⟩
theorem cv4_28 : CV RX4 28 RX5 yX5_begin cX5_begin 4 (some .boolean) 2 := ⟨⟨(inB wd_596 rfl), (inB wd_52 rfl), (inB wd_575 rfl), by decide +kernel⟩, rfl, (inB wd_573 rfl), (inB wd_574 rfl)⟩
theorem cv4_34 : CV RX4 34 RX5 yX5_placeOf cX5_placeOf 2 (some .int) 1 := ⟨⟨(inB wd_597 rfl), (inB wd_52 rfl), (inB wd_579 rfl), by decide +kernel⟩, rfl, (inB wd_577 rfl), (inB wd_578 rfl)⟩
theorem cv4_38 : CV RX4 38 RX4 yX4_solveExactly cX4_solveExactly 17 none 4 := ⟨⟨(inB wd_598 rfl), (inB wd_54 rfl), (inB wd_601 rfl), by decide +kernel⟩, rfl, (inB wd_600 rfl), (inB wd_7 rfl)⟩
theorem cv4_45 : CV RX4 45 RX4 yX4_takeIfLess cX4_takeIfLess 8 none 1 := ⟨⟨(inB wd_602 rfl), (inB wd_54 rfl), (inB wd_605 rfl), by decide +kernel⟩, rfl, (inB wd_604 rfl), (inB wd_8 rfl)⟩
theorem cv4_74 : CV RX4 74 RX4 yX4_sumBelow cX4_sumBelow 21 (some .long) 2 := ⟨⟨(inB wd_607 rfl), (inB wd_54 rfl), (inB wd_610 rfl), by decide +kernel⟩, rfl, (inB wd_609 rfl), (inB wd_9 rfl)⟩
theorem cs4_78 : CS RX4 78 yJ9_abs_067f4 cJ9_abs_067f4 2 (some .long) 1 := ⟨⟨(inB wd_611 rfl), (inB wd_61 rfl), (inB wd_480 rfl), by decide +kernel⟩, (inB wd_479 rfl)⟩
theorem cv4_49 : CV RX4 49 RX5 yX5_advance cX5_advance 3 (some .boolean) 0 := ⟨⟨(inB wd_612 rfl), (inB wd_52 rfl), (inB wd_583 rfl), by decide +kernel⟩, rfl, (inB wd_581 rfl), (inB wd_582 rfl)⟩
theorem cvL_81 : CV RL 81 RX10 yX10_sized cX10_sized 4 (some .long) 2 := ⟨⟨(inB wd_613 rfl), (inB wd_49 rfl), (inB wd_616 rfl), by decide +kernel⟩, rfl, (inB wd_614 rfl), (inB wd_615 rfl)⟩
theorem cvL_85 : CV RL 85 RX10 yX10_level cX10_level 2 (some .long) 1 := ⟨⟨(inB wd_617 rfl), (inB wd_49 rfl), (inB wd_620 rfl), by decide +kernel⟩, rfl, (inB wd_618 rfl), (inB wd_619 rfl)⟩
theorem cv10_224 : CV RX10 224 RX3 yX3_find cX3_find 10 none 2 := ⟨⟨(inB wd_621 rfl), (inB wd_55 rfl), (inB wd_624 rfl), by decide +kernel⟩, rfl, (inB wd_622 rfl), (inB wd_623 rfl)⟩
theorem cv3_21 : CV RX3 21 RX3 yX3_measure cX3_measure 10 none 2 := ⟨⟨(inB wd_625 rfl), (inB wd_55 rfl), (inB wd_628 rfl), by decide +kernel⟩, rfl, (inB wd_627 rfl), (inB wd_10 rfl)⟩
theorem cv3_35 : CV RX3 35 RX3 yX3_raise cX3_raise 22 none 4 := ⟨⟨(inB wd_629 rfl), (inB wd_55 rfl), (inB wd_632 rfl), by decide +kernel⟩, rfl, (inB wd_631 rfl), (inB wd_11 rfl)⟩
theorem cs3_48 : CS RX3 48 yX3_threesBelow cX3_threesBelow 1 (some .int) 1 := ⟨⟨(inB wd_633 rfl), (inB wd_55 rfl), (inB wd_635 rfl), by decide +kernel⟩, (inB wd_634 rfl)⟩
theorem cs3_52 : CS RX3 52 yX3_twosBelow cX3_twosBelow 1 (some .int) 1 := ⟨⟨(inB wd_636 rfl), (inB wd_55 rfl), (inB wd_638 rfl), by decide +kernel⟩, (inB wd_637 rfl)⟩
theorem cs3_55 : CS RX3 55 yJ9_abs_0f7a4 cJ9_abs_0f7a4 1 (some .int) 1 := ⟨⟨(inB wd_639 rfl), (inB wd_61 rfl), (inB wd_641 rfl), by decide +kernel⟩, (inB wd_640 rfl)⟩
theorem cvL_89 : CV RL 89 RX10 yX10_barred cX10_barred 4 (some .long) 3 := ⟨⟨(inB wd_642 rfl), (inB wd_49 rfl), (inB wd_645 rfl), by decide +kernel⟩, rfl, (inB wd_643 rfl), (inB wd_644 rfl)⟩
theorem cs10_230 : CS RX10 230 yX10_isBar cX10_isBar 1 (some .boolean) 1 := ⟨⟨(inB wd_646 rfl), (inB wd_49 rfl), (inB wd_648 rfl), by decide +kernel⟩, (inB wd_647 rfl)⟩
theorem cv10_233 : CV RX10 233 RX0 yX0_find cX0_find 6 (some .boolean) 3 := ⟨⟨(inB wd_650 rfl), (inB wd_56 rfl), (inB wd_653 rfl), by decide +kernel⟩, rfl, (inB wd_651 rfl), (inB wd_652 rfl)⟩
theorem cs0_41 : CS RX0 41 yX0_patternsOf cX0_patternsOf 3 (some .int) 1 := ⟨⟨(inB wd_654 rfl), (inB wd_56 rfl), (inB wd_656 rfl), by decide +kernel⟩, (inB wd_655 rfl)⟩
theorem cv0_45 : CV RX0 45 RX0 yX0_lay cX0_lay 7 (some .boolean) 2 := ⟨⟨(inB wd_657 rfl), (inB wd_56 rfl), (inB wd_660 rfl), by decide +kernel⟩, rfl, (inB wd_659 rfl), (inB wd_12 rfl)⟩
theorem cv0_94 : CV RX0 94 RX8 yX8_copyColumns cX8_copyColumns 7 none 2 := ⟨⟨(inB wd_663 rfl), (inB wd_53 rfl), (inB wd_537 rfl), by decide +kernel⟩, rfl, (inB wd_535 rfl), (inB wd_536 rfl)⟩
theorem cv0_98 : CV RX0 98 RX8 yX8_measure cX8_measure 4 none 0 := ⟨⟨(inB wd_664 rfl), (inB wd_53 rfl), (inB wd_453 rfl), by decide +kernel⟩, rfl, (inB wd_451 rfl), (inB wd_452 rfl)⟩
theorem cs0_105 : CS RX0 105 yJ6_bitCount_0f7a4 cJ6_bitCount_0f7a4 1 (some .int) 1 := ⟨⟨(inB wd_665 rfl), (inB wd_62 rfl), (inB wd_530 rfl), by decide +kernel⟩, (inB wd_529 rfl)⟩
theorem cv0_110 : CV RX0 110 RX8 yX8_solveFor cX8_solveFor 11 none 2 := ⟨⟨(inB wd_666 rfl), (inB wd_53 rfl), (inB wd_457 rfl), by decide +kernel⟩, rfl, (inB wd_455 rfl), (inB wd_456 rfl)⟩
theorem cv0_117 : CV RX0 117 RX0 yX0_holdBack cX0_holdBack 9 none 2 := ⟨⟨(inB wd_667 rfl), (inB wd_56 rfl), (inB wd_670 rfl), by decide +kernel⟩, rfl, (inB wd_669 rfl), (inB wd_13 rfl)⟩
theorem cv0_55 : CV RX0 55 RX8 yX8_bottom cX8_bottom 1 (some .long) 0 := ⟨⟨(inB wd_671 rfl), (inB wd_53 rfl), (inB wd_470 rfl), by decide +kernel⟩, rfl, (inB wd_468 rfl), (inB wd_469 rfl)⟩
theorem cv0_124 : CV RX0 124 RX8 yX8_rowProduct cX8_rowProduct 9 (some .long) 4 := ⟨⟨(inB wd_672 rfl), (inB wd_53 rfl), (inB wd_461 rfl), by decide +kernel⟩, rfl, (inB wd_459 rfl), (inB wd_460 rfl)⟩
theorem cv0_120 : CV RX0 120 RX0 yX0_addCondition cX0_addCondition 6 none 3 := ⟨⟨(inB wd_673 rfl), (inB wd_56 rfl), (inB wd_676 rfl), by decide +kernel⟩, rfl, (inB wd_675 rfl), (inB wd_14 rfl)⟩
theorem cv0_49 : CV RX0 49 RX0 yX0_holdsAt cX0_holdsAt 5 (some .boolean) 1 := ⟨⟨(inB wd_677 rfl), (inB wd_56 rfl), (inB wd_680 rfl), by decide +kernel⟩, rfl, (inB wd_679 rfl), (inB wd_15 rfl)⟩
theorem cv10_236 : CV RX10 236 RX0 yX0_weightTop cX0_weightTop 3 (some .long) 2 := ⟨⟨(inB wd_681 rfl), (inB wd_56 rfl), (inB wd_684 rfl), by decide +kernel⟩, rfl, (inB wd_682 rfl), (inB wd_683 rfl)⟩
theorem cv10_240 : CV RX10 240 RX0 yX0_weightBottom cX0_weightBottom 1 (some .long) 0 := ⟨⟨(inB wd_685 rfl), (inB wd_56 rfl), (inB wd_688 rfl), by decide +kernel⟩, rfl, (inB wd_686 rfl), (inB wd_687 rfl)⟩
theorem cvL_93 : CV RL 93 RX10 yX10_cost cX10_cost 3 (some .long) 2 := ⟨⟨(inB wd_689 rfl), (inB wd_49 rfl), (inB wd_692 rfl), by decide +kernel⟩, rfl, (inB wd_690 rfl), (inB wd_691 rfl)⟩
theorem cv10_243 : CV RX10 243 RX0 yX0_costTop cX0_costTop 5 (some .long) 1 := ⟨⟨(inB wd_693 rfl), (inB wd_56 rfl), (inB wd_696 rfl), by decide +kernel⟩, rfl, (inB wd_694 rfl), (inB wd_695 rfl)⟩
theorem cv0_59 : CV RX0 59 RX0 yX0_weightTop cX0_weightTop 3 (some .long) 2 := ⟨⟨(inB wd_697 rfl), (inB wd_56 rfl), (inB wd_684 rfl), by decide +kernel⟩, rfl, (inB wd_682 rfl), (inB wd_683 rfl)⟩
theorem cv10_246 : CV RX10 246 RX0 yX0_costBottom cX0_costBottom 1 (some .long) 0 := ⟨⟨(inB wd_699 rfl), (inB wd_56 rfl), (inB wd_702 rfl), by decide +kernel⟩, rfl, (inB wd_700 rfl), (inB wd_701 rfl)⟩
theorem cvL_97 : CV RL 97 RX10 yX10_corners cX10_corners 1 (some .int) 0 := ⟨⟨(inB wd_703 rfl), (inB wd_49 rfl), (inB wd_706 rfl), by decide +kernel⟩, rfl, (inB wd_704 rfl), (inB wd_705 rfl)⟩
theorem cv10_249 : CV RX10 249 RX10 yX10_turnsNow cX10_turnsNow 1 (some (.object "GuessBench$Ratios")) 0 := ⟨⟨(inB wd_707 rfl), (inB wd_49 rfl), (inB wd_710 rfl), by decide +kernel⟩, rfl, (inB wd_709 rfl), (inB wd_16 rfl)⟩
theorem cv10_280 : CV RX10 280 RX0 yX0_collectTurns cX0_collectTurns 7 none 3 := ⟨⟨(inB wd_711 rfl), (inB wd_56 rfl), (inB wd_714 rfl), by decide +kernel⟩, rfl, (inB wd_712 rfl), (inB wd_713 rfl)⟩
theorem cv0_69 : CV RX0 69 RX0 yX0_collectTurn cX0_collectTurn 8 none 2 := ⟨⟨(inB wd_715 rfl), (inB wd_56 rfl), (inB wd_718 rfl), by decide +kernel⟩, rfl, (inB wd_717 rfl), (inB wd_17 rfl)⟩
theorem cs0_73 : CS RX0 73 yX2_tell cX2_tell 7 (some .long) 3 := ⟨⟨(inB wd_719 rfl), (inB wd_60 rfl), (inB wd_473 rfl), by decide +kernel⟩, (inB wd_472 rfl)⟩
theorem cv0_79 : CV RX0 79 RX0 yX0_holdsBeside cX0_holdsBeside 9 (some .boolean) 3 := ⟨⟨(inB wd_720 rfl), (inB wd_56 rfl), (inB wd_723 rfl), by decide +kernel⟩, rfl, (inB wd_722 rfl), (inB wd_18 rfl)⟩
theorem cv0_83 : CV RX0 83 RX7 yX7_insert cX7_insert 8 none 2 := ⟨⟨(inB wd_724 rfl), (inB wd_57 rfl), (inB wd_727 rfl), by decide +kernel⟩, rfl, (inB wd_725 rfl), (inB wd_726 rfl)⟩
theorem cs7_20 : CS RX7 20 yX2_order cX2_order 18 (some .int) 4 := ⟨⟨(inB wd_728 rfl), (inB wd_60 rfl), (inB wd_544 rfl), by decide +kernel⟩, (inB wd_543 rfl)⟩
theorem cvL_101 : CV RL 101 RX10 yX10_corner cX10_corner 4 (some .long) 2 := ⟨⟨(inB wd_729 rfl), (inB wd_49 rfl), (inB wd_732 rfl), by decide +kernel⟩, rfl, (inB wd_730 rfl), (inB wd_731 rfl)⟩
theorem cvL_105 : CV RL 105 RX10 yX10_count cX10_count 2 (some .int) 1 := ⟨⟨(inB wd_733 rfl), (inB wd_49 rfl), (inB wd_736 rfl), by decide +kernel⟩, rfl, (inB wd_734 rfl), (inB wd_735 rfl)⟩
theorem cvL_17 : CV RL 17 RX11 yX11_start cX11_start 2 (some .boolean) 1 := ⟨⟨(inB wd_865 rfl), (inB wd_59 rfl), (inB wd_868 rfl), by decide +kernel⟩, rfl, (inB wd_866 rfl), (inB wd_867 rfl)⟩
theorem cvL_22 : CV RL 22 RX11 yX11_row cX11_row 6 (some .int) 4 := ⟨⟨(inB wd_869 rfl), (inB wd_59 rfl), (inB wd_872 rfl), by decide +kernel⟩, rfl, (inB wd_870 rfl), (inB wd_871 rfl)⟩
theorem cs11_150 : CS RX11 150 yX11_isNumber cX11_isNumber 1 (some .boolean) 1 := ⟨⟨(inB wd_873 rfl), (inB wd_59 rfl), (inB wd_875 rfl), by decide +kernel⟩, (inB wd_874 rfl)⟩
theorem cvL_27 : CV RL 27 RX11 yX11_set cX11_set 3 (some .boolean) 2 := ⟨⟨(inB wd_876 rfl), (inB wd_59 rfl), (inB wd_879 rfl), by decide +kernel⟩, rfl, (inB wd_877 rfl), (inB wd_878 rfl)⟩
theorem cv11_154 : CV RX11 154 RX11 yX11_isRow cX11_isRow 2 (some .boolean) 1 := ⟨⟨(inB wd_880 rfl), (inB wd_59 rfl), (inB wd_883 rfl), by decide +kernel⟩, rfl, (inB wd_882 rfl), (inB wd_19 rfl)⟩
theorem cvL_32 : CV RL 32 RX11 yX11_at cX11_at 3 (some .int) 2 := ⟨⟨(inB wd_884 rfl), (inB wd_59 rfl), (inB wd_887 rfl), by decide +kernel⟩, rfl, (inB wd_885 rfl), (inB wd_886 rfl)⟩
theorem cv11_157 : CV RX11 157 RX11 yX11_isColumn cX11_isColumn 2 (some .boolean) 1 := ⟨⟨(inB wd_888 rfl), (inB wd_59 rfl), (inB wd_891 rfl), by decide +kernel⟩, rfl, (inB wd_890 rfl), (inB wd_20 rfl)⟩
theorem cvL_36 : CV RL 36 RX11 yX11_there cX11_there 2 (some .boolean) 1 := ⟨⟨(inB wd_892 rfl), (inB wd_59 rfl), (inB wd_895 rfl), by decide +kernel⟩, rfl, (inB wd_893 rfl), (inB wd_894 rfl)⟩
theorem cvL_41 : CV RL 41 RX11 yX11_free cX11_free 1 (some .int) 0 := ⟨⟨(inB wd_896 rfl), (inB wd_59 rfl), (inB wd_899 rfl), by decide +kernel⟩, rfl, (inB wd_897 rfl), (inB wd_898 rfl)⟩
theorem cv11_143 : CV RX11 143 RX11 yX11_all cX11_all 2 none 0 := ⟨⟨(inB wd_900 rfl), (inB wd_59 rfl), (inB wd_903 rfl), by decide +kernel⟩, rfl, (inB wd_902 rfl), (inB wd_21 rfl)⟩
theorem cv11_97 : CV RX11 97 RX11 yX11_take cX11_take 5 none 1 := ⟨⟨(inB wd_904 rfl), (inB wd_59 rfl), (inB wd_907 rfl), by decide +kernel⟩, rfl, (inB wd_906 rfl), (inB wd_22 rfl)⟩
theorem cv11_132 : CV RX11 132 RX11 yX11_rank cX11_rank 5 (some .int) 0 := ⟨⟨(inB wd_908 rfl), (inB wd_59 rfl), (inB wd_911 rfl), by decide +kernel⟩, rfl, (inB wd_910 rfl), (inB wd_23 rfl)⟩
theorem cv11_119 : CV RX11 119 RX11 yX11_copy cX11_copy 4 none 1 := ⟨⟨(inB wd_912 rfl), (inB wd_59 rfl), (inB wd_915 rfl), by decide +kernel⟩, rfl, (inB wd_914 rfl), (inB wd_24 rfl)⟩
theorem cv11_112 : CV RX11 112 RX11 yX11_determinant cX11_determinant 2 (some .long) 1 := ⟨⟨(inB wd_916 rfl), (inB wd_59 rfl), (inB wd_919 rfl), by decide +kernel⟩, rfl, (inB wd_918 rfl), (inB wd_25 rfl)⟩
theorem cv11_108 : CV RX11 108 RX11 yX11_minor cX11_minor 7 (some .long) 2 := ⟨⟨(inB wd_920 rfl), (inB wd_59 rfl), (inB wd_923 rfl), by decide +kernel⟩, rfl, (inB wd_922 rfl), (inB wd_26 rfl)⟩
theorem cv11_122 : CV RX11 122 RX11 yX11_cross cX11_cross 6 none 2 := ⟨⟨(inB wd_924 rfl), (inB wd_59 rfl), (inB wd_927 rfl), by decide +kernel⟩, rfl, (inB wd_926 rfl), (inB wd_27 rfl)⟩
theorem cs11_85 : CS RX11 85 yX11_divisor cX11_divisor 10 (some .long) 2 := ⟨⟨(inB wd_928 rfl), (inB wd_59 rfl), (inB wd_930 rfl), by decide +kernel⟩, (inB wd_929 rfl)⟩
theorem cvL_46 : CV RL 46 RX11 yX11_weight cX11_weight 3 (some .long) 2 := ⟨⟨(inB wd_931 rfl), (inB wd_59 rfl), (inB wd_934 rfl), by decide +kernel⟩, rfl, (inB wd_932 rfl), (inB wd_933 rfl)⟩
theorem cv11_160 : CV RX11 160 RX11 yX11_squares cX11_squares 1 none 0 := ⟨⟨(inB wd_936 rfl), (inB wd_59 rfl), (inB wd_939 rfl), by decide +kernel⟩, rfl, (inB wd_938 rfl), (inB wd_28 rfl)⟩
theorem cv11_146 : CV RX11 146 RX11 yX11_fit cX11_fit 4 none 1 := ⟨⟨(inB wd_940 rfl), (inB wd_59 rfl), (inB wd_943 rfl), by decide +kernel⟩, rfl, (inB wd_942 rfl), (inB wd_29 rfl)⟩
theorem cv11_136 : CV RX11 136 RX11 yX11_solve cX11_solve 9 none 1 := ⟨⟨(inB wd_944 rfl), (inB wd_59 rfl), (inB wd_947 rfl), by decide +kernel⟩, rfl, (inB wd_946 rfl), (inB wd_30 rfl)⟩
theorem cv11_139 : CV RX11 139 RX11 yX11_alongOne cX11_alongOne 14 none 2 := ⟨⟨(inB wd_948 rfl), (inB wd_59 rfl), (inB wd_951 rfl), by decide +kernel⟩, rfl, (inB wd_950 rfl), (inB wd_31 rfl)⟩
theorem cs11_163 : CS RX11 163 yX11_told cX11_told 9 (some .long) 3 := ⟨⟨(inB wd_952 rfl), (inB wd_59 rfl), (inB wd_954 rfl), by decide +kernel⟩, (inB wd_953 rfl)⟩
theorem cvL_50 : CV RL 50 RX11 yX11_miss cX11_miss 6 (some .long) 2 := ⟨⟨(inB wd_955 rfl), (inB wd_59 rfl), (inB wd_958 rfl), by decide +kernel⟩, rfl, (inB wd_956 rfl), (inB wd_957 rfl)⟩
theorem cvL_55 : CV RL 55 RX11 yX11_sum cX11_sum 2 (some .long) 1 := ⟨⟨(inB wd_959 rfl), (inB wd_59 rfl), (inB wd_962 rfl), by decide +kernel⟩, rfl, (inB wd_960 rfl), (inB wd_961 rfl)⟩
theorem cv11_167 : CV RX11 167 RX11 yX11_missed cX11_missed 4 (some .long) 0 := ⟨⟨(inB wd_963 rfl), (inB wd_59 rfl), (inB wd_966 rfl), by decide +kernel⟩, rfl, (inB wd_965 rfl), (inB wd_32 rfl)⟩
theorem cvL_59 : CV RL 59 RX11 yX11_pull cX11_pull 6 (some .long) 2 := ⟨⟨(inB wd_967 rfl), (inB wd_59 rfl), (inB wd_970 rfl), by decide +kernel⟩, rfl, (inB wd_968 rfl), (inB wd_969 rfl)⟩
theorem cv11_171 : CV RX11 171 RX11 yX11_there cX11_there 2 (some .boolean) 1 := ⟨⟨(inB wd_971 rfl), (inB wd_59 rfl), (inB wd_895 rfl), by decide +kernel⟩, rfl, (inB wd_893 rfl), (inB wd_894 rfl)⟩
theorem cv11_173 : CV RX11 173 RX11 yX11_fitRow cX11_fitRow 3 none 1 := ⟨⟨(inB wd_972 rfl), (inB wd_59 rfl), (inB wd_975 rfl), by decide +kernel⟩, rfl, (inB wd_974 rfl), (inB wd_33 rfl)⟩
theorem cvL_64 : CV RL 64 RX11 yX11_without cX11_without 4 (some .long) 3 := ⟨⟨(inB wd_976 rfl), (inB wd_59 rfl), (inB wd_979 rfl), by decide +kernel⟩, rfl, (inB wd_977 rfl), (inB wd_978 rfl)⟩
theorem cvL_68 : CV RL 68 RX11 yX11_far cX11_far 16 (some .long) 3 := ⟨⟨(inB wd_980 rfl), (inB wd_59 rfl), (inB wd_983 rfl), by decide +kernel⟩, rfl, (inB wd_981 rfl), (inB wd_982 rfl)⟩
theorem cvL_72 : CV RL 72 RX11 yX11_few cX11_few 11 (some .long) 2 := ⟨⟨(inB wd_984 rfl), (inB wd_59 rfl), (inB wd_987 rfl), by decide +kernel⟩, rfl, (inB wd_985 rfl), (inB wd_986 rfl)⟩
theorem cs11_176 : CS RX11 176 yJ6_bitCount_0f7a4 cJ6_bitCount_0f7a4 1 (some .int) 1 := ⟨⟨(inB wd_988 rfl), (inB wd_62 rfl), (inB wd_530 rfl), by decide +kernel⟩, (inB wd_529 rfl)⟩
theorem cs11_182 : CS RX11 182 yX11_compare cX11_compare 23 (some .int) 4 := ⟨⟨(inB wd_989 rfl), (inB wd_59 rfl), (inB wd_991 rfl), by decide +kernel⟩, (inB wd_990 rfl)⟩
theorem cs11_89 : CS RX11 89 yJ9_floorDiv_f86c9 cJ9_floorDiv_f86c9 6 (some .long) 2 := ⟨⟨(inB wd_992 rfl), (inB wd_61 rfl), (inB wd_994 rfl), by decide +kernel⟩, (inB wd_993 rfl)⟩
theorem cvL_76 : CV RL 76 RX11 yX11_half cX11_half 12 (some .long) 2 := ⟨⟨(inB wd_995 rfl), (inB wd_59 rfl), (inB wd_998 rfl), by decide +kernel⟩, rfl, (inB wd_996 rfl), (inB wd_997 rfl)⟩
theorem cv11_189 : CV RX11 189 RX11 yX11_manyThere cX11_manyThere 3 (some .int) 0 := ⟨⟨(inB wd_999 rfl), (inB wd_59 rfl), (inB wd_1002 rfl), by decide +kernel⟩, rfl, (inB wd_1001 rfl), (inB wd_34 rfl)⟩
theorem cv11_192 : CV RX11 192 RX11 yX11_begins cX11_begins 4 (some .boolean) 1 := ⟨⟨(inB wd_1003 rfl), (inB wd_59 rfl), (inB wd_1006 rfl), by decide +kernel⟩, rfl, (inB wd_1005 rfl), (inB wd_35 rfl)⟩
theorem cv11_195 : CV RX11 195 RX11 yX11_next cX11_next 6 (some .boolean) 1 := ⟨⟨(inB wd_1007 rfl), (inB wd_59 rfl), (inB wd_1010 rfl), by decide +kernel⟩, rfl, (inB wd_1009 rfl), (inB wd_36 rfl)⟩
theorem cv11_186 : CV RX11 186 RX11 yX11_behind cX11_behind 3 (some .int) 1 := ⟨⟨(inB wd_1011 rfl), (inB wd_59 rfl), (inB wd_1014 rfl), by decide +kernel⟩, rfl, (inB wd_1013 rfl), (inB wd_37 rfl)⟩
theorem cvL_80 : CV RL 80 RX11 yX11_sizes cX11_sizes 2 (some .long) 1 := ⟨⟨(inB wd_1015 rfl), (inB wd_59 rfl), (inB wd_1018 rfl), by decide +kernel⟩, rfl, (inB wd_1016 rfl), (inB wd_1017 rfl)⟩
theorem cv11_214 : CV RX11 214 RX11 yX11_isWhole cX11_isWhole 1 (some .boolean) 0 := ⟨⟨(inB wd_1019 rfl), (inB wd_59 rfl), (inB wd_1022 rfl), by decide +kernel⟩, rfl, (inB wd_1021 rfl), (inB wd_38 rfl)⟩
theorem cv11_198 : CV RX11 198 RX11 yX11_free cX11_free 1 (some .int) 0 := ⟨⟨(inB wd_1023 rfl), (inB wd_59 rfl), (inB wd_899 rfl), by decide +kernel⟩, rfl, (inB wd_897 rfl), (inB wd_898 rfl)⟩
theorem cv11_217 : CV RX11 217 RX11 yX11_findSizes cX11_findSizes 8 none 0 := ⟨⟨(inB wd_1024 rfl), (inB wd_59 rfl), (inB wd_1027 rfl), by decide +kernel⟩, rfl, (inB wd_1026 rfl), (inB wd_39 rfl)⟩
theorem cv11_204 : CV RX11 204 RX11 yX11_fitsSet cX11_fitsSet 3 (some .boolean) 0 := ⟨⟨(inB wd_1028 rfl), (inB wd_59 rfl), (inB wd_1031 rfl), by decide +kernel⟩, rfl, (inB wd_1030 rfl), (inB wd_40 rfl)⟩
theorem cvL_84 : CV RL 84 RX11 yX11_sized cX11_sized 3 (some .long) 2 := ⟨⟨(inB wd_1032 rfl), (inB wd_59 rfl), (inB wd_1035 rfl), by decide +kernel⟩, rfl, (inB wd_1033 rfl), (inB wd_1034 rfl)⟩
theorem cvL_88 : CV RL 88 RX11 yX11_level cX11_level 15 (some .long) 1 := ⟨⟨(inB wd_1036 rfl), (inB wd_59 rfl), (inB wd_1039 rfl), by decide +kernel⟩, rfl, (inB wd_1037 rfl), (inB wd_1038 rfl)⟩
theorem cvL_92 : CV RL 92 RX11 yX11_barred cX11_barred 4 (some .long) 3 := ⟨⟨(inB wd_1040 rfl), (inB wd_59 rfl), (inB wd_1043 rfl), by decide +kernel⟩, rfl, (inB wd_1041 rfl), (inB wd_1042 rfl)⟩
theorem cv11_245 : CV RX11 245 RX11 yX11_findPattern cX11_findPattern 4 (some .boolean) 1 := ⟨⟨(inB wd_1045 rfl), (inB wd_59 rfl), (inB wd_1048 rfl), by decide +kernel⟩, rfl, (inB wd_1047 rfl), (inB wd_41 rfl)⟩
theorem cs11_234 : CS RX11 234 yX11_patterns cX11_patterns 1 (some .int) 1 := ⟨⟨(inB wd_1049 rfl), (inB wd_59 rfl), (inB wd_1051 rfl), by decide +kernel⟩, (inB wd_1050 rfl)⟩
theorem cv11_237 : CV RX11 237 RX11 yX11_pattern cX11_pattern 7 none 1 := ⟨⟨(inB wd_1052 rfl), (inB wd_59 rfl), (inB wd_1055 rfl), by decide +kernel⟩, rfl, (inB wd_1054 rfl), (inB wd_42 rfl)⟩
theorem cv11_240 : CV RX11 240 RX11 yX11_isRight cX11_isRight 9 (some .boolean) 1 := ⟨⟨(inB wd_1057 rfl), (inB wd_59 rfl), (inB wd_1060 rfl), by decide +kernel⟩, rfl, (inB wd_1059 rfl), (inB wd_43 rfl)⟩
theorem cs11_228 : CS RX11 228 yJ13_signum_95d88 cJ13_signum_95d88 2 (some .int) 1 := ⟨⟨(inB wd_1061 rfl), (inB wd_63 rfl), (inB wd_1063 rfl), by decide +kernel⟩, (inB wd_1062 rfl)⟩
theorem cvL_96 : CV RL 96 RX11 yX11_cost cX11_cost 8 (some .long) 2 := ⟨⟨(inB wd_1064 rfl), (inB wd_59 rfl), (inB wd_1067 rfl), by decide +kernel⟩, rfl, (inB wd_1065 rfl), (inB wd_1066 rfl)⟩
theorem cvL_100 : CV RL 100 RX11 yX11_corners cX11_corners 1 (some .int) 0 := ⟨⟨(inB wd_1070 rfl), (inB wd_59 rfl), (inB wd_1073 rfl), by decide +kernel⟩, rfl, (inB wd_1071 rfl), (inB wd_1072 rfl)⟩
theorem cv11_282 : CV RX11 282 RX11 yX11_findCorners cX11_findCorners 2 none 0 := ⟨⟨(inB wd_1074 rfl), (inB wd_59 rfl), (inB wd_1077 rfl), by decide +kernel⟩, rfl, (inB wd_1076 rfl), (inB wd_44 rfl)⟩
theorem cv11_275 : CV RX11 275 RX11 yX11_range cX11_range 7 none 0 := ⟨⟨(inB wd_1078 rfl), (inB wd_59 rfl), (inB wd_1081 rfl), by decide +kernel⟩, rfl, (inB wd_1080 rfl), (inB wd_45 rfl)⟩
theorem cv11_268 : CV RX11 268 RX11 yX11_bound cX11_bound 12 none 3 := ⟨⟨(inB wd_1082 rfl), (inB wd_59 rfl), (inB wd_1085 rfl), by decide +kernel⟩, rfl, (inB wd_1084 rfl), (inB wd_46 rfl)⟩
theorem cv11_278 : CV RX11 278 RX11 yX11_corner cX11_corner 7 none 2 := ⟨⟨(inB wd_1086 rfl), (inB wd_59 rfl), (inB wd_1089 rfl), by decide +kernel⟩, rfl, (inB wd_1088 rfl), (inB wd_47 rfl)⟩
theorem cvL_104 : CV RL 104 RX11 yX11_corner_ cX11_corner_ 3 (some .long) 2 := ⟨⟨(inB wd_1090 rfl), (inB wd_59 rfl), (inB wd_1093 rfl), by decide +kernel⟩, rfl, (inB wd_1091 rfl), (inB wd_1092 rfl)⟩
theorem cvL_109 : CV RL 109 RX11 yX11_count cX11_count 2 (some .int) 1 := ⟨⟨(inB wd_1094 rfl), (inB wd_59 rfl), (inB wd_1097 rfl), by decide +kernel⟩, rfl, (inB wd_1095 rfl), (inB wd_1096 rfl)⟩
