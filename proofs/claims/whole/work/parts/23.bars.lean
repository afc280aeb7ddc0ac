abbrev broC0 (cI cL cZ : ClassId) (ad : Nat → Nat) (o : Nat) (cn : Int) : Nat × va_E := (ad o, ob 0 [.ref (ad (o + 1)), .ref (ad (o + 6)), .ref (ad (o + 7)), .ref (ad (o + 8)), .ref (ad (o + 9)), .ref (ad (o + 10)), .ref (ad (o + 11)), .ref (ad (o + 12)), iV cn])
abbrev l6C0 (cI cL cZ : ClassId) (ad : Nat → Nat) (o : Nat) (f : Nat → Int) : Nat × va_E := (ad o, aL cL 6 f)
abbrev z6C0 (cI cL cZ : ClassId) (ad : Nat → Nat) (o : Nat) (f : Nat → Bool) : Nat × va_E := (ad o, aZ cZ 6 f)
set_option maxHeartbeats 4000000 in
set_option maxRecDepth 100000 in
theorem c_J6_bitCount_0f7a4 {l : Launch} {D : va_G} {cI cL cZ cX cG : ClassId} (s : Nat) (hs : s < 8) : Ct l D (gT cI cL cZ cX cG) yJ6_bitCount_0f7a4 cJ6_bitCount_0f7a4 1 (some .int) ({ frames := 0, cells := 0, slots := 0, locals := 0 }) [iV (((s : Nat) : Int))] ([]) (fun vv_ ww_ => vv_ = some (iV (((bcN s : Nat) : Int))) ∧ ww_ = []) := by
  refine Ct.ofF (by decide +kernel) (Nat.le_of_ble_eq_true rfl) (fun G hG => ?_)
  show G 0 [(0, iV (((s : Nat) : Int)))] [] ([])
  refine g_iload_n (pc := 0) hG 0 rfl dJ6_bitCount_0f7a4_0 ?_
  refine g_iload_n (pc := 1) hG 0 rfl dJ6_bitCount_0f7a4_1 ?_
  refine g_iconst (pc := 2) hG dJ6_bitCount_0f7a4_2 ?_
  refine g_iushr (z := ((s >>> 1 : Nat) : Int)) (pc := 3) hG (by have h : ∀ s : Fin 8, ((iI ((s.val : Nat) : Int)).toUInt32 >>> ((iI 1).toUInt32 &&& Int32.toUInt32 31)).toInt32 = iI ((s.val >>> 1 : Nat) : Int) := (by decide +kernel); exact h ⟨s, hs⟩) dJ6_bitCount_0f7a4_3 ?_
  refine g_ldcw (z := 1431655765) (pc := 4) hG (v := 1431655765) (inB wd_531 rfl) (by decide) dJ6_bitCount_0f7a4_4 ?_
  refine g_iand (z := ((s >>> 1 &&& 1431655765 : Nat) : Int)) (pc := 7) hG (by have h : ∀ s : Fin 8, (iI ((s.val >>> 1 : Nat) : Int)) &&& (iI 1431655765) = iI ((s.val >>> 1 &&& 1431655765 : Nat) : Int) := (by decide +kernel); exact h ⟨s, hs⟩) dJ6_bitCount_0f7a4_7 ?_
  refine g_isub (pc := 8) hG dJ6_bitCount_0f7a4_8 ?_
  refine g_eqI (pc := 9) hG (show ((((s : Nat) : Int)) - (((s >>> 1 &&& 1431655765 : Nat) : Int))) = ((s - (s >>> 1 &&& 1431655765) : Nat) : Int) by have h : ∀ s : Fin 8, ((s.val : Nat) : Int) - ((s.val >>> 1 &&& 1431655765 : Nat) : Int) = ((s.val - (s.val >>> 1 &&& 1431655765) : Nat) : Int) := (by decide +kernel); exact h ⟨s, hs⟩) ?_
  refine g_istore_n (pc := 9) hG (by decide) (lv' := [(0, iV (((s - (s >>> 1 &&& 1431655765) : Nat) : Int)))]) rfl dJ6_bitCount_0f7a4_9 ?_
  refine g_iload_n (pc := 10) hG 0 rfl dJ6_bitCount_0f7a4_10 ?_
  refine g_ldcw (z := 858993459) (pc := 11) hG (v := 858993459) (inB wd_532 rfl) (by decide) dJ6_bitCount_0f7a4_11 ?_
  refine g_iand (z := (((s - (s >>> 1 &&& 1431655765)) &&& 858993459 : Nat) : Int)) (pc := 14) hG (by have h : ∀ s : Fin 8, (iI ((s.val - (s.val >>> 1 &&& 1431655765) : Nat) : Int)) &&& (iI 858993459) = iI (((s.val - (s.val >>> 1 &&& 1431655765)) &&& 858993459 : Nat) : Int) := (by decide +kernel); exact h ⟨s, hs⟩) dJ6_bitCount_0f7a4_14 ?_
  refine g_iload_n (pc := 15) hG 0 rfl dJ6_bitCount_0f7a4_15 ?_
  refine g_iconst (pc := 16) hG dJ6_bitCount_0f7a4_16 ?_
  refine g_iushr (z := (((s - (s >>> 1 &&& 1431655765)) >>> 2 : Nat) : Int)) (pc := 17) hG (by have h : ∀ s : Fin 8, ((iI ((s.val - (s.val >>> 1 &&& 1431655765) : Nat) : Int)).toUInt32 >>> ((iI 2).toUInt32 &&& Int32.toUInt32 31)).toInt32 = iI (((s.val - (s.val >>> 1 &&& 1431655765)) >>> 2 : Nat) : Int) := (by decide +kernel); exact h ⟨s, hs⟩) dJ6_bitCount_0f7a4_17 ?_
  refine g_ldcw (z := 858993459) (pc := 18) hG (v := 858993459) (inB wd_532 rfl) (by decide) dJ6_bitCount_0f7a4_18 ?_
  refine g_iand (z := (((s - (s >>> 1 &&& 1431655765)) >>> 2 &&& 858993459 : Nat) : Int)) (pc := 21) hG (by have h : ∀ s : Fin 8, (iI (((s.val - (s.val >>> 1 &&& 1431655765)) >>> 2 : Nat) : Int)) &&& (iI 858993459) = iI (((s.val - (s.val >>> 1 &&& 1431655765)) >>> 2 &&& 858993459 : Nat) : Int) := (by decide +kernel); exact h ⟨s, hs⟩) dJ6_bitCount_0f7a4_21 ?_
  refine g_iadd (pc := 22) hG dJ6_bitCount_0f7a4_22 ?_
  refine g_istore_n (pc := 23) hG (by decide) (lv' := [(0, iV (((((s - (s >>> 1 &&& 1431655765)) &&& 858993459) + ((s - (s >>> 1 &&& 1431655765)) >>> 2 &&& 858993459) : Nat) : Int)))]) rfl dJ6_bitCount_0f7a4_23 ?_
  refine g_iload_n (pc := 24) hG 0 rfl dJ6_bitCount_0f7a4_24 ?_
  refine g_iload_n (pc := 25) hG 0 rfl dJ6_bitCount_0f7a4_25 ?_
  refine g_iconst (pc := 26) hG dJ6_bitCount_0f7a4_26 ?_
  refine g_iushr (z := (((((s - (s >>> 1 &&& 1431655765)) &&& 858993459) + ((s - (s >>> 1 &&& 1431655765)) >>> 2 &&& 858993459)) >>> 4 : Nat) : Int)) (pc := 27) hG (by have h : ∀ s : Fin 8, ((iI ((((s.val - (s.val >>> 1 &&& 1431655765)) &&& 858993459) + ((s.val - (s.val >>> 1 &&& 1431655765)) >>> 2 &&& 858993459) : Nat) : Int)).toUInt32 >>> ((iI 4).toUInt32 &&& Int32.toUInt32 31)).toInt32 = iI (((((s.val - (s.val >>> 1 &&& 1431655765)) &&& 858993459) + ((s.val - (s.val >>> 1 &&& 1431655765)) >>> 2 &&& 858993459)) >>> 4 : Nat) : Int) := (by decide +kernel); exact h ⟨s, hs⟩) dJ6_bitCount_0f7a4_27 ?_
  refine g_iadd (pc := 28) hG dJ6_bitCount_0f7a4_28 ?_
  refine g_ldcw (z := 252645135) (pc := 29) hG (v := 252645135) (inB wd_533 rfl) (by decide) dJ6_bitCount_0f7a4_29 ?_
  refine g_iand (z := ((((((s - (s >>> 1 &&& 1431655765)) &&& 858993459) + ((s - (s >>> 1 &&& 1431655765)) >>> 2 &&& 858993459)) + ((((s - (s >>> 1 &&& 1431655765)) &&& 858993459) + ((s - (s >>> 1 &&& 1431655765)) >>> 2 &&& 858993459)) >>> 4)) &&& 252645135 : Nat) : Int)) (pc := 32) hG (by have h : ∀ s : Fin 8, (iI (((((s.val - (s.val >>> 1 &&& 1431655765)) &&& 858993459) + ((s.val - (s.val >>> 1 &&& 1431655765)) >>> 2 &&& 858993459)) + ((((s.val - (s.val >>> 1 &&& 1431655765)) &&& 858993459) + ((s.val - (s.val >>> 1 &&& 1431655765)) >>> 2 &&& 858993459)) >>> 4) : Nat) : Int)) &&& (iI 252645135) = iI ((((((s.val - (s.val >>> 1 &&& 1431655765)) &&& 858993459) + ((s.val - (s.val >>> 1 &&& 1431655765)) >>> 2 &&& 858993459)) + ((((s.val - (s.val >>> 1 &&& 1431655765)) &&& 858993459) + ((s.val - (s.val >>> 1 &&& 1431655765)) >>> 2 &&& 858993459)) >>> 4)) &&& 252645135 : Nat) : Int) := (by decide +kernel); exact h ⟨s, hs⟩) dJ6_bitCount_0f7a4_32 ?_
  refine g_istore_n (pc := 33) hG (by decide) (lv' := [(0, iV (((((((s - (s >>> 1 &&& 1431655765)) &&& 858993459) + ((s - (s >>> 1 &&& 1431655765)) >>> 2 &&& 858993459)) + ((((s - (s >>> 1 &&& 1431655765)) &&& 858993459) + ((s - (s >>> 1 &&& 1431655765)) >>> 2 &&& 858993459)) >>> 4)) &&& 252645135 : Nat) : Int)))]) rfl dJ6_bitCount_0f7a4_33 ?_
  refine g_iload_n (pc := 34) hG 0 rfl dJ6_bitCount_0f7a4_34 ?_
  refine g_iload_n (pc := 35) hG 0 rfl dJ6_bitCount_0f7a4_35 ?_
  refine g_bipush (pc := 36) hG dJ6_bitCount_0f7a4_36 (by decide) ?_
  refine g_iushr (z := (((((((s - (s >>> 1 &&& 1431655765)) &&& 858993459) + ((s - (s >>> 1 &&& 1431655765)) >>> 2 &&& 858993459)) + ((((s - (s >>> 1 &&& 1431655765)) &&& 858993459) + ((s - (s >>> 1 &&& 1431655765)) >>> 2 &&& 858993459)) >>> 4)) &&& 252645135) >>> 8 : Nat) : Int)) (pc := 38) hG (by have h : ∀ s : Fin 8, ((iI (((((((s.val - (s.val >>> 1 &&& 1431655765)) &&& 858993459) + ((s.val - (s.val >>> 1 &&& 1431655765)) >>> 2 &&& 858993459)) + ((((s.val - (s.val >>> 1 &&& 1431655765)) &&& 858993459) + ((s.val - (s.val >>> 1 &&& 1431655765)) >>> 2 &&& 858993459)) >>> 4)) &&& 252645135) : Nat) : Int)).toUInt32 >>> ((iI 8).toUInt32 &&& Int32.toUInt32 31)).toInt32 = iI (((((((s.val - (s.val >>> 1 &&& 1431655765)) &&& 858993459) + ((s.val - (s.val >>> 1 &&& 1431655765)) >>> 2 &&& 858993459)) + ((((s.val - (s.val >>> 1 &&& 1431655765)) &&& 858993459) + ((s.val - (s.val >>> 1 &&& 1431655765)) >>> 2 &&& 858993459)) >>> 4)) &&& 252645135) >>> 8 : Nat) : Int) := (by decide +kernel); exact h ⟨s, hs⟩) dJ6_bitCount_0f7a4_38 ?_
  refine g_iadd (pc := 39) hG dJ6_bitCount_0f7a4_39 ?_
  refine g_istore_n (pc := 40) hG (by decide) (lv' := [(0, iV ((((((((s - (s >>> 1 &&& 1431655765)) &&& 858993459) + ((s - (s >>> 1 &&& 1431655765)) >>> 2 &&& 858993459)) + ((((s - (s >>> 1 &&& 1431655765)) &&& 858993459) + ((s - (s >>> 1 &&& 1431655765)) >>> 2 &&& 858993459)) >>> 4)) &&& 252645135) + ((((((s - (s >>> 1 &&& 1431655765)) &&& 858993459) + ((s - (s >>> 1 &&& 1431655765)) >>> 2 &&& 858993459)) + ((((s - (s >>> 1 &&& 1431655765)) &&& 858993459) + ((s - (s >>> 1 &&& 1431655765)) >>> 2 &&& 858993459)) >>> 4)) &&& 252645135) >>> 8) : Nat) : Int)))]) rfl dJ6_bitCount_0f7a4_40 ?_
  refine g_iload_n (pc := 41) hG 0 rfl dJ6_bitCount_0f7a4_41 ?_
  refine g_iload_n (pc := 42) hG 0 rfl dJ6_bitCount_0f7a4_42 ?_
  refine g_bipush (pc := 43) hG dJ6_bitCount_0f7a4_43 (by decide) ?_
  refine g_iushr (z := ((((((((s - (s >>> 1 &&& 1431655765)) &&& 858993459) + ((s - (s >>> 1 &&& 1431655765)) >>> 2 &&& 858993459)) + ((((s - (s >>> 1 &&& 1431655765)) &&& 858993459) + ((s - (s >>> 1 &&& 1431655765)) >>> 2 &&& 858993459)) >>> 4)) &&& 252645135) + ((((((s - (s >>> 1 &&& 1431655765)) &&& 858993459) + ((s - (s >>> 1 &&& 1431655765)) >>> 2 &&& 858993459)) + ((((s - (s >>> 1 &&& 1431655765)) &&& 858993459) + ((s - (s >>> 1 &&& 1431655765)) >>> 2 &&& 858993459)) >>> 4)) &&& 252645135) >>> 8)) >>> 16 : Nat) : Int)) (pc := 45) hG (by have h : ∀ s : Fin 8, ((iI (((((((s.val - (s.val >>> 1 &&& 1431655765)) &&& 858993459) + ((s.val - (s.val >>> 1 &&& 1431655765)) >>> 2 &&& 858993459)) + ((((s.val - (s.val >>> 1 &&& 1431655765)) &&& 858993459) + ((s.val - (s.val >>> 1 &&& 1431655765)) >>> 2 &&& 858993459)) >>> 4)) &&& 252645135) + ((((((s.val - (s.val >>> 1 &&& 1431655765)) &&& 858993459) + ((s.val - (s.val >>> 1 &&& 1431655765)) >>> 2 &&& 858993459)) + ((((s.val - (s.val >>> 1 &&& 1431655765)) &&& 858993459) + ((s.val - (s.val >>> 1 &&& 1431655765)) >>> 2 &&& 858993459)) >>> 4)) &&& 252645135) >>> 8) : Nat) : Int)).toUInt32 >>> ((iI 16).toUInt32 &&& Int32.toUInt32 31)).toInt32 = iI ((((((((s.val - (s.val >>> 1 &&& 1431655765)) &&& 858993459) + ((s.val - (s.val >>> 1 &&& 1431655765)) >>> 2 &&& 858993459)) + ((((s.val - (s.val >>> 1 &&& 1431655765)) &&& 858993459) + ((s.val - (s.val >>> 1 &&& 1431655765)) >>> 2 &&& 858993459)) >>> 4)) &&& 252645135) + ((((((s.val - (s.val >>> 1 &&& 1431655765)) &&& 858993459) + ((s.val - (s.val >>> 1 &&& 1431655765)) >>> 2 &&& 858993459)) + ((((s.val - (s.val >>> 1 &&& 1431655765)) &&& 858993459) + ((s.val - (s.val >>> 1 &&& 1431655765)) >>> 2 &&& 858993459)) >>> 4)) &&& 252645135) >>> 8)) >>> 16 : Nat) : Int) := (by decide +kernel); exact h ⟨s, hs⟩) dJ6_bitCount_0f7a4_45 ?_
  refine g_iadd (pc := 46) hG dJ6_bitCount_0f7a4_46 ?_
  refine g_istore_n (pc := 47) hG (by decide) (lv' := [(0, iV (((((((((s - (s >>> 1 &&& 1431655765)) &&& 858993459) + ((s - (s >>> 1 &&& 1431655765)) >>> 2 &&& 858993459)) + ((((s - (s >>> 1 &&& 1431655765)) &&& 858993459) + ((s - (s >>> 1 &&& 1431655765)) >>> 2 &&& 858993459)) >>> 4)) &&& 252645135) + ((((((s - (s >>> 1 &&& 1431655765)) &&& 858993459) + ((s - (s >>> 1 &&& 1431655765)) >>> 2 &&& 858993459)) + ((((s - (s >>> 1 &&& 1431655765)) &&& 858993459) + ((s - (s >>> 1 &&& 1431655765)) >>> 2 &&& 858993459)) >>> 4)) &&& 252645135) >>> 8)) + (((((((s - (s >>> 1 &&& 1431655765)) &&& 858993459) + ((s - (s >>> 1 &&& 1431655765)) >>> 2 &&& 858993459)) + ((((s - (s >>> 1 &&& 1431655765)) &&& 858993459) + ((s - (s >>> 1 &&& 1431655765)) >>> 2 &&& 858993459)) >>> 4)) &&& 252645135) + ((((((s - (s >>> 1 &&& 1431655765)) &&& 858993459) + ((s - (s >>> 1 &&& 1431655765)) >>> 2 &&& 858993459)) + ((((s - (s >>> 1 &&& 1431655765)) &&& 858993459) + ((s - (s >>> 1 &&& 1431655765)) >>> 2 &&& 858993459)) >>> 4)) &&& 252645135) >>> 8)) >>> 16) : Nat) : Int)))]) rfl dJ6_bitCount_0f7a4_47 ?_
  refine g_iload_n (pc := 48) hG 0 rfl dJ6_bitCount_0f7a4_48 ?_
  refine g_bipush (pc := 49) hG dJ6_bitCount_0f7a4_49 (by decide) ?_
  refine g_iand (z := (((((((((s - (s >>> 1 &&& 1431655765)) &&& 858993459) + ((s - (s >>> 1 &&& 1431655765)) >>> 2 &&& 858993459)) + ((((s - (s >>> 1 &&& 1431655765)) &&& 858993459) + ((s - (s >>> 1 &&& 1431655765)) >>> 2 &&& 858993459)) >>> 4)) &&& 252645135) + ((((((s - (s >>> 1 &&& 1431655765)) &&& 858993459) + ((s - (s >>> 1 &&& 1431655765)) >>> 2 &&& 858993459)) + ((((s - (s >>> 1 &&& 1431655765)) &&& 858993459) + ((s - (s >>> 1 &&& 1431655765)) >>> 2 &&& 858993459)) >>> 4)) &&& 252645135) >>> 8)) + (((((((s - (s >>> 1 &&& 1431655765)) &&& 858993459) + ((s - (s >>> 1 &&& 1431655765)) >>> 2 &&& 858993459)) + ((((s - (s >>> 1 &&& 1431655765)) &&& 858993459) + ((s - (s >>> 1 &&& 1431655765)) >>> 2 &&& 858993459)) >>> 4)) &&& 252645135) + ((((((s - (s >>> 1 &&& 1431655765)) &&& 858993459) + ((s - (s >>> 1 &&& 1431655765)) >>> 2 &&& 858993459)) + ((((s - (s >>> 1 &&& 1431655765)) &&& 858993459) + ((s - (s >>> 1 &&& 1431655765)) >>> 2 &&& 858993459)) >>> 4)) &&& 252645135) >>> 8)) >>> 16)) &&& 63 : Nat) : Int)) (pc := 51) hG (by have h : ∀ s : Fin 8, (iI ((((((((s.val - (s.val >>> 1 &&& 1431655765)) &&& 858993459) + ((s.val - (s.val >>> 1 &&& 1431655765)) >>> 2 &&& 858993459)) + ((((s.val - (s.val >>> 1 &&& 1431655765)) &&& 858993459) + ((s.val - (s.val >>> 1 &&& 1431655765)) >>> 2 &&& 858993459)) >>> 4)) &&& 252645135) + ((((((s.val - (s.val >>> 1 &&& 1431655765)) &&& 858993459) + ((s.val - (s.val >>> 1 &&& 1431655765)) >>> 2 &&& 858993459)) + ((((s.val - (s.val >>> 1 &&& 1431655765)) &&& 858993459) + ((s.val - (s.val >>> 1 &&& 1431655765)) >>> 2 &&& 858993459)) >>> 4)) &&& 252645135) >>> 8)) + (((((((s.val - (s.val >>> 1 &&& 1431655765)) &&& 858993459) + ((s.val - (s.val >>> 1 &&& 1431655765)) >>> 2 &&& 858993459)) + ((((s.val - (s.val >>> 1 &&& 1431655765)) &&& 858993459) + ((s.val - (s.val >>> 1 &&& 1431655765)) >>> 2 &&& 858993459)) >>> 4)) &&& 252645135) + ((((((s.val - (s.val >>> 1 &&& 1431655765)) &&& 858993459) + ((s.val - (s.val >>> 1 &&& 1431655765)) >>> 2 &&& 858993459)) + ((((s.val - (s.val >>> 1 &&& 1431655765)) &&& 858993459) + ((s.val - (s.val >>> 1 &&& 1431655765)) >>> 2 &&& 858993459)) >>> 4)) &&& 252645135) >>> 8)) >>> 16) : Nat) : Int)) &&& (iI 63) = iI (((((((((s.val - (s.val >>> 1 &&& 1431655765)) &&& 858993459) + ((s.val - (s.val >>> 1 &&& 1431655765)) >>> 2 &&& 858993459)) + ((((s.val - (s.val >>> 1 &&& 1431655765)) &&& 858993459) + ((s.val - (s.val >>> 1 &&& 1431655765)) >>> 2 &&& 858993459)) >>> 4)) &&& 252645135) + ((((((s.val - (s.val >>> 1 &&& 1431655765)) &&& 858993459) + ((s.val - (s.val >>> 1 &&& 1431655765)) >>> 2 &&& 858993459)) + ((((s.val - (s.val >>> 1 &&& 1431655765)) &&& 858993459) + ((s.val - (s.val >>> 1 &&& 1431655765)) >>> 2 &&& 858993459)) >>> 4)) &&& 252645135) >>> 8)) + (((((((s.val - (s.val >>> 1 &&& 1431655765)) &&& 858993459) + ((s.val - (s.val >>> 1 &&& 1431655765)) >>> 2 &&& 858993459)) + ((((s.val - (s.val >>> 1 &&& 1431655765)) &&& 858993459) + ((s.val - (s.val >>> 1 &&& 1431655765)) >>> 2 &&& 858993459)) >>> 4)) &&& 252645135) + ((((((s.val - (s.val >>> 1 &&& 1431655765)) &&& 858993459) + ((s.val - (s.val >>> 1 &&& 1431655765)) >>> 2 &&& 858993459)) + ((((s.val - (s.val >>> 1 &&& 1431655765)) &&& 858993459) + ((s.val - (s.val >>> 1 &&& 1431655765)) >>> 2 &&& 858993459)) >>> 4)) &&& 252645135) >>> 8)) >>> 16)) &&& 63 : Nat) : Int) := (by decide +kernel); exact h ⟨s, hs⟩) dJ6_bitCount_0f7a4_51 ?_
  exact g_ireturn (pc := 52) hG ⟨sI (by have h : ∀ s : Fin 8, (((((((((s.val - (s.val >>> 1 &&& 1431655765)) &&& 858993459) + ((s.val - (s.val >>> 1 &&& 1431655765)) >>> 2 &&& 858993459)) + ((((s.val - (s.val >>> 1 &&& 1431655765)) &&& 858993459) + ((s.val - (s.val >>> 1 &&& 1431655765)) >>> 2 &&& 858993459)) >>> 4)) &&& 252645135) + ((((((s.val - (s.val >>> 1 &&& 1431655765)) &&& 858993459) + ((s.val - (s.val >>> 1 &&& 1431655765)) >>> 2 &&& 858993459)) + ((((s.val - (s.val >>> 1 &&& 1431655765)) &&& 858993459) + ((s.val - (s.val >>> 1 &&& 1431655765)) >>> 2 &&& 858993459)) >>> 4)) &&& 252645135) >>> 8)) + (((((((s.val - (s.val >>> 1 &&& 1431655765)) &&& 858993459) + ((s.val - (s.val >>> 1 &&& 1431655765)) >>> 2 &&& 858993459)) + ((((s.val - (s.val >>> 1 &&& 1431655765)) &&& 858993459) + ((s.val - (s.val >>> 1 &&& 1431655765)) >>> 2 &&& 858993459)) >>> 4)) &&& 252645135) + ((((((s.val - (s.val >>> 1 &&& 1431655765)) &&& 858993459) + ((s.val - (s.val >>> 1 &&& 1431655765)) >>> 2 &&& 858993459)) + ((((s.val - (s.val >>> 1 &&& 1431655765)) &&& 858993459) + ((s.val - (s.val >>> 1 &&& 1431655765)) >>> 2 &&& 858993459)) >>> 4)) &&& 252645135) >>> 8)) >>> 16)) &&& 63 : Nat) : Int) = ((bcN s.val : Nat) : Int) := (by decide +kernel); exact h ⟨s, hs⟩), rfl⟩ dJ6_bitCount_0f7a4_52
set_option maxHeartbeats 4000000 in
set_option maxRecDepth 100000 in
theorem c_X0_patternsOf {l : Launch} {D : va_G} {cI cL cZ cX cG : ClassId} (m : Nat) (hm : m ≤ 3) : Ct l D (gT cI cL cZ cX cG) yX0_patternsOf cX0_patternsOf 3 (some .int) ({ frames := 0, cells := 0, slots := 0, locals := 0 }) [iV (((m : Nat) : Int))] ([]) (fun vv_ ww_ => vv_ = some (iV (((3 ^ m : Nat) : Int))) ∧ ww_ = []) := by
  refine Ct.of (by decide) (Nat.le_of_ble_eq_true rfl) (fun G hG => ?_)
  show G 0 [(0, iV (((m : Nat) : Int)))] [] ([])
  refine g_iconst (pc := 0) hG dX0_patternsOf_0 ?_
  refine g_istore_n (pc := 1) hG (by decide) (lv' := [(1, iV (1)), (0, iV (((m : Nat) : Int)))]) rfl dX0_patternsOf_1 ?_
  refine g_iconst (pc := 2) hG dX0_patternsOf_2 ?_
  refine g_istore_n (pc := 3) hG (by decide) (lv' := [(2, iV (0)), (1, iV (1)), (0, iV (((m : Nat) : Int)))]) rfl dX0_patternsOf_3 ?_
  have L4 : ∀ (fu4 : Nat) (c : Nat) (p : Nat), m - c < fu4 → (c ≤ m) → (p = 3 ^ c) → G 4 [(0, iV (((m : Nat) : Int))), (1, iV (((p : Nat) : Int))), (2, iV (((c : Nat) : Int)))] [] ([]) := by
    intro fu4
    induction fu4 with
    | zero => intro c p hm; exact absurd hm (Nat.not_lt_zero _)
    | succ fu4 ih4 =>
      intro c p hm4 hc hp
      refine g_iload_n (pc := 4) hG 2 rfl dX0_patternsOf_4 ?_
      refine g_iload_n (pc := 5) hG 0 rfl dX0_patternsOf_5 ?_
      refine g_icmp_ge (pc := 6) hG (by omega) (by omega) (tgt := 19) (by decide) dX0_patternsOf_6 (fun h6 => ?_) (fun h6 => ?_)
      · refine g_iload_n (pc := 19) hG 1 rfl dX0_patternsOf_19 ?_
        exact g_ireturn (pc := 20) hG ⟨sI (by rw [hp, show c = m by omega]), rfl⟩ dX0_patternsOf_20
      · refine g_iload_n (pc := 9) hG 1 rfl dX0_patternsOf_9 ?_
        refine g_iconst (pc := 10) hG dX0_patternsOf_10 ?_
        refine g_imul (pc := 11) hG dX0_patternsOf_11 ?_
        refine g_istore_n (pc := 12) hG (by decide) (lv' := [(1, iV (((p * 3 : Nat) : Int))), (0, iV (((m : Nat) : Int))), (2, iV (((c : Nat) : Int)))]) rfl dX0_patternsOf_12 ?_
        refine g_iinc (pc := 13) hG 2 rfl (by decide) (lv' := [(2, iV ((((c : Nat) : Int)) + 1)), (1, iV (((p * 3 : Nat) : Int))), (0, iV (((m : Nat) : Int)))]) rfl dX0_patternsOf_13 ?_
        refine g_goto (pc := 16) hG (tgt := 4) (by decide) dX0_patternsOf_16 ?_
        exact g_lv (pc := 4) hG [2, 1, 0] rfl (ih4 (c + 1) (p * 3) (by omega) (by omega) (by rw [hp, Nat.pow_succ]))
  exact g_lv (pc := 4) hG [2, 1, 0] rfl (L4 _ 0 1 (Nat.lt_succ_self _) (by omega) (rfl))
set_option maxHeartbeats 4000000 in
set_option maxRecDepth 100000 in
theorem c_X0_addCondition {l : Launch} {D : va_G} {cI cL cZ cX cG : ClassId} (ad : Nat → Nat) (o : Nat) (cn : Nat) (fx : Nat → Int) (rs : Nat → Int) (st : Nat → Bool) (a : Int) (b : Int) (s : Bool) (hc : cn < 6) : Ct l D (gT cI cL cZ cX cG) yX0_addCondition cX0_addCondition 6 none ({ frames := 0, cells := 0, slots := 0, locals := 0 }) [.ref (ad (o)), lV (a), lV (b), bV (s)] ([broC0 cI cL cZ ad (o) (((cn : Nat) : Int)), l6C0 cI cL cZ ad (o + 10) (fx), l6C0 cI cL cZ ad (o + 11) (rs), z6C0 cI cL cZ ad (o + 12) (st)]) (fun vv_ ww_ => vv_ = none ∧ ww_ = [broC0 cI cL cZ ad (o) (((cn + 1 : Nat) : Int)), l6C0 cI cL cZ ad (o + 10) (upZ fx cn a), l6C0 cI cL cZ ad (o + 11) (upZ rs cn b), z6C0 cI cL cZ ad (o + 12) (upB st cn s)]) := by
  refine Ct.of (by decide) (Nat.le_of_ble_eq_true rfl) (fun G hG => ?_)
  show G 0 [(0, .ref (ad (o))), (1, lV (a)), (3, lV (b)), (5, bV (s))] [] ([broC0 cI cL cZ ad (o) (((cn : Nat) : Int)), l6C0 cI cL cZ ad (o + 10) (fx), l6C0 cI cL cZ ad (o + 11) (rs), z6C0 cI cL cZ ad (o + 12) (st)])
  refine g_aload_n (pc := 0) hG 0 rfl dX0_addCondition_0 ?_
  refine g_get (pc := 1) hG fl0_114 0 rfl rfl dX0_addCondition_1 ?_
  refine g_bipush (pc := 4) hG dX0_addCondition_4 (by decide) ?_
  have J50 : ∀ (j50bro0cn : Nat) (j50l61f : Nat → Int) (j50l62f : Nat → Int) (j50z63f : Nat → Bool), (((6 ≤ ((cn : Nat) : Int)) ∧ j50bro0cn = cn ∧ j50l61f = fx ∧ j50l62f = rs ∧ j50z63f = st) ∨ ((¬ 6 ≤ ((cn : Nat) : Int)) ∧ j50bro0cn = cn + 1 ∧ j50l61f = upZ fx cn a ∧ j50l62f = upZ rs cn b ∧ j50z63f = upB st cn s)) → G 50 [(0, .ref (ad (o))), (1, lV (a)), (3, lV (b)), (5, bV (s))] [] ([broC0 cI cL cZ ad (o) (((j50bro0cn : Nat) : Int)), l6C0 cI cL cZ ad (o + 10) (j50l61f), l6C0 cI cL cZ ad (o + 11) (j50l62f), z6C0 cI cL cZ ad (o + 12) (j50z63f)]) := by
    intro j50bro0cn j50l61f j50l62f j50z63f k50
    exact g_return (pc := 50) hG ⟨rfl, by rcases k50 with h | ⟨-, rfl, rfl, rfl, rfl⟩; exact absurd h.1 (by omega); rfl⟩ dX0_addCondition_50
  refine g_icmp_ge (pc := 6) hG (by omega) (by omega) (tgt := 50) (by decide) dX0_addCondition_6 (fun h6 => ?_) (fun h6 => ?_)
  · exact g_lv (pc := 50) hG [0, 1, 2, 3] rfl (J50 cn fx rs st (Or.inl ⟨h6, rfl, rfl, rfl, rfl⟩))
  · refine g_aload_n (pc := 9) hG 0 rfl dX0_addCondition_9 ?_
    refine g_get (pc := 10) hG fl0_31 0 rfl rfl dX0_addCondition_10 ?_
    refine g_aload_n (pc := 13) hG 0 rfl dX0_addCondition_13 ?_
    refine g_get (pc := 14) hG fl0_114 0 rfl rfl dX0_addCondition_14 ?_
    refine g_lload_n (pc := 17) hG 1 rfl dX0_addCondition_17 ?_
    refine g_lastore (pc := 18) hG 1 cn rfl rfl (by omega) (by omega) (by decide) (ws' := [broC0 cI cL cZ ad (o) (((cn : Nat) : Int)), l6C0 cI cL cZ ad (o + 10) (upZ fx cn a), l6C0 cI cL cZ ad (o + 11) (rs), z6C0 cI cL cZ ad (o + 12) (st)]) rfl dX0_addCondition_18 ?_
    refine g_aload_n (pc := 19) hG 0 rfl dX0_addCondition_19 ?_
    refine g_get (pc := 20) hG fl0_34 0 rfl rfl dX0_addCondition_20 ?_
    refine g_aload_n (pc := 23) hG 0 rfl dX0_addCondition_23 ?_
    refine g_get (pc := 24) hG fl0_114 0 rfl rfl dX0_addCondition_24 ?_
    refine g_lload_n (pc := 27) hG 2 rfl dX0_addCondition_27 ?_
    refine g_lastore (pc := 28) hG 2 cn rfl rfl (by omega) (by omega) (by decide) (ws' := [broC0 cI cL cZ ad (o) (((cn : Nat) : Int)), l6C0 cI cL cZ ad (o + 10) (upZ fx cn a), l6C0 cI cL cZ ad (o + 11) (upZ rs cn b), z6C0 cI cL cZ ad (o + 12) (st)]) rfl dX0_addCondition_28 ?_
    refine g_aload_n (pc := 29) hG 0 rfl dX0_addCondition_29 ?_
    refine g_get (pc := 30) hG fl0_37 0 rfl rfl dX0_addCondition_30 ?_
    refine g_aload_n (pc := 33) hG 0 rfl dX0_addCondition_33 ?_
    refine g_get (pc := 34) hG fl0_114 0 rfl rfl dX0_addCondition_34 ?_
    refine g_iload (pc := 37) hG 3 rfl dX0_addCondition_37 ?_
    refine g_bastore (pc := 39) hG (v := s) 3 cn rfl rfl rfl (by omega) (by omega) (by decide) (ws' := [broC0 cI cL cZ ad (o) (((cn : Nat) : Int)), l6C0 cI cL cZ ad (o + 10) (upZ fx cn a), l6C0 cI cL cZ ad (o + 11) (upZ rs cn b), z6C0 cI cL cZ ad (o + 12) (upB st cn s)]) rfl dX0_addCondition_39 ?_
    refine g_aload_n (pc := 40) hG 0 rfl dX0_addCondition_40 ?_
    refine g_dup (pc := 41) hG rfl dX0_addCondition_41 ?_
    refine g_get (pc := 42) hG fl0_114 0 rfl rfl dX0_addCondition_42 ?_
    refine g_iconst (pc := 45) hG dX0_addCondition_45 ?_
    refine g_iadd (pc := 46) hG dX0_addCondition_46 ?_
    refine g_put (pc := 47) hG fp0_114 0 rfl rfl rfl (Nat.le_of_ble_eq_true rfl) (ws' := [broC0 cI cL cZ ad (o) (((cn + 1 : Nat) : Int)), l6C0 cI cL cZ ad (o + 10) (upZ fx cn a), l6C0 cI cL cZ ad (o + 11) (upZ rs cn b), z6C0 cI cL cZ ad (o + 12) (upB st cn s)]) rfl dX0_addCondition_47 ?_
    exact g_lv (pc := 50) hG [0, 1, 2, 3] rfl (J50 (cn + 1) (upZ fx cn a) (upZ rs cn b) (upB st cn s) (Or.inr (⟨h6, rfl, rfl, rfl, rfl⟩)))
set_option maxHeartbeats 4000000 in
set_option maxRecDepth 100000 in
theorem c_X0_holdBack {l : Launch} {D : va_G} {cI cL cZ cX cG : ClassId} (ad : Nat → Nat) (o : Nat) (o2 : Nat) (cn : Nat) (fx : Nat → Int) (rs : Nat → Int) (st : Nat → Bool) (S : Nat → Int) (ts : Int) (r : Nat) (bs : Nat → Int) (sl : Nat → Int) (P : Nat → Int) (R : Nat → Int) (ts9 : Int) (rk9 : Int) (c : Nat) (hc : cn < 5) (hr : r ≤ 3) (hc3 : c < 3) : Ct l D (gT cI cL cZ cX cG) yX0_holdBack cX0_holdBack 9 none ({ frames := 1, cells := 0, slots := 0, locals := 28 }) [.ref (ad (o)), .ref (ad (o2)), iV (((c : Nat) : Int))] ([broC0 cI cL cZ ad (o) (((cn : Nat) : Int)), l6C0 cI cL cZ ad (o + 10) (fx), l6C0 cI cL cZ ad (o + 11) (rs), z6C0 cI cL cZ ad (o + 12) (st), sqoC0 cI cL cZ ad (o + 1) (ts) (((r : Nat) : Int)), l4C0 cI cL cZ ad (o + 5) (S), l3C0 cI cL cZ ad (o + 8) (bs), l3C0 cI cL cZ ad (o + 9) (sl), sqoC0 cI cL cZ ad (o2) (ts9) (rk9), l9C0 cI cL cZ ad (o2 + 1) (P), l3C0 cI cL cZ ad (o2 + 2) (R)]) (fun vv_ ww_ => ∃ (dr : Int), ∃ (mo : Int), (dr = 2 * R c * S r - rp P c (bs 0) (bs 1) (bs 2)) ∧ (mo = rp P c (sl 0) (sl 1) (sl 2)) ∧ vv_ = none ∧ ww_ = [broC0 cI cL cZ ad (o) (((cn + 2 : Nat) : Int)), l6C0 cI cL cZ ad (o + 10) (upZ (upZ fx cn (-dr)) (cn + 1) dr), l6C0 cI cL cZ ad (o + 11) (upZ (upZ rs cn (S r - mo)) (cn + 1) (S r + mo)), z6C0 cI cL cZ ad (o + 12) (upB (upB st cn false) (cn + 1) false), sqoC0 cI cL cZ ad (o + 1) (ts) (((r : Nat) : Int)), l4C0 cI cL cZ ad (o + 5) (S), l3C0 cI cL cZ ad (o + 8) (bs), l3C0 cI cL cZ ad (o + 9) (sl), sqoC0 cI cL cZ ad (o2) (ts9) (rk9), l9C0 cI cL cZ ad (o2 + 1) (P), l3C0 cI cL cZ ad (o2 + 2) (R)]) := by
  refine Ct.of (by decide) (Nat.le_of_ble_eq_true rfl) (fun G hG => ?_)
  show G 0 [(0, .ref (ad (o))), (1, .ref (ad (o2))), (2, iV (((c : Nat) : Int)))] [] ([broC0 cI cL cZ ad (o) (((cn : Nat) : Int)), l6C0 cI cL cZ ad (o + 10) (fx), l6C0 cI cL cZ ad (o + 11) (rs), z6C0 cI cL cZ ad (o + 12) (st), sqoC0 cI cL cZ ad (o + 1) (ts) (((r : Nat) : Int)), l4C0 cI cL cZ ad (o + 5) (S), l3C0 cI cL cZ ad (o + 8) (bs), l3C0 cI cL cZ ad (o + 9) (sl), sqoC0 cI cL cZ ad (o2) (ts9) (rk9), l9C0 cI cL cZ ad (o2 + 1) (P), l3C0 cI cL cZ ad (o2 + 2) (R)])
  refine g_aload_n (pc := 0) hG 0 rfl dX0_holdBack_0 ?_
  refine g_get (pc := 1) hG fl0_12 0 rfl rfl dX0_holdBack_1 ?_
  refine g_callV (pc := 4) hG (As := []) (rest := []) (c_X8_bottom (l := l) (D := D) (cI := cI) (cL := cL) (cZ := cZ) (cX := cX) (cG := cG) ad (o + 1) S ts r (by omega)) (Sp.sel [4, 5] rfl (by decide)) cv0_55 ⟨rfl, rfl⟩ ⟨Nat.le_of_ble_eq_true rfl, Nat.le_of_ble_eq_true rfl⟩ 4 rfl rfl rfl rfl (Nat.le_of_ble_eq_true rfl) dX0_holdBack_4 (fun v w1 h => ?_)
  obtain ⟨rfl, rfl⟩ := h
  show G 7 [(0, .ref (ad (o))), (1, .ref (ad (o2))), (2, iV (((c : Nat) : Int)))] [lV (S r)] ([broC0 cI cL cZ ad (o) (((cn : Nat) : Int)), l6C0 cI cL cZ ad (o + 10) (fx), l6C0 cI cL cZ ad (o + 11) (rs), z6C0 cI cL cZ ad (o + 12) (st), sqoC0 cI cL cZ ad (o + 1) (ts) (((r : Nat) : Int)), l4C0 cI cL cZ ad (o + 5) (S), l3C0 cI cL cZ ad (o + 8) (bs), l3C0 cI cL cZ ad (o + 9) (sl), sqoC0 cI cL cZ ad (o2) (ts9) (rk9), l9C0 cI cL cZ ad (o2 + 1) (P), l3C0 cI cL cZ ad (o2 + 2) (R)])
  refine g_lstore_n (pc := 7) hG (by decide) (lv' := [(3, lV (S r)), (0, .ref (ad (o))), (1, .ref (ad (o2))), (2, iV (((c : Nat) : Int)))]) rfl dX0_holdBack_7 ?_
  refine g_ldc2 (z := 2) (pc := 8) hG (v := 2) (inB wd_662 rfl) (by decide) dX0_holdBack_8 ?_
  refine g_aload_n (pc := 11) hG 2 rfl dX0_holdBack_11 ?_
  refine g_get (pc := 12) hG fl0_91 8 rfl rfl dX0_holdBack_12 ?_
  refine g_iload_n (pc := 15) hG 3 rfl dX0_holdBack_15 ?_
  refine g_laload (pc := 16) hG 10 c rfl rfl (by omega) (by omega) (by decide) dX0_holdBack_16 ?_
  refine g_lmul (pc := 17) hG dX0_holdBack_17 ?_
  refine g_lload_n (pc := 18) hG 0 rfl dX0_holdBack_18 ?_
  refine g_lmul (pc := 19) hG dX0_holdBack_19 ?_
  refine g_aload_n (pc := 20) hG 2 rfl dX0_holdBack_20 ?_
  refine g_iload_n (pc := 21) hG 3 rfl dX0_holdBack_21 ?_
  refine g_aload_n (pc := 22) hG 1 rfl dX0_holdBack_22 ?_
  refine g_get (pc := 23) hG fl0_25 0 rfl rfl dX0_holdBack_23 ?_
  refine g_iconst (pc := 26) hG dX0_holdBack_26 ?_
  refine g_laload (pc := 27) hG 6 0 rfl rfl (by omega) (by omega) (by decide) dX0_holdBack_27 ?_
  refine g_aload_n (pc := 28) hG 1 rfl dX0_holdBack_28 ?_
  refine g_get (pc := 29) hG fl0_25 0 rfl rfl dX0_holdBack_29 ?_
  refine g_iconst (pc := 32) hG dX0_holdBack_32 ?_
  refine g_laload (pc := 33) hG 6 1 rfl rfl (by omega) (by omega) (by decide) dX0_holdBack_33 ?_
  refine g_aload_n (pc := 34) hG 1 rfl dX0_holdBack_34 ?_
  refine g_get (pc := 35) hG fl0_25 0 rfl rfl dX0_holdBack_35 ?_
  refine g_iconst (pc := 38) hG dX0_holdBack_38 ?_
  refine g_laload (pc := 39) hG 6 2 rfl rfl (by omega) (by omega) (by decide) dX0_holdBack_39 ?_
  refine g_callV (pc := 40) hG (As := [iV (((c : Nat) : Int)), lV (bs 0), lV (bs 1), lV (bs 2)]) (rest := [lV ((2 * (R c)) * (S r))]) (c_X8_rowProduct (l := l) (D := D) (cI := cI) (cL := cL) (cZ := cZ) (cX := cX) (cG := cG) ad o2 P ts9 rk9 c (bs 0) (bs 1) (bs 2) (by omega)) (Sp.sel [8, 9] rfl (by decide)) cv0_124 ⟨rfl, rfl⟩ ⟨Nat.le_of_ble_eq_true rfl, Nat.le_of_ble_eq_true rfl⟩ 8 rfl rfl rfl rfl (Nat.le_of_ble_eq_true rfl) dX0_holdBack_40 (fun v w1 h => ?_)
  obtain ⟨rfl, rfl⟩ := h
  show G 43 [(3, lV (S r)), (0, .ref (ad (o))), (1, .ref (ad (o2))), (2, iV (((c : Nat) : Int)))] [lV (rp P c (bs 0) (bs 1) (bs 2)), lV ((2 * (R c)) * (S r))] ([broC0 cI cL cZ ad (o) (((cn : Nat) : Int)), l6C0 cI cL cZ ad (o + 10) (fx), l6C0 cI cL cZ ad (o + 11) (rs), z6C0 cI cL cZ ad (o + 12) (st), sqoC0 cI cL cZ ad (o + 1) (ts) (((r : Nat) : Int)), l4C0 cI cL cZ ad (o + 5) (S), l3C0 cI cL cZ ad (o + 8) (bs), l3C0 cI cL cZ ad (o + 9) (sl), sqoC0 cI cL cZ ad (o2) (ts9) (rk9), l9C0 cI cL cZ ad (o2 + 1) (P), l3C0 cI cL cZ ad (o2 + 2) (R)])
  refine g_lsub (pc := 43) hG dX0_holdBack_43 ?_
  refine g_nmL (pc := 44) hG (fun x44 ex44 => ?_)
  refine g_lstore (pc := 44) hG (by decide) (lv' := [(5, lV (x44)), (3, lV (S r)), (0, .ref (ad (o))), (1, .ref (ad (o2))), (2, iV (((c : Nat) : Int)))]) rfl dX0_holdBack_44 ?_
  refine g_aload_n (pc := 46) hG 3 rfl dX0_holdBack_46 ?_
  refine g_iload_n (pc := 47) hG 4 rfl dX0_holdBack_47 ?_
  refine g_aload_n (pc := 48) hG 2 rfl dX0_holdBack_48 ?_
  refine g_get (pc := 49) hG fl0_28 0 rfl rfl dX0_holdBack_49 ?_
  refine g_iconst (pc := 52) hG dX0_holdBack_52 ?_
  refine g_laload (pc := 53) hG 7 0 rfl rfl (by omega) (by omega) (by decide) dX0_holdBack_53 ?_
  refine g_aload_n (pc := 54) hG 2 rfl dX0_holdBack_54 ?_
  refine g_get (pc := 55) hG fl0_28 0 rfl rfl dX0_holdBack_55 ?_
  refine g_iconst (pc := 58) hG dX0_holdBack_58 ?_
  refine g_laload (pc := 59) hG 7 1 rfl rfl (by omega) (by omega) (by decide) dX0_holdBack_59 ?_
  refine g_aload_n (pc := 60) hG 2 rfl dX0_holdBack_60 ?_
  refine g_get (pc := 61) hG fl0_28 0 rfl rfl dX0_holdBack_61 ?_
  refine g_iconst (pc := 64) hG dX0_holdBack_64 ?_
  refine g_laload (pc := 65) hG 7 2 rfl rfl (by omega) (by omega) (by decide) dX0_holdBack_65 ?_
  refine g_callV (pc := 66) hG (As := [iV (((c : Nat) : Int)), lV (sl 0), lV (sl 1), lV (sl 2)]) (rest := []) (c_X8_rowProduct (l := l) (D := D) (cI := cI) (cL := cL) (cZ := cZ) (cX := cX) (cG := cG) ad o2 P ts9 rk9 c (sl 0) (sl 1) (sl 2) (by omega)) (Sp.sel [8, 9] rfl (by decide)) cv0_124 ⟨rfl, rfl⟩ ⟨Nat.le_of_ble_eq_true rfl, Nat.le_of_ble_eq_true rfl⟩ 8 rfl rfl rfl rfl (Nat.le_of_ble_eq_true rfl) dX0_holdBack_66 (fun v w1 h => ?_)
  obtain ⟨rfl, rfl⟩ := h
  show G 69 [(5, lV (x44)), (3, lV (S r)), (0, .ref (ad (o))), (1, .ref (ad (o2))), (2, iV (((c : Nat) : Int)))] [lV (rp P c (sl 0) (sl 1) (sl 2))] ([broC0 cI cL cZ ad (o) (((cn : Nat) : Int)), l6C0 cI cL cZ ad (o + 10) (fx), l6C0 cI cL cZ ad (o + 11) (rs), z6C0 cI cL cZ ad (o + 12) (st), sqoC0 cI cL cZ ad (o + 1) (ts) (((r : Nat) : Int)), l4C0 cI cL cZ ad (o + 5) (S), l3C0 cI cL cZ ad (o + 8) (bs), l3C0 cI cL cZ ad (o + 9) (sl), sqoC0 cI cL cZ ad (o2) (ts9) (rk9), l9C0 cI cL cZ ad (o2 + 1) (P), l3C0 cI cL cZ ad (o2 + 2) (R)])
  refine g_nmL (pc := 69) hG (fun x69 ex69 => ?_)
  refine g_lstore (pc := 69) hG (by decide) (lv' := [(7, lV (x69)), (5, lV (x44)), (3, lV (S r)), (0, .ref (ad (o))), (1, .ref (ad (o2))), (2, iV (((c : Nat) : Int)))]) rfl dX0_holdBack_69 ?_
  refine g_aload_n (pc := 71) hG 3 rfl dX0_holdBack_71 ?_
  refine g_lload (pc := 72) hG 1 rfl dX0_holdBack_72 ?_
  refine g_lneg (pc := 74) hG dX0_holdBack_74 ?_
  refine g_lload_n (pc := 75) hG 2 rfl dX0_holdBack_75 ?_
  refine g_lload (pc := 76) hG 0 rfl dX0_holdBack_76 ?_
  refine g_lsub (pc := 78) hG dX0_holdBack_78 ?_
  refine g_iconst (pc := 79) hG dX0_holdBack_79 ?_
  refine g_callV (pc := 80) hG (As := [lV (-x44), lV ((S r) - x69), iV (0)]) (rest := []) (c_X0_addCondition (l := l) (D := D) (cI := cI) (cL := cL) (cZ := cZ) (cX := cX) (cG := cG) ad o cn fx rs st (-x44) ((S r) - x69) false (by omega)) (Sp.sel [0, 1, 2, 3] rfl (by decide)) cv0_120 ⟨rfl, rfl⟩ ⟨Nat.le_of_ble_eq_true rfl, Nat.le_of_ble_eq_true rfl⟩ 0 rfl rfl rfl rfl (Nat.le_of_ble_eq_true rfl) dX0_holdBack_80 (fun v w1 h => ?_)
  obtain ⟨rfl, rfl⟩ := h
  show G 83 [(7, lV (x69)), (5, lV (x44)), (3, lV (S r)), (0, .ref (ad (o))), (1, .ref (ad (o2))), (2, iV (((c : Nat) : Int)))] [] ([broC0 cI cL cZ ad (o) (((cn + 1 : Nat) : Int)), l6C0 cI cL cZ ad (o + 10) (upZ fx cn (-x44)), l6C0 cI cL cZ ad (o + 11) (upZ rs cn ((S r) - x69)), z6C0 cI cL cZ ad (o + 12) (upB st cn false), sqoC0 cI cL cZ ad (o + 1) (ts) (((r : Nat) : Int)), l4C0 cI cL cZ ad (o + 5) (S), l3C0 cI cL cZ ad (o + 8) (bs), l3C0 cI cL cZ ad (o + 9) (sl), sqoC0 cI cL cZ ad (o2) (ts9) (rk9), l9C0 cI cL cZ ad (o2 + 1) (P), l3C0 cI cL cZ ad (o2 + 2) (R)])
  refine g_aload_n (pc := 83) hG 3 rfl dX0_holdBack_83 ?_
  refine g_lload (pc := 84) hG 1 rfl dX0_holdBack_84 ?_
  refine g_lload_n (pc := 86) hG 2 rfl dX0_holdBack_86 ?_
  refine g_lload (pc := 87) hG 0 rfl dX0_holdBack_87 ?_
  refine g_ladd (pc := 89) hG dX0_holdBack_89 ?_
  refine g_iconst (pc := 90) hG dX0_holdBack_90 ?_
  refine g_callV (pc := 91) hG (As := [lV (x44), lV ((S r) + x69), iV (0)]) (rest := []) (c_X0_addCondition (l := l) (D := D) (cI := cI) (cL := cL) (cZ := cZ) (cX := cX) (cG := cG) ad o (cn + 1) (upZ fx cn (-x44)) (upZ rs cn ((S r) - x69)) (upB st cn false) x44 ((S r) + x69) false (by omega)) (Sp.sel [0, 1, 2, 3] rfl (by decide)) cv0_120 ⟨rfl, rfl⟩ ⟨Nat.le_of_ble_eq_true rfl, Nat.le_of_ble_eq_true rfl⟩ 0 rfl rfl rfl rfl (Nat.le_of_ble_eq_true rfl) dX0_holdBack_91 (fun v w1 h => ?_)
  obtain ⟨rfl, rfl⟩ := h
  show G 94 [(7, lV (x69)), (5, lV (x44)), (3, lV (S r)), (0, .ref (ad (o))), (1, .ref (ad (o2))), (2, iV (((c : Nat) : Int)))] [] ([broC0 cI cL cZ ad (o) ((((cn + 1) + 1 : Nat) : Int)), l6C0 cI cL cZ ad (o + 10) (upZ (upZ fx cn (-x44)) (cn + 1) x44), l6C0 cI cL cZ ad (o + 11) (upZ (upZ rs cn ((S r) - x69)) (cn + 1) ((S r) + x69)), z6C0 cI cL cZ ad (o + 12) (upB (upB st cn false) (cn + 1) false), sqoC0 cI cL cZ ad (o + 1) (ts) (((r : Nat) : Int)), l4C0 cI cL cZ ad (o + 5) (S), l3C0 cI cL cZ ad (o + 8) (bs), l3C0 cI cL cZ ad (o + 9) (sl), sqoC0 cI cL cZ ad (o2) (ts9) (rk9), l9C0 cI cL cZ ad (o2 + 1) (P), l3C0 cI cL cZ ad (o2 + 2) (R)])
  exact g_return (pc := 94) hG ⟨x44, x69, ex44, ex69, rfl, rfl⟩ dX0_holdBack_94
set_option maxHeartbeats 4000000 in
set_option maxRecDepth 100000 in
theorem c_X0_holdsAt {l : Launch} {D : va_G} {cI cL cZ cX cG : ClassId} (ad : Nat → Nat) (o : Nat) (cn : Nat) (fx : Nat → Int) (rs : Nat → Int) (st : Nat → Bool) (bar : Nat) (hc : cn ≤ 6) (hb : bar ≤ 50000) (hf : ∀ q, q < cn → InL (fx q + rs q * bar)) : Ct l D (gT cI cL cZ cX cG) yX0_holdsAt cX0_holdsAt 5 (some .boolean) ({ frames := 0, cells := 0, slots := 0, locals := 0 }) [.ref (ad (o)), iV (((bar : Nat) : Int))] ([broC0 cI cL cZ ad (o) (((cn : Nat) : Int)), l6C0 cI cL cZ ad (o + 10) (fx), l6C0 cI cL cZ ad (o + 11) (rs), z6C0 cI cL cZ ad (o + 12) (st)]) (fun vv_ ww_ => ∃ (v : Bool), (v = true ↔ ∀ q, q < cn → OKc (fx q + rs q * (bar : Int)) (st q)) ∧ vv_ = some (bV (v)) ∧ ww_ = [broC0 cI cL cZ ad (o) (((cn : Nat) : Int)), l6C0 cI cL cZ ad (o + 10) (fx), l6C0 cI cL cZ ad (o + 11) (rs), z6C0 cI cL cZ ad (o + 12) (st)]) := by
  refine Ct.of (by decide) (Nat.le_of_ble_eq_true rfl) (fun G hG => ?_)
  show G 0 [(0, .ref (ad (o))), (1, iV (((bar : Nat) : Int)))] [] ([broC0 cI cL cZ ad (o) (((cn : Nat) : Int)), l6C0 cI cL cZ ad (o + 10) (fx), l6C0 cI cL cZ ad (o + 11) (rs), z6C0 cI cL cZ ad (o + 12) (st)])
  refine g_iconst (pc := 0) hG dX0_holdsAt_0 ?_
  refine g_istore_n (pc := 1) hG (by decide) (lv' := [(2, iV (0)), (0, .ref (ad (o))), (1, iV (((bar : Nat) : Int)))]) rfl dX0_holdsAt_1 ?_
  have L2 : ∀ (fu2 : Nat) (q : Nat), cn - q < fu2 → (q ≤ cn) → (∀ i, i < q → OKc (fx i + rs i * (bar : Int)) (st i)) → G 2 [(0, .ref (ad (o))), (1, iV (((bar : Nat) : Int))), (2, iV (((q : Nat) : Int)))] [] ([broC0 cI cL cZ ad (o) (((cn : Nat) : Int)), l6C0 cI cL cZ ad (o + 10) (fx), l6C0 cI cL cZ ad (o + 11) (rs), z6C0 cI cL cZ ad (o + 12) (st)]) := by
    intro fu2
    induction fu2 with
    | zero => intro q hm; exact absurd hm (Nat.not_lt_zero _)
    | succ fu2 ih2 =>
      intro q hm2 hq hp
      refine g_iload_n (pc := 2) hG 2 rfl dX0_holdsAt_2 ?_
      refine g_aload_n (pc := 3) hG 0 rfl dX0_holdsAt_3 ?_
      refine g_get (pc := 4) hG fl0_114 0 rfl rfl dX0_holdsAt_4 ?_
      refine g_icmp_ge (pc := 7) hG (by omega) (by omega) (tgt := 56) (by decide) dX0_holdsAt_7 (fun h7 => ?_) (fun h7 => ?_)
      · refine g_iconst (pc := 56) hG dX0_holdsAt_56 ?_
        exact g_zreturn (pc := 57) hG (true) rfl ⟨true, ⟨fun _ i h => hp i (by omega), fun _ => rfl⟩, rfl, rfl⟩ dX0_holdsAt_57
      · refine g_aload_n (pc := 10) hG 0 rfl dX0_holdsAt_10 ?_
        refine g_get (pc := 11) hG fl0_31 0 rfl rfl dX0_holdsAt_11 ?_
        refine g_iload_n (pc := 14) hG 2 rfl dX0_holdsAt_14 ?_
        refine g_laload (pc := 15) hG 1 q rfl rfl (by omega) (by omega) (by decide) dX0_holdsAt_15 ?_
        refine g_aload_n (pc := 16) hG 0 rfl dX0_holdsAt_16 ?_
        refine g_get (pc := 17) hG fl0_34 0 rfl rfl dX0_holdsAt_17 ?_
        refine g_iload_n (pc := 20) hG 2 rfl dX0_holdsAt_20 ?_
        refine g_laload (pc := 21) hG 2 q rfl rfl (by omega) (by omega) (by decide) dX0_holdsAt_21 ?_
        refine g_iload_n (pc := 22) hG 1 rfl dX0_holdsAt_22 ?_
        refine g_i2l (pc := 23) hG (by omega) dX0_holdsAt_23 ?_
        refine g_lmul (pc := 24) hG dX0_holdsAt_24 ?_
        refine g_ladd (pc := 25) hG dX0_holdsAt_25 ?_
        refine g_nmL (pc := 26) hG (fun x26 ex26 => ?_)
        refine g_lstore_n (pc := 26) hG (by decide) (lv' := [(3, lV (x26)), (0, .ref (ad (o))), (1, iV (((bar : Nat) : Int))), (2, iV (((q : Nat) : Int)))]) rfl dX0_holdsAt_26 ?_
        refine g_lload_n (pc := 27) hG 0 rfl dX0_holdsAt_27 ?_
        refine g_lconst (z := 0) (pc := 28) hG dX0_holdsAt_28 (by decide) ?_
        have hf9 := hf q (by omega)
        rw [← ex26] at hf9
        have J48 : ∀ (_ : Unit), (((x26 < 0)) ∨ ((¬ x26 < 0) ∧ (x26 = 0) ∧ ((st q) = true))) → G 48 [(0, .ref (ad (o))), (1, iV (((bar : Nat) : Int))), (2, iV (((q : Nat) : Int))), (3, lV (x26))] [] ([broC0 cI cL cZ ad (o) (((cn : Nat) : Int)), l6C0 cI cL cZ ad (o + 10) (fx), l6C0 cI cL cZ ad (o + 11) (rs), z6C0 cI cL cZ ad (o + 12) (st)]) := by
          intro _ k48
          refine g_iconst (pc := 48) hG dX0_holdsAt_48 ?_
          exact g_zreturn (pc := 49) hG (false) rfl ⟨false, ⟨fun h => (by cases h), fun h => absurd (h q (by omega)) (by rw [← ex26]; exact okc_no k48)⟩, rfl, rfl⟩ dX0_holdsAt_49
        refine g_lc_lt (pc := 29) hG (by omega) (by omega) (tgt := 48) (by decide) dX0_holdsAt_29 dX0_holdsAt_30 (fun h29 => ?_) (fun h29 => ?_)
        · exact g_lv (pc := 48) hG [1, 2, 3, 0] rfl (J48 () (Or.inl (h29)))
        · refine g_lload_n (pc := 33) hG 0 rfl dX0_holdsAt_33 ?_
          refine g_lconst (z := 0) (pc := 34) hG dX0_holdsAt_34 (by decide) ?_
          have J50 : ∀ (_ : Unit), (((¬ x26 = 0)) ∨ ((x26 = 0) ∧ ((st q) = false))) → G 50 [(0, .ref (ad (o))), (1, iV (((bar : Nat) : Int))), (2, iV (((q : Nat) : Int))), (3, lV (x26))] [] ([broC0 cI cL cZ ad (o) (((cn : Nat) : Int)), l6C0 cI cL cZ ad (o + 10) (fx), l6C0 cI cL cZ ad (o + 11) (rs), z6C0 cI cL cZ ad (o + 12) (st)]) := by
            intro _ k50
            refine g_iinc (pc := 50) hG 2 rfl (by decide) (lv' := [(2, iV ((((q : Nat) : Int)) + 1)), (0, .ref (ad (o))), (1, iV (((bar : Nat) : Int))), (3, lV (x26))]) rfl dX0_holdsAt_50 ?_
            refine g_goto (pc := 53) hG (tgt := 2) (by decide) dX0_holdsAt_53 ?_
            exact g_lv (pc := 2) hG [1, 2, 0] rfl (ih2 (q + 1) (by omega) (by omega) (okc_step hp (by rw [← ex26]; exact okc_of2 h29 k50)))
          refine g_lc_ne (pc := 35) hG (by omega) (by omega) (tgt := 50) (by decide) dX0_holdsAt_35 dX0_holdsAt_36 (fun h35 => ?_) (fun h35 => ?_)
          · exact g_lv (pc := 50) hG [1, 2, 3, 0] rfl (J50 () (Or.inl (h35)))
          · refine g_aload_n (pc := 39) hG 1 rfl dX0_holdsAt_39 ?_
            refine g_get (pc := 40) hG fl0_37 0 rfl rfl dX0_holdsAt_40 ?_
            refine g_iload_n (pc := 43) hG 3 rfl dX0_holdsAt_43 ?_
            refine g_baload (pc := 44) hG 3 q rfl rfl (by omega) (by omega) (by decide) dX0_holdsAt_44 ?_
            refine g_ifb_eq (pc := 45) hG (tgt := 50) (by decide) dX0_holdsAt_45 (fun h45 => ?_) (fun h45 => ?_)
            · exact g_lv (pc := 50) hG [1, 2, 3, 0] rfl (J50 () (Or.inr (⟨h35, h45⟩)))
            · exact g_lv (pc := 48) hG [1, 2, 3, 0] rfl (J48 () (Or.inr (⟨h29, h35, h45⟩)))
  exact g_lv (pc := 2) hG [1, 2, 0] rfl (L2 _ 0 (Nat.lt_succ_self _) (by omega) (fun i h => absurd h (Nat.not_lt_zero _)))
set_option maxHeartbeats 4000000 in
set_option maxRecDepth 100000 in
theorem c_X0_weightTop {l : Launch} {D : va_G} {cI cL cZ cX cG : ClassId} (ad : Nat → Nat) (o : Nat) (cn : Int) (bs : Nat → Int) (sl : Nat → Int) (c : Nat) (bar : Nat) (hc : c < 3) (hb : bar ≤ 50000) : Ct l D (gT cI cL cZ cX cG) yX0_weightTop cX0_weightTop 3 (some .long) ({ frames := 0, cells := 0, slots := 0, locals := 0 }) [.ref (ad (o)), iV (((c : Nat) : Int)), iV (((bar : Nat) : Int))] ([broC0 cI cL cZ ad (o) (cn), l3C0 cI cL cZ ad (o + 8) (bs), l3C0 cI cL cZ ad (o + 9) (sl)]) (fun vv_ ww_ => vv_ = some (lV (bs c - sl c * ((bar : Nat) : Int))) ∧ ww_ = [broC0 cI cL cZ ad (o) (cn), l3C0 cI cL cZ ad (o + 8) (bs), l3C0 cI cL cZ ad (o + 9) (sl)]) := by
  refine Ct.of (by decide) (Nat.le_of_ble_eq_true rfl) (fun G hG => ?_)
  show G 0 [(0, .ref (ad (o))), (1, iV (((c : Nat) : Int))), (2, iV (((bar : Nat) : Int)))] [] ([broC0 cI cL cZ ad (o) (cn), l3C0 cI cL cZ ad (o + 8) (bs), l3C0 cI cL cZ ad (o + 9) (sl)])
  refine g_aload_n (pc := 0) hG 0 rfl dX0_weightTop_0 ?_
  refine g_get (pc := 1) hG fl0_25 0 rfl rfl dX0_weightTop_1 ?_
  refine g_iload_n (pc := 4) hG 1 rfl dX0_weightTop_4 ?_
  refine g_laload (pc := 5) hG 1 c rfl rfl (by omega) (by omega) (by decide) dX0_weightTop_5 ?_
  refine g_aload_n (pc := 6) hG 0 rfl dX0_weightTop_6 ?_
  refine g_get (pc := 7) hG fl0_28 0 rfl rfl dX0_weightTop_7 ?_
  refine g_iload_n (pc := 10) hG 1 rfl dX0_weightTop_10 ?_
  refine g_laload (pc := 11) hG 2 c rfl rfl (by omega) (by omega) (by decide) dX0_weightTop_11 ?_
  refine g_iload_n (pc := 12) hG 2 rfl dX0_weightTop_12 ?_
  refine g_i2l (pc := 13) hG (by omega) dX0_weightTop_13 ?_
  refine g_lmul (pc := 14) hG dX0_weightTop_14 ?_
  refine g_lsub (pc := 15) hG dX0_weightTop_15 ?_
  exact g_lreturn (pc := 16) hG ⟨rfl, rfl⟩ dX0_weightTop_16
set_option maxHeartbeats 4000000 in
set_option maxRecDepth 100000 in
theorem c_X0_weightBottom {l : Launch} {D : va_G} {cI cL cZ cX cG : ClassId} (ad : Nat → Nat) (o : Nat) (cn : Int) (S : Nat → Int) (ts : Int) (r : Nat) (hr : r ≤ 3) : Ct l D (gT cI cL cZ cX cG) yX0_weightBottom cX0_weightBottom 1 (some .long) ({ frames := 1, cells := 0, slots := 0, locals := 20 }) [.ref (ad (o))] ([broC0 cI cL cZ ad (o) (cn), sqoC0 cI cL cZ ad (o + 1) (ts) (((r : Nat) : Int)), l4C0 cI cL cZ ad (o + 5) (S)]) (fun vv_ ww_ => vv_ = some (lV (2 * S r)) ∧ ww_ = [broC0 cI cL cZ ad (o) (cn), sqoC0 cI cL cZ ad (o + 1) (ts) (((r : Nat) : Int)), l4C0 cI cL cZ ad (o + 5) (S)]) := by
  refine Ct.of (by decide) (Nat.le_of_ble_eq_true rfl) (fun G hG => ?_)
  show G 0 [(0, .ref (ad (o)))] [] ([broC0 cI cL cZ ad (o) (cn), sqoC0 cI cL cZ ad (o + 1) (ts) (((r : Nat) : Int)), l4C0 cI cL cZ ad (o + 5) (S)])
  refine g_ldc2 (z := 2) (pc := 0) hG (v := 2) (inB wd_662 rfl) (by decide) dX0_weightBottom_0 ?_
  refine g_aload_n (pc := 3) hG 0 rfl dX0_weightBottom_3 ?_
  refine g_get (pc := 4) hG fl0_12 0 rfl rfl dX0_weightBottom_4 ?_
  refine g_callV (pc := 7) hG (As := []) (rest := [lV (2)]) (c_X8_bottom (l := l) (D := D) (cI := cI) (cL := cL) (cZ := cZ) (cX := cX) (cG := cG) ad (o + 1) S ts r (by omega)) (Sp.sel [1, 2] rfl (by decide)) cv0_55 ⟨rfl, rfl⟩ ⟨Nat.le_of_ble_eq_true rfl, Nat.le_of_ble_eq_true rfl⟩ 1 rfl rfl rfl rfl (Nat.le_of_ble_eq_true rfl) dX0_weightBottom_7 (fun v w1 h => ?_)
  obtain ⟨rfl, rfl⟩ := h
  show G 10 [(0, .ref (ad (o)))] [lV (S r), lV (2)] ([broC0 cI cL cZ ad (o) (cn), sqoC0 cI cL cZ ad (o + 1) (ts) (((r : Nat) : Int)), l4C0 cI cL cZ ad (o + 5) (S)])
  refine g_lmul (pc := 10) hG dX0_weightBottom_10 ?_
  exact g_lreturn (pc := 11) hG ⟨rfl, rfl⟩ dX0_weightBottom_11
set_option maxHeartbeats 4000000 in
set_option maxRecDepth 100000 in
theorem c_X0_costBottom {l : Launch} {D : va_G} {cI cL cZ cX cG : ClassId} (ad : Nat → Nat) (o : Nat) (cn : Int) (S : Nat → Int) (ts : Int) (r : Nat) (hr : r ≤ 3) : Ct l D (gT cI cL cZ cX cG) yX0_costBottom cX0_costBottom 1 (some .long) ({ frames := 1, cells := 0, slots := 0, locals := 20 }) [.ref (ad (o))] ([broC0 cI cL cZ ad (o) (cn), sqoC0 cI cL cZ ad (o + 1) (ts) (((r : Nat) : Int)), l4C0 cI cL cZ ad (o + 5) (S)]) (fun vv_ ww_ => vv_ = some (lV (4 * S r)) ∧ ww_ = [broC0 cI cL cZ ad (o) (cn), sqoC0 cI cL cZ ad (o + 1) (ts) (((r : Nat) : Int)), l4C0 cI cL cZ ad (o + 5) (S)]) := by
  refine Ct.of (by decide) (Nat.le_of_ble_eq_true rfl) (fun G hG => ?_)
  show G 0 [(0, .ref (ad (o)))] [] ([broC0 cI cL cZ ad (o) (cn), sqoC0 cI cL cZ ad (o + 1) (ts) (((r : Nat) : Int)), l4C0 cI cL cZ ad (o + 5) (S)])
  refine g_ldc2 (z := 4) (pc := 0) hG (v := 4) (inB wd_698 rfl) (by decide) dX0_costBottom_0 ?_
  refine g_aload_n (pc := 3) hG 0 rfl dX0_costBottom_3 ?_
  refine g_get (pc := 4) hG fl0_12 0 rfl rfl dX0_costBottom_4 ?_
  refine g_callV (pc := 7) hG (As := []) (rest := [lV (4)]) (c_X8_bottom (l := l) (D := D) (cI := cI) (cL := cL) (cZ := cZ) (cX := cX) (cG := cG) ad (o + 1) S ts r (by omega)) (Sp.sel [1, 2] rfl (by decide)) cv0_55 ⟨rfl, rfl⟩ ⟨Nat.le_of_ble_eq_true rfl, Nat.le_of_ble_eq_true rfl⟩ 1 rfl rfl rfl rfl (Nat.le_of_ble_eq_true rfl) dX0_costBottom_7 (fun v w1 h => ?_)
  obtain ⟨rfl, rfl⟩ := h
  show G 10 [(0, .ref (ad (o)))] [lV (S r), lV (4)] ([broC0 cI cL cZ ad (o) (cn), sqoC0 cI cL cZ ad (o + 1) (ts) (((r : Nat) : Int)), l4C0 cI cL cZ ad (o + 5) (S)])
  refine g_lmul (pc := 10) hG dX0_costBottom_10 ?_
  exact g_lreturn (pc := 11) hG ⟨rfl, rfl⟩ dX0_costBottom_11
set_option maxHeartbeats 4000000 in
set_option maxRecDepth 100000 in
theorem c_X0_costTop {l : Launch} {D : va_G} {cI cL cZ cX cG : ClassId} (ad : Nat → Nat) (o : Nat) (cn : Int) (S : Nat → Int) (ts : Int) (r : Nat) (sg : Nat → Int) (db : Nat → Int) (bs : Nat → Int) (sl : Nat → Int) (bar : Nat) (hr : r ≤ 3) (hb : bar ≤ 50000) : Ct l D (gT cI cL cZ cX cG) yX0_costTop cX0_costTop 5 (some .long) ({ frames := 1, cells := 0, slots := 0, locals := 22 }) [.ref (ad (o)), iV (((bar : Nat) : Int))] ([broC0 cI cL cZ ad (o) (cn), sqoC0 cI cL cZ ad (o + 1) (ts) (((r : Nat) : Int)), l4C0 cI cL cZ ad (o + 5) (S), l3C0 cI cL cZ ad (o + 6) (sg), l3C0 cI cL cZ ad (o + 7) (db), l3C0 cI cL cZ ad (o + 8) (bs), l3C0 cI cL cZ ad (o + 9) (sl)]) (fun vv_ ww_ => vv_ = some (lV (4 * S r * ts - csZ sg db bs sl bar 3)) ∧ ww_ = [broC0 cI cL cZ ad (o) (cn), sqoC0 cI cL cZ ad (o + 1) (ts) (((r : Nat) : Int)), l4C0 cI cL cZ ad (o + 5) (S), l3C0 cI cL cZ ad (o + 6) (sg), l3C0 cI cL cZ ad (o + 7) (db), l3C0 cI cL cZ ad (o + 8) (bs), l3C0 cI cL cZ ad (o + 9) (sl)]) := by
  refine Ct.of (by decide) (Nat.le_of_ble_eq_true rfl) (fun G hG => ?_)
  show G 0 [(0, .ref (ad (o))), (1, iV (((bar : Nat) : Int)))] [] ([broC0 cI cL cZ ad (o) (cn), sqoC0 cI cL cZ ad (o + 1) (ts) (((r : Nat) : Int)), l4C0 cI cL cZ ad (o + 5) (S), l3C0 cI cL cZ ad (o + 6) (sg), l3C0 cI cL cZ ad (o + 7) (db), l3C0 cI cL cZ ad (o + 8) (bs), l3C0 cI cL cZ ad (o + 9) (sl)])
  refine g_lconst (z := 0) (pc := 0) hG dX0_costTop_0 (by decide) ?_
  refine g_lstore_n (pc := 1) hG (by decide) (lv' := [(2, lV (0)), (0, .ref (ad (o))), (1, iV (((bar : Nat) : Int)))]) rfl dX0_costTop_1 ?_
  refine g_iconst (pc := 2) hG dX0_costTop_2 ?_
  refine g_istore (pc := 3) hG (by decide) (lv' := [(4, iV (0)), (2, lV (0)), (0, .ref (ad (o))), (1, iV (((bar : Nat) : Int)))]) rfl dX0_costTop_3 ?_
  have L5 : ∀ (fu5 : Nat) (c : Nat) (q : Int), 3 - c < fu5 → (c ≤ 3) → (q = csZ sg db bs sl bar c) → G 5 [(0, .ref (ad (o))), (1, iV (((bar : Nat) : Int))), (2, lV (q)), (4, iV (((c : Nat) : Int)))] [] ([broC0 cI cL cZ ad (o) (cn), sqoC0 cI cL cZ ad (o + 1) (ts) (((r : Nat) : Int)), l4C0 cI cL cZ ad (o + 5) (S), l3C0 cI cL cZ ad (o + 6) (sg), l3C0 cI cL cZ ad (o + 7) (db), l3C0 cI cL cZ ad (o + 8) (bs), l3C0 cI cL cZ ad (o + 9) (sl)]) := by
    intro fu5
    induction fu5 with
    | zero => intro c q hm; exact absurd hm (Nat.not_lt_zero _)
    | succ fu5 ih5 =>
      intro c q hm5 hc hq
      refine g_iload (pc := 5) hG 3 rfl dX0_costTop_5 ?_
      refine g_iconst (pc := 7) hG dX0_costTop_7 ?_
      refine g_icmp_ge (pc := 8) hG (by omega) (by omega) (tgt := 46) (by decide) dX0_costTop_8 (fun h8 => ?_) (fun h8 => ?_)
      · refine g_ldc2 (z := 4) (pc := 46) hG (v := 4) (inB wd_698 rfl) (by decide) dX0_costTop_46 ?_
        refine g_aload_n (pc := 49) hG 0 rfl dX0_costTop_49 ?_
        refine g_get (pc := 50) hG fl0_12 0 rfl rfl dX0_costTop_50 ?_
        refine g_callV (pc := 53) hG (As := []) (rest := [lV (4)]) (c_X8_bottom (l := l) (D := D) (cI := cI) (cL := cL) (cZ := cZ) (cX := cX) (cG := cG) ad (o + 1) S ts r (by omega)) (Sp.sel [1, 2] rfl (by decide)) cv0_55 ⟨rfl, rfl⟩ ⟨Nat.le_of_ble_eq_true rfl, Nat.le_of_ble_eq_true rfl⟩ 1 rfl rfl rfl rfl (Nat.le_of_ble_eq_true rfl) dX0_costTop_53 (fun v w1 h => ?_)
        obtain ⟨rfl, rfl⟩ := h
        show G 56 [(0, .ref (ad (o))), (1, iV (((bar : Nat) : Int))), (2, lV (q)), (4, iV (((c : Nat) : Int)))] [lV (S r), lV (4)] ([broC0 cI cL cZ ad (o) (cn), sqoC0 cI cL cZ ad (o + 1) (ts) (((r : Nat) : Int)), l4C0 cI cL cZ ad (o + 5) (S), l3C0 cI cL cZ ad (o + 6) (sg), l3C0 cI cL cZ ad (o + 7) (db), l3C0 cI cL cZ ad (o + 8) (bs), l3C0 cI cL cZ ad (o + 9) (sl)])
        refine g_lmul (pc := 56) hG dX0_costTop_56 ?_
        refine g_aload_n (pc := 57) hG 0 rfl dX0_costTop_57 ?_
        refine g_get (pc := 58) hG fl0_12 0 rfl rfl dX0_costTop_58 ?_
        refine g_get (pc := 61) hG fl0_65 1 rfl rfl dX0_costTop_61 ?_
        refine g_lmul (pc := 64) hG dX0_costTop_64 ?_
        refine g_lload_n (pc := 65) hG 2 rfl dX0_costTop_65 ?_
        refine g_lsub (pc := 66) hG dX0_costTop_66 ?_
        exact g_lreturn (pc := 67) hG ⟨sL (by rw [hq, show c = 3 by omega]), rfl⟩ dX0_costTop_67
      · refine g_lload_n (pc := 11) hG 2 rfl dX0_costTop_11 ?_
        refine g_aload_n (pc := 12) hG 0 rfl dX0_costTop_12 ?_
        refine g_iload (pc := 13) hG 3 rfl dX0_costTop_13 ?_
        refine g_iload_n (pc := 15) hG 1 rfl dX0_costTop_15 ?_
        refine g_callV (pc := 16) hG (As := [iV (((c : Nat) : Int)), iV (((bar : Nat) : Int))]) (rest := [lV (q)]) (c_X0_weightTop (l := l) (D := D) (cI := cI) (cL := cL) (cZ := cZ) (cX := cX) (cG := cG) ad o cn bs sl c bar (by omega) (by omega)) (Sp.sel [0, 5, 6] rfl (by decide)) cv0_59 ⟨rfl, rfl⟩ ⟨Nat.le_of_ble_eq_true rfl, Nat.le_of_ble_eq_true rfl⟩ 0 rfl rfl rfl rfl (Nat.le_of_ble_eq_true rfl) dX0_costTop_16 (fun v w1 h => ?_)
        obtain ⟨rfl, rfl⟩ := h
        show G 19 [(0, .ref (ad (o))), (1, iV (((bar : Nat) : Int))), (2, lV (q)), (4, iV (((c : Nat) : Int)))] [lV (bs c - sl c * ((bar : Nat) : Int)), lV (q)] ([broC0 cI cL cZ ad (o) (cn), sqoC0 cI cL cZ ad (o + 1) (ts) (((r : Nat) : Int)), l4C0 cI cL cZ ad (o + 5) (S), l3C0 cI cL cZ ad (o + 6) (sg), l3C0 cI cL cZ ad (o + 7) (db), l3C0 cI cL cZ ad (o + 8) (bs), l3C0 cI cL cZ ad (o + 9) (sl)])
        refine g_aload_n (pc := 19) hG 0 rfl dX0_costTop_19 ?_
        refine g_get (pc := 20) hG fl0_22 0 rfl rfl dX0_costTop_20 ?_
        refine g_iload (pc := 23) hG 3 rfl dX0_costTop_23 ?_
        refine g_laload (pc := 25) hG 4 c rfl rfl (by omega) (by omega) (by decide) dX0_costTop_25 ?_
        refine g_aload_n (pc := 26) hG 0 rfl dX0_costTop_26 ?_
        refine g_get (pc := 27) hG fl0_18 0 rfl rfl dX0_costTop_27 ?_
        refine g_iload (pc := 30) hG 3 rfl dX0_costTop_30 ?_
        refine g_laload (pc := 32) hG 3 c rfl rfl (by omega) (by omega) (by decide) dX0_costTop_32 ?_
        refine g_iload_n (pc := 33) hG 1 rfl dX0_costTop_33 ?_
        refine g_i2l (pc := 34) hG (by omega) dX0_costTop_34 ?_
        refine g_lmul (pc := 35) hG dX0_costTop_35 ?_
        refine g_lsub (pc := 36) hG dX0_costTop_36 ?_
        refine g_lmul (pc := 37) hG dX0_costTop_37 ?_
        refine g_ladd (pc := 38) hG dX0_costTop_38 ?_
        refine g_nmL (pc := 39) hG (fun x39 ex39 => ?_)
        refine g_lstore_n (pc := 39) hG (by decide) (lv' := [(2, lV (x39)), (0, .ref (ad (o))), (1, iV (((bar : Nat) : Int))), (4, iV (((c : Nat) : Int)))]) rfl dX0_costTop_39 ?_
        refine g_iinc (pc := 40) hG 3 rfl (by decide) (lv' := [(4, iV ((((c : Nat) : Int)) + 1)), (2, lV (x39)), (0, .ref (ad (o))), (1, iV (((bar : Nat) : Int)))]) rfl dX0_costTop_40 ?_
        refine g_goto (pc := 43) hG (tgt := 5) (by decide) dX0_costTop_43 ?_
        exact g_lv (pc := 5) hG [2, 3, 1, 0] rfl (ih5 (c + 1) x39 (by omega) (by omega) (by rw [ex39, hq]; rfl))
  exact g_lv (pc := 5) hG [2, 3, 1, 0] rfl (L5 _ 0 0 (Nat.lt_succ_self _) (by omega) (rfl))
