abbrev bsC0 (cI cL cZ : ClassId) (ad : Nat → Nat) (o : Nat) (e : Bool) (t : Int) (b : Int) (x : Int) : Nat × va_E := (ad o, ob 1 [bV e, lV t, lV b, lV x])
abbrev rtoC0 (cI cL cZ : ClassId) (ad : Nat → Nat) (o : Nat) (n : Int) : Nat × va_E := (ad o, ob 6 [.ref (ad (o + 1)), .ref (ad (o + 2)), iV n])
abbrev l54C0 (cI cL cZ : ClassId) (ad : Nat → Nat) (o : Nat) (f : Nat → Int) : Nat × va_E := (ad o, aL cL 54 f)
abbrev ploC0 (cI cL cZ : ClassId) (ad : Nat → Nat) (o : Nat) (z : Int) : Nat × va_E := (ad o, ob 5 [.ref (ad (o + 1)), .ref (ad (o + 2)), .ref (ad (o + 3)), .ref (ad (o + 4)), .ref (ad (o + 5)), iV z])
abbrev i26C0 (cI cL cZ : ClassId) (ad : Nat → Nat) (o : Nat) (f : Nat → Int) : Nat × va_E := (ad o, aI cI 26 f)
abbrev pkoC0 (cI cL cZ : ClassId) (ad : Nat → Nat) (o : Nat) (k : Int) (z : Int) : Nat × va_E := (ad o, ob 4 [.ref (ad (o + 1)), iV k, iV z])
abbrev i10C0 (cI cL cZ : ClassId) (ad : Nat → Nat) (o : Nat) (f : Nat → Int) : Nat × va_E := (ad o, aI cI 10 f)
set_option maxHeartbeats 4000000 in
set_option maxRecDepth 100000 in
theorem c_X1_clear {l : Launch} {D : va_G} {cI cL cZ cX cG : ClassId} (ad : Nat → Nat) (o : Nat) (e : Bool) (t : Int) (b : Int) (x : Int)  : Ct l D (gT cI cL cZ cX cG) yX1_clear cX1_clear 1 none ({ frames := 0, cells := 0, slots := 0, locals := 0 }) [.ref (ad (o))] ([bsC0 cI cL cZ ad (o) (e) (t) (b) (x)]) (fun vv_ ww_ => vv_ = none ∧ ww_ = [bsC0 cI cL cZ ad (o) (true) (t) (b) (x)]) := by
  refine Ct.of (by decide) (Nat.le_of_ble_eq_true rfl) (fun G hG => ?_)
  show G 0 [(0, .ref (ad (o)))] [] ([bsC0 cI cL cZ ad (o) (e) (t) (b) (x)])
  refine g_aload_n (pc := 0) hG 0 rfl dX1_clear_0 ?_
  refine g_iconst (pc := 1) hG dX1_clear_1 ?_
  refine g_val (pc := 2) hG (show iV 1 = bV true from rfl) ?_
  refine g_put (pc := 2) hG fp1_9 0 rfl (bI_n _) (bI_fit _) (Nat.le_of_ble_eq_true rfl) (ws' := [bsC0 cI cL cZ ad (o) (true) (t) (b) (x)]) rfl dX1_clear_2 ?_
  exact g_return (pc := 5) hG ⟨rfl, rfl⟩ dX1_clear_5
set_option maxHeartbeats 4000000 in
set_option maxRecDepth 100000 in
theorem c_X1_offer {l : Launch} {D : va_G} {cI cL cZ cX cG : ClassId} (ad : Nat → Nat) (o : Nat) (e : Bool) (t : Int) (b : Int) (x : Int) (t9 : Int) (b9 : Int) (x9 : Int) (hb : BO e t b) (ht : 0 ≤ t9 ∧ t9 ≤ 9223372036854775807) (hb9 : 0 < b9 ∧ b9 ≤ 9223372036854775807) : Ct l D (gT cI cL cZ cX cG) yX1_offer cX1_offer 7 none ({ frames := 1, cells := 0, slots := 0, locals := 37 }) [.ref (ad (o)), lV (t9), lV (b9), lV (x9)] ([bsC0 cI cL cZ ad (o) (e) (t) (b) (x)]) (fun vv_ ww_ => ∃ (e2 : Bool), ∃ (t2 : Int), ∃ (b2 : Int), ∃ (x2 : Int), (OfR e t b x t9 b9 x9 e2 t2 b2 x2) ∧ vv_ = none ∧ ww_ = [bsC0 cI cL cZ ad (o) (e2) (t2) (b2) (x2)]) := by
  refine Ct.of (by decide) (Nat.le_of_ble_eq_true rfl) (fun G hG => ?_)
  show G 0 [(0, .ref (ad (o))), (1, lV (t9)), (3, lV (b9)), (5, lV (x9))] [] ([bsC0 cI cL cZ ad (o) (e) (t) (b) (x)])
  refine g_aload_n (pc := 0) hG 0 rfl dX1_offer_0 ?_
  refine g_get (pc := 1) hG fl1_9 0 rfl rfl dX1_offer_1 ?_
  have J44 : ∀ (j44bs0e : Bool) (j44bs0t : Int) (j44bs0b : Int) (j44bs0x : Int), (((e = true) ∧ j44bs0e = false ∧ j44bs0t = t9 ∧ j44bs0b = b9 ∧ j44bs0x = x9) ∨ ((e = false) ∧ (0 ≤ sgnZ (t9 * b - t * b9)) ∧ j44bs0e = e ∧ j44bs0t = t ∧ j44bs0b = b ∧ j44bs0x = x) ∨ ((e = false) ∧ (¬ 0 ≤ sgnZ (t9 * b - t * b9)) ∧ j44bs0e = false ∧ j44bs0t = t9 ∧ j44bs0b = b9 ∧ j44bs0x = x9)) → G 44 [(0, .ref (ad (o))), (1, lV (t9)), (3, lV (b9)), (5, lV (x9))] [] ([bsC0 cI cL cZ ad (o) (j44bs0e) (j44bs0t) (j44bs0b) (j44bs0x)]) := by
    intro j44bs0e j44bs0t j44bs0b j44bs0x k44
    exact g_return (pc := 44) hG ⟨j44bs0e, j44bs0t, j44bs0b, j44bs0x, OfR.of k44, rfl, rfl⟩ dX1_offer_44
  refine g_ifb_ne (pc := 4) hG (tgt := 23) (by decide) dX1_offer_4 (fun h4 => ?_) (fun h4 => ?_)
  · refine g_aload_n (pc := 23) hG 0 rfl dX1_offer_23 ?_
    refine g_iconst (pc := 24) hG dX1_offer_24 ?_
    refine g_val (pc := 25) hG (show iV 0 = bV false from rfl) ?_
    refine g_put (pc := 25) hG fp1_9 0 rfl (bI_n _) (bI_fit _) (Nat.le_of_ble_eq_true rfl) (ws' := [bsC0 cI cL cZ ad (o) (false) (t) (b) (x)]) rfl dX1_offer_25 ?_
    refine g_aload_n (pc := 28) hG 0 rfl dX1_offer_28 ?_
    refine g_lload_n (pc := 29) hG 1 rfl dX1_offer_29 ?_
    refine g_put (pc := 30) hG fp1_19 0 rfl rfl rfl (Nat.le_of_ble_eq_true rfl) (ws' := [bsC0 cI cL cZ ad (o) (false) (t9) (b) (x)]) rfl dX1_offer_30 ?_
    refine g_aload_n (pc := 33) hG 0 rfl dX1_offer_33 ?_
    refine g_lload_n (pc := 34) hG 2 rfl dX1_offer_34 ?_
    refine g_put (pc := 35) hG fp1_15 0 rfl rfl rfl (Nat.le_of_ble_eq_true rfl) (ws' := [bsC0 cI cL cZ ad (o) (false) (t9) (b9) (x)]) rfl dX1_offer_35 ?_
    refine g_aload_n (pc := 38) hG 0 rfl dX1_offer_38 ?_
    refine g_lload (pc := 39) hG 3 rfl dX1_offer_39 ?_
    refine g_put (pc := 41) hG fp1_28 0 rfl rfl rfl (Nat.le_of_ble_eq_true rfl) (ws' := [bsC0 cI cL cZ ad (o) (false) (t9) (b9) (x9)]) rfl dX1_offer_41 ?_
    exact g_lv (pc := 44) hG [0, 1, 2, 3] rfl (J44 false t9 b9 x9 (Or.inl ⟨h4, rfl, rfl, rfl, rfl⟩))
  · refine g_lload_n (pc := 7) hG 1 rfl dX1_offer_7 ?_
    refine g_lload_n (pc := 8) hG 2 rfl dX1_offer_8 ?_
    refine g_aload_n (pc := 9) hG 0 rfl dX1_offer_9 ?_
    refine g_get (pc := 10) hG fl1_19 0 rfl rfl dX1_offer_10 ?_
    refine g_aload_n (pc := 13) hG 0 rfl dX1_offer_13 ?_
    refine g_get (pc := 14) hG fl1_15 0 rfl rfl dX1_offer_14 ?_
    have hbo := hb.ok h4
    refine g_callP (pc := 17) hG (As := [lV (t9), lV (b9), lV (t), lV (b)]) (rest := []) (c_X2_order (l := l) (D := D) (cI := cI) (cL := cL) (cZ := cZ) (cX := cX) (cG := cG) t9 b9 t b (ht) (hb9) (hbo.1) (hbo.2)) cs1_22 ⟨rfl, rfl⟩ ⟨Nat.le_of_ble_eq_true rfl, Nat.le_of_ble_eq_true rfl⟩ rfl rfl (Nat.le_of_ble_eq_true rfl) dX1_offer_17 (fun v h => ?_)
    obtain ⟨rfl, -⟩ := h
    show G 20 [(0, .ref (ad (o))), (1, lV (t9)), (3, lV (b9)), (5, lV (x9))] [iV (sgnZ (t9 * b - t * b9))] ([bsC0 cI cL cZ ad (o) (e) (t) (b) (x)])
    have hsg := sgn_bd (t9 * b - t * b9)
    refine g_if_ge (pc := 20) hG (by omega) (tgt := 44) (by decide) dX1_offer_20 (fun h20 => ?_) (fun h20 => ?_)
    · exact g_lv (pc := 44) hG [0, 1, 2, 3] rfl (J44 e t b x (Or.inr (Or.inl ⟨h4, h20, rfl, rfl, rfl, rfl⟩)))
    · refine g_aload_n (pc := 23) hG 0 rfl dX1_offer_23 ?_
      refine g_iconst (pc := 24) hG dX1_offer_24 ?_
      refine g_val (pc := 25) hG (show iV 0 = bV false from rfl) ?_
      refine g_put (pc := 25) hG fp1_9 0 rfl (bI_n _) (bI_fit _) (Nat.le_of_ble_eq_true rfl) (ws' := [bsC0 cI cL cZ ad (o) (false) (t) (b) (x)]) rfl dX1_offer_25 ?_
      refine g_aload_n (pc := 28) hG 0 rfl dX1_offer_28 ?_
      refine g_lload_n (pc := 29) hG 1 rfl dX1_offer_29 ?_
      refine g_put (pc := 30) hG fp1_19 0 rfl rfl rfl (Nat.le_of_ble_eq_true rfl) (ws' := [bsC0 cI cL cZ ad (o) (false) (t9) (b) (x)]) rfl dX1_offer_30 ?_
      refine g_aload_n (pc := 33) hG 0 rfl dX1_offer_33 ?_
      refine g_lload_n (pc := 34) hG 2 rfl dX1_offer_34 ?_
      refine g_put (pc := 35) hG fp1_15 0 rfl rfl rfl (Nat.le_of_ble_eq_true rfl) (ws' := [bsC0 cI cL cZ ad (o) (false) (t9) (b9) (x)]) rfl dX1_offer_35 ?_
      refine g_aload_n (pc := 38) hG 0 rfl dX1_offer_38 ?_
      refine g_lload (pc := 39) hG 3 rfl dX1_offer_39 ?_
      refine g_put (pc := 41) hG fp1_28 0 rfl rfl rfl (Nat.le_of_ble_eq_true rfl) (ws' := [bsC0 cI cL cZ ad (o) (false) (t9) (b9) (x9)]) rfl dX1_offer_41 ?_
      exact g_lv (pc := 44) hG [0, 1, 2, 3] rfl (J44 false t9 b9 x9 (Or.inr (Or.inr (⟨h4, h20, rfl, rfl, rfl, rfl⟩))))
set_option maxHeartbeats 4000000 in
set_option maxRecDepth 100000 in
theorem c_X1_tell {l : Launch} {D : va_G} {cI cL cZ cX cG : ClassId} (ad : Nat → Nat) (o : Nat) (e : Bool) (t : Int) (b : Int) (x : Int) (wh : Int) (hb : BO e t b) (hw : InI wh) : Ct l D (gT cI cL cZ cX cG) yX1_tell cX1_tell 2 (some .long) ({ frames := 3, cells := 0, slots := 0, locals := 96 }) [.ref (ad (o)), iV (wh)] ([bsC0 cI cL cZ ad (o) (e) (t) (b) (x)]) (fun vv_ ww_ => vv_ = some (lV (bsTell e t b x wh)) ∧ ww_ = [bsC0 cI cL cZ ad (o) (e) (t) (b) (x)]) := by
  refine Ct.of (by decide) (Nat.le_of_ble_eq_true rfl) (fun G hG => ?_)
  show G 0 [(0, .ref (ad (o))), (1, iV (wh))] [] ([bsC0 cI cL cZ ad (o) (e) (t) (b) (x)])
  refine g_aload_n (pc := 0) hG 0 rfl dX1_tell_0 ?_
  refine g_get (pc := 1) hG fl1_9 0 rfl rfl dX1_tell_1 ?_
  refine g_ifb_eq (pc := 4) hG (tgt := 11) (by decide) dX1_tell_4 (fun h4 => ?_) (fun h4 => ?_)
  · refine g_iload_n (pc := 11) hG 1 rfl dX1_tell_11 ?_
    refine g_iconst (pc := 12) hG dX1_tell_12 ?_
    have J35 : ∀ (j35s0 : Int), (((¬ wh = 2) ∧ j35s0 = tellZ t b wh) ∨ ((wh = 2) ∧ j35s0 = x)) → G 35 [(0, .ref (ad (o))), (1, iV (wh))] [lV (j35s0)] ([bsC0 cI cL cZ ad (o) (e) (t) (b) (x)]) := by
      intro j35s0 k35
      exact g_lreturn (pc := 35) hG ⟨sL (by unfold bsTell; rw [if_neg (by rw [h4]; simp)]; rcases k35 with ⟨h, e⟩ | ⟨h, e⟩; rw [if_neg h, e]; rw [if_pos (by omega), e]), rfl⟩ dX1_tell_35
    refine g_icmp_ne (pc := 13) hG (by omega) (by omega) (tgt := 23) (by decide) dX1_tell_13 (fun h13 => ?_) (fun h13 => ?_)
    · refine g_aload_n (pc := 23) hG 0 rfl dX1_tell_23 ?_
      refine g_get (pc := 24) hG fl1_19 0 rfl rfl dX1_tell_24 ?_
      refine g_aload_n (pc := 27) hG 0 rfl dX1_tell_27 ?_
      refine g_get (pc := 28) hG fl1_15 0 rfl rfl dX1_tell_28 ?_
      refine g_iload_n (pc := 31) hG 1 rfl dX1_tell_31 ?_
      have hbo := hb.ok h4
      refine g_callP (pc := 32) hG (As := [lV (t), lV (b), iV (wh)]) (rest := []) (c_X2_tell (l := l) (D := D) (cI := cI) (cL := cL) (cZ := cZ) (cX := cX) (cG := cG) t b wh (by omega) (by omega) (hw)) cs1_33 ⟨rfl, rfl⟩ ⟨Nat.le_of_ble_eq_true rfl, Nat.le_of_ble_eq_true rfl⟩ rfl rfl (Nat.le_of_ble_eq_true rfl) dX1_tell_32 (fun v h => ?_)
      obtain ⟨rfl, -⟩ := h
      show G 35 [(0, .ref (ad (o))), (1, iV (wh))] [lV (tellZ t b wh)] ([bsC0 cI cL cZ ad (o) (e) (t) (b) (x)])
      exact g_lv (pc := 35) hG [0, 1] rfl (J35 (tellZ t b wh) (Or.inl ⟨h13, rfl⟩))
    · refine g_aload_n (pc := 16) hG 0 rfl dX1_tell_16 ?_
      refine g_get (pc := 17) hG fl1_28 0 rfl rfl dX1_tell_17 ?_
      refine g_goto (pc := 20) hG (tgt := 35) (by decide) dX1_tell_20 ?_
      exact g_lv (pc := 35) hG [0, 1] rfl (J35 x (Or.inr (⟨h13, rfl⟩)))
  · refine g_ldc2 (z := -1) (pc := 7) hG (v := -1) (inB wd_549 rfl) (by decide) dX1_tell_7 ?_
    exact g_lreturn (pc := 10) hG ⟨sL (by unfold bsTell; rw [if_pos h4]), rfl⟩ dX1_tell_10
set_option maxHeartbeats 4000000 in
set_option maxRecDepth 100000 in
theorem c_X7_insert {l : Launch} {D : va_G} {cI cL cZ cX cG : ClassId} (ad : Nat → Nat) (o : Nat) (T : Nat → Int) (B : Nat → Int) (n : Nat) (t : Int) (b : Int) (hn : n ≤ 54) (hT : ∀ i, i < n → (0 ≤ T i ∧ T i ≤ 9223372036854775807) ∧ (0 < B i ∧ B i ≤ 9223372036854775807)) (ht : 0 ≤ t ∧ t ≤ 9223372036854775807) (hb : 0 < b ∧ b ≤ 9223372036854775807) : Ct l D (gT cI cL cZ cX cG) yX7_insert cX7_insert 8 none ({ frames := 1, cells := 0, slots := 0, locals := 37 }) [.ref (ad (o)), lV (t), lV (b)] ([rtoC0 cI cL cZ ad (o) (((n : Nat) : Int)), l54C0 cI cL cZ ad (o + 1) (T), l54C0 cI cL cZ ad (o + 2) (B)]) (fun vv_ ww_ => ∃ (T2 : Nat → Int), ∃ (B2 : Nat → Int), ∃ (n2 : Nat), (InsR T B n t b T2 B2 n2) ∧ vv_ = none ∧ ww_ = [rtoC0 cI cL cZ ad (o) (((n2 : Nat) : Int)), l54C0 cI cL cZ ad (o + 1) (T2), l54C0 cI cL cZ ad (o + 2) (B2)]) := by
  refine Ct.of (by decide) (Nat.le_of_ble_eq_true rfl) (fun G hG => ?_)
  show G 0 [(0, .ref (ad (o))), (1, lV (t)), (3, lV (b))] [] ([rtoC0 cI cL cZ ad (o) (((n : Nat) : Int)), l54C0 cI cL cZ ad (o + 1) (T), l54C0 cI cL cZ ad (o + 2) (B)])
  refine g_iconst (pc := 0) hG dX7_insert_0 ?_
  refine g_istore (pc := 1) hG (by decide) (lv' := [(5, iV (0)), (0, .ref (ad (o))), (1, lV (t)), (3, lV (b))]) rfl dX7_insert_1 ?_
  have L3 : ∀ (fu3 : Nat) (p : Nat), n - p < fu3 → (p ≤ n) → (∀ i, i < p → 0 < T i * b - t * B i) → G 3 [(0, .ref (ad (o))), (1, lV (t)), (3, lV (b)), (5, iV (((p : Nat) : Int)))] [] ([rtoC0 cI cL cZ ad (o) (((n : Nat) : Int)), l54C0 cI cL cZ ad (o + 1) (T), l54C0 cI cL cZ ad (o + 2) (B)]) := by
    intro fu3
    induction fu3 with
    | zero => intro p hm; exact absurd hm (Nat.not_lt_zero _)
    | succ fu3 ih3 =>
      intro p hm3 hp hl
      refine g_iload (pc := 3) hG 3 rfl dX7_insert_3 ?_
      refine g_aload_n (pc := 5) hG 0 rfl dX7_insert_5 ?_
      refine g_get (pc := 6) hG fl7_16 0 rfl rfl dX7_insert_6 ?_
      have J40 : ∀ (_ : Unit), (((((n : Nat) : Int) ≤ ((p : Nat) : Int))) ∨ ((¬ ((n : Nat) : Int) ≤ ((p : Nat) : Int)) ∧ (sgnZ ((T p) * b - t * (B p)) ≤ 0))) → G 40 [(0, .ref (ad (o))), (1, lV (t)), (3, lV (b)), (5, iV (((p : Nat) : Int)))] [] ([rtoC0 cI cL cZ ad (o) (((n : Nat) : Int)), l54C0 cI cL cZ ad (o + 1) (T), l54C0 cI cL cZ ad (o + 2) (B)]) := by
        intro _ k40
        refine g_iload (pc := 40) hG 3 rfl dX7_insert_40 ?_
        refine g_aload_n (pc := 42) hG 0 rfl dX7_insert_42 ?_
        refine g_get (pc := 43) hG fl7_16 0 rfl rfl dX7_insert_43 ?_
        have J78 : ∀ (j78s0 : Bool), (((((n : Nat) : Int) ≤ ((p : Nat) : Int)) ∧ j78s0 = false) ∨ ((¬ ((n : Nat) : Int) ≤ ((p : Nat) : Int)) ∧ (¬ T p = t) ∧ j78s0 = false) ∨ ((¬ ((n : Nat) : Int) ≤ ((p : Nat) : Int)) ∧ (T p = t) ∧ (¬ B p = b) ∧ j78s0 = false) ∨ ((¬ ((n : Nat) : Int) ≤ ((p : Nat) : Int)) ∧ (T p = t) ∧ (B p = b) ∧ j78s0 = true)) → G 78 [(0, .ref (ad (o))), (1, lV (t)), (3, lV (b)), (5, iV (((p : Nat) : Int)))] [bV (j78s0)] ([rtoC0 cI cL cZ ad (o) (((n : Nat) : Int)), l54C0 cI cL cZ ad (o + 1) (T), l54C0 cI cL cZ ad (o + 2) (B)]) := by
          intro j78s0 k78
          refine g_istore (pc := 78) hG (by decide) (lv' := [(6, bV (j78s0)), (0, .ref (ad (o))), (1, lV (t)), (3, lV (b)), (5, iV (((p : Nat) : Int)))]) rfl dX7_insert_78 ?_
          refine g_iload (pc := 80) hG 0 rfl dX7_insert_80 ?_
          have J94 : ∀ (_ : Unit), (((j78s0 = true)) ∨ ((j78s0 = false) ∧ (¬ ((n : Nat) : Int) < 54))) → G 94 [(0, .ref (ad (o))), (1, lV (t)), (3, lV (b)), (5, iV (((p : Nat) : Int))), (6, bV (j78s0))] [] ([rtoC0 cI cL cZ ad (o) (((n : Nat) : Int)), l54C0 cI cL cZ ad (o + 1) (T), l54C0 cI cL cZ ad (o + 2) (B)]) := by
            intro _ k94
            exact g_return (pc := 94) hG ⟨T, B, n, InsR.no hp hl trivial (ins_le k40) k78 k94, rfl, rfl⟩ dX7_insert_94
          refine g_ifb_ne (pc := 82) hG (tgt := 94) (by decide) dX7_insert_82 (fun h82 => ?_) (fun h82 => ?_)
          · exact g_lv (pc := 94) hG [1, 2, 3, 4, 0] rfl (J94 () (Or.inl (h82)))
          · refine g_aload_n (pc := 85) hG 1 rfl dX7_insert_85 ?_
            refine g_get (pc := 86) hG fl7_16 0 rfl rfl dX7_insert_86 ?_
            refine g_bipush (pc := 89) hG dX7_insert_89 (by decide) ?_
            refine g_icmp_lt (pc := 91) hG (by omega) (by omega) (tgt := 95) (by decide) dX7_insert_91 (fun h91 => ?_) (fun h91 => ?_)
            · refine g_aload_n (pc := 95) hG 1 rfl dX7_insert_95 ?_
              refine g_get (pc := 96) hG fl7_16 0 rfl rfl dX7_insert_96 ?_
              refine g_istore (pc := 99) hG (by decide) (lv' := [(7, iV (((n : Nat) : Int))), (6, bV (j78s0)), (0, .ref (ad (o))), (1, lV (t)), (3, lV (b)), (5, iV (((p : Nat) : Int)))]) rfl dX7_insert_99 ?_
              have L101 : ∀ (fu101 : Nat) (j : Nat) (T9 : Nat → Int) (B9 : Nat → Int), j < fu101 → (p ≤ j ∧ j ≤ n) → (ShR T B n j T9 B9) → G 101 [(0, .ref (ad (o))), (1, lV (t)), (3, lV (b)), (5, iV (((p : Nat) : Int))), (7, iV (((j : Nat) : Int)))] [] ([rtoC0 cI cL cZ ad (o) (((n : Nat) : Int)), l54C0 cI cL cZ ad (o + 1) (T9), l54C0 cI cL cZ ad (o + 2) (B9)]) := by
                intro fu101
                induction fu101 with
                | zero => intro j T9 B9 hm; exact absurd hm (Nat.not_lt_zero _)
                | succ fu101 ih101 =>
                  intro j T9 B9 hm101 hj h9
                  refine g_iload (pc := 101) hG 4 rfl dX7_insert_101 ?_
                  refine g_iload (pc := 103) hG 3 rfl dX7_insert_103 ?_
                  refine g_icmp_le (pc := 105) hG (by omega) (by omega) (tgt := 146) (by decide) dX7_insert_105 (fun h105 => ?_) (fun h105 => ?_)
                  · refine g_aload_n (pc := 146) hG 0 rfl dX7_insert_146 ?_
                    refine g_get (pc := 147) hG fl7_9 0 rfl rfl dX7_insert_147 ?_
                    refine g_iload (pc := 150) hG 3 rfl dX7_insert_150 ?_
                    refine g_lload_n (pc := 152) hG 1 rfl dX7_insert_152 ?_
                    refine g_lastore (pc := 153) hG 1 p rfl rfl (by omega) (by omega) (by decide) (ws' := [rtoC0 cI cL cZ ad (o) (((n : Nat) : Int)), l54C0 cI cL cZ ad (o + 1) (upZ T9 p t), l54C0 cI cL cZ ad (o + 2) (B9)]) rfl dX7_insert_153 ?_
                    refine g_aload_n (pc := 154) hG 0 rfl dX7_insert_154 ?_
                    refine g_get (pc := 155) hG fl7_13 0 rfl rfl dX7_insert_155 ?_
                    refine g_iload (pc := 158) hG 3 rfl dX7_insert_158 ?_
                    refine g_lload_n (pc := 160) hG 2 rfl dX7_insert_160 ?_
                    refine g_lastore (pc := 161) hG 2 p rfl rfl (by omega) (by omega) (by decide) (ws' := [rtoC0 cI cL cZ ad (o) (((n : Nat) : Int)), l54C0 cI cL cZ ad (o + 1) (upZ T9 p t), l54C0 cI cL cZ ad (o + 2) (upZ B9 p b)]) rfl dX7_insert_161 ?_
                    refine g_aload_n (pc := 162) hG 0 rfl dX7_insert_162 ?_
                    refine g_dup (pc := 163) hG rfl dX7_insert_163 ?_
                    refine g_get (pc := 164) hG fl7_16 0 rfl rfl dX7_insert_164 ?_
                    refine g_iconst (pc := 167) hG dX7_insert_167 ?_
                    refine g_iadd (pc := 168) hG dX7_insert_168 ?_
                    refine g_put (pc := 169) hG fp7_16 0 rfl rfl rfl (Nat.le_of_ble_eq_true rfl) (ws' := [rtoC0 cI cL cZ ad (o) (((n + 1 : Nat) : Int)), l54C0 cI cL cZ ad (o + 1) (upZ T9 p t), l54C0 cI cL cZ ad (o + 2) (upZ B9 p b)]) rfl dX7_insert_169 ?_
                    exact g_return (pc := 172) hG ⟨upZ T9 p t, upZ B9 p b, n + 1, InsR.yes hp hl (ins_le k40) k78 (by assumption) (by omega) h9 (by omega), rfl, rfl⟩ dX7_insert_172
                  · refine g_aload_n (pc := 108) hG 0 rfl dX7_insert_108 ?_
                    refine g_get (pc := 109) hG fl7_9 0 rfl rfl dX7_insert_109 ?_
                    refine g_iload (pc := 112) hG 4 rfl dX7_insert_112 ?_
                    refine g_aload_n (pc := 114) hG 0 rfl dX7_insert_114 ?_
                    refine g_get (pc := 115) hG fl7_9 0 rfl rfl dX7_insert_115 ?_
                    refine g_iload (pc := 118) hG 4 rfl dX7_insert_118 ?_
                    refine g_iconst (pc := 120) hG dX7_insert_120 ?_
                    refine g_isub (pc := 121) hG dX7_insert_121 ?_
                    refine g_laload (pc := 122) hG 1 (j - 1) rfl rfl (by omega) (by omega) (by decide) dX7_insert_122 ?_
                    refine g_nmL (pc := 123) hG (fun x123 ex123 => ?_)
                    refine g_lastore (pc := 123) hG 1 j rfl rfl (by omega) (by omega) (by decide) (ws' := [rtoC0 cI cL cZ ad (o) (((n : Nat) : Int)), l54C0 cI cL cZ ad (o + 1) (upZ T9 j x123), l54C0 cI cL cZ ad (o + 2) (B9)]) rfl dX7_insert_123 ?_
                    refine g_aload_n (pc := 124) hG 0 rfl dX7_insert_124 ?_
                    refine g_get (pc := 125) hG fl7_13 0 rfl rfl dX7_insert_125 ?_
                    refine g_iload (pc := 128) hG 4 rfl dX7_insert_128 ?_
                    refine g_aload_n (pc := 130) hG 0 rfl dX7_insert_130 ?_
                    refine g_get (pc := 131) hG fl7_13 0 rfl rfl dX7_insert_131 ?_
                    refine g_iload (pc := 134) hG 4 rfl dX7_insert_134 ?_
                    refine g_iconst (pc := 136) hG dX7_insert_136 ?_
                    refine g_isub (pc := 137) hG dX7_insert_137 ?_
                    refine g_laload (pc := 138) hG 2 (j - 1) rfl rfl (by omega) (by omega) (by decide) dX7_insert_138 ?_
                    refine g_nmL (pc := 139) hG (fun x139 ex139 => ?_)
                    refine g_lastore (pc := 139) hG 2 j rfl rfl (by omega) (by omega) (by decide) (ws' := [rtoC0 cI cL cZ ad (o) (((n : Nat) : Int)), l54C0 cI cL cZ ad (o + 1) (upZ T9 j x123), l54C0 cI cL cZ ad (o + 2) (upZ B9 j x139)]) rfl dX7_insert_139 ?_
                    refine g_iincE (pc := 140) hG 4 rfl (by decide) (z' := ((j - 1 : Nat) : Int)) (by omega) (lv' := [(7, iV (((j - 1 : Nat) : Int))), (0, .ref (ad (o))), (1, lV (t)), (3, lV (b)), (5, iV (((p : Nat) : Int)))]) rfl dX7_insert_140 ?_
                    refine g_goto (pc := 143) hG (tgt := 101) (by decide) dX7_insert_143 ?_
                    exact g_lv (pc := 101) hG [1, 2, 3, 4, 0] rfl (ih101 (j - 1) (upZ T9 j x123) (upZ B9 j x139) (by omega) (by omega) (by rw [ex123, ex139]; exact h9.step (by omega) (by omega)))
              exact g_lv (pc := 101) hG [2, 3, 4, 5, 0] rfl (L101 _ n T B (Nat.lt_succ_self _) (by omega) (ShR.init))
            · exact g_lv (pc := 94) hG [1, 2, 3, 4, 0] rfl (J94 () (Or.inr (⟨h82, h91⟩)))
        refine g_icmp_ge (pc := 46) hG (by omega) (by omega) (tgt := 77) (by decide) dX7_insert_46 (fun h46 => ?_) (fun h46 => ?_)
        · refine g_iconst (pc := 77) hG dX7_insert_77 ?_
          exact g_lv (pc := 78) hG [0, 1, 2, 3] rfl (J78 false (Or.inl ⟨h46, rfl⟩))
        · refine g_aload_n (pc := 49) hG 0 rfl dX7_insert_49 ?_
          refine g_get (pc := 50) hG fl7_9 0 rfl rfl dX7_insert_50 ?_
          refine g_iload (pc := 53) hG 3 rfl dX7_insert_53 ?_
          refine g_laload (pc := 55) hG 1 p rfl rfl (by omega) (by omega) (by decide) dX7_insert_55 ?_
          refine g_lload_n (pc := 56) hG 1 rfl dX7_insert_56 ?_
          have hTp := hT p (by omega)
          refine g_lc_ne (pc := 57) hG (by omega) (by omega) (tgt := 77) (by decide) dX7_insert_57 dX7_insert_58 (fun h57 => ?_) (fun h57 => ?_)
          · refine g_iconst (pc := 77) hG dX7_insert_77 ?_
            exact g_lv (pc := 78) hG [0, 1, 2, 3] rfl (J78 false (Or.inr (Or.inl ⟨h46, h57, rfl⟩)))
          · refine g_aload_n (pc := 61) hG 0 rfl dX7_insert_61 ?_
            refine g_get (pc := 62) hG fl7_13 0 rfl rfl dX7_insert_62 ?_
            refine g_iload (pc := 65) hG 3 rfl dX7_insert_65 ?_
            refine g_laload (pc := 67) hG 2 p rfl rfl (by omega) (by omega) (by decide) dX7_insert_67 ?_
            refine g_lload_n (pc := 68) hG 2 rfl dX7_insert_68 ?_
            refine g_lc_ne (pc := 69) hG (by omega) (by omega) (tgt := 77) (by decide) dX7_insert_69 dX7_insert_70 (fun h69 => ?_) (fun h69 => ?_)
            · refine g_iconst (pc := 77) hG dX7_insert_77 ?_
              exact g_lv (pc := 78) hG [0, 1, 2, 3] rfl (J78 false (Or.inr (Or.inr (Or.inl ⟨h46, h57, h69, rfl⟩))))
            · refine g_iconst (pc := 73) hG dX7_insert_73 ?_
              refine g_goto (pc := 74) hG (tgt := 78) (by decide) dX7_insert_74 ?_
              exact g_lv (pc := 78) hG [0, 1, 2, 3] rfl (J78 true (Or.inr (Or.inr (Or.inr (⟨h46, h57, h69, rfl⟩)))))
      refine g_icmp_ge (pc := 9) hG (by omega) (by omega) (tgt := 40) (by decide) dX7_insert_9 (fun h9 => ?_) (fun h9 => ?_)
      · exact g_lv (pc := 40) hG [0, 1, 2, 3] rfl (J40 () (Or.inl (h9)))
      · refine g_aload_n (pc := 12) hG 0 rfl dX7_insert_12 ?_
        refine g_get (pc := 13) hG fl7_9 0 rfl rfl dX7_insert_13 ?_
        refine g_iload (pc := 16) hG 3 rfl dX7_insert_16 ?_
        refine g_laload (pc := 18) hG 1 p rfl rfl (by omega) (by omega) (by decide) dX7_insert_18 ?_
        refine g_aload_n (pc := 19) hG 0 rfl dX7_insert_19 ?_
        refine g_get (pc := 20) hG fl7_13 0 rfl rfl dX7_insert_20 ?_
        refine g_iload (pc := 23) hG 3 rfl dX7_insert_23 ?_
        refine g_laload (pc := 25) hG 2 p rfl rfl (by omega) (by omega) (by decide) dX7_insert_25 ?_
        refine g_lload_n (pc := 26) hG 1 rfl dX7_insert_26 ?_
        refine g_lload_n (pc := 27) hG 2 rfl dX7_insert_27 ?_
        have hTp := hT p (by omega)
        refine g_callP (pc := 28) hG (As := [lV (T p), lV (B p), lV (t), lV (b)]) (rest := []) (c_X2_order (l := l) (D := D) (cI := cI) (cL := cL) (cZ := cZ) (cX := cX) (cG := cG) (T p) (B p) t b (hTp.1) (hTp.2) (ht) (hb)) cs7_20 ⟨rfl, rfl⟩ ⟨Nat.le_of_ble_eq_true rfl, Nat.le_of_ble_eq_true rfl⟩ rfl rfl (Nat.le_of_ble_eq_true rfl) dX7_insert_28 (fun v h => ?_)
        obtain ⟨rfl, -⟩ := h
        show G 31 [(0, .ref (ad (o))), (1, lV (t)), (3, lV (b)), (5, iV (((p : Nat) : Int)))] [iV (sgnZ ((T p) * b - t * (B p)))] ([rtoC0 cI cL cZ ad (o) (((n : Nat) : Int)), l54C0 cI cL cZ ad (o + 1) (T), l54C0 cI cL cZ ad (o + 2) (B)])
        have hsg := sgn_bd (T p * b - t * B p)
        refine g_if_le (pc := 31) hG (by omega) (tgt := 40) (by decide) dX7_insert_31 (fun h31 => ?_) (fun h31 => ?_)
        · exact g_lv (pc := 40) hG [0, 1, 2, 3] rfl (J40 () (Or.inr (⟨h9, h31⟩)))
        · refine g_iinc (pc := 34) hG 3 rfl (by decide) (lv' := [(5, iV ((((p : Nat) : Int)) + 1)), (0, .ref (ad (o))), (1, lV (t)), (3, lV (b))]) rfl dX7_insert_34 ?_
          refine g_goto (pc := 37) hG (tgt := 3) (by decide) dX7_insert_37 ?_
          exact g_lv (pc := 3) hG [1, 2, 3, 0] rfl (ih3 (p + 1) (by omega) (by omega) (fun i h => by rcases Nat.lt_or_ge i p with h2 | h2; exact hl i h2; (have : i = p := by omega); subst this; exact sgn_gt h31))
  exact g_lv (pc := 3) hG [1, 2, 3, 0] rfl (L3 _ 0 (Nat.lt_succ_self _) (by omega) (fun i h => absurd h (Nat.not_lt_zero _)))
set_option maxHeartbeats 4000000 in
set_option maxRecDepth 100000 in
theorem c_X6_put {l : Launch} {D : va_G} {cI cL cZ cX cG : ClassId} (ad : Nat → Nat) (o : Nat) (A : Nat → Int) (B : Nat → Int) (C : Nat → Int) (z : Int) (p : Nat) (x : Int) (y : Int) (w : Int) (hp : p < 26) : Ct l D (gT cI cL cZ cX cG) yX6_put cX6_put 5 none ({ frames := 0, cells := 0, slots := 0, locals := 0 }) [.ref (ad (o)), iV (((p : Nat) : Int)), iV (x), iV (y), iV (w)] ([ploC0 cI cL cZ ad (o) (z), i26C0 cI cL cZ ad (o + 1) (A), i26C0 cI cL cZ ad (o + 2) (B), i26C0 cI cL cZ ad (o + 3) (C)]) (fun vv_ ww_ => vv_ = none ∧ ww_ = [ploC0 cI cL cZ ad (o) (z), i26C0 cI cL cZ ad (o + 1) (upZ A p x), i26C0 cI cL cZ ad (o + 2) (upZ B p y), i26C0 cI cL cZ ad (o + 3) (upZ C p w)]) := by
  refine Ct.of (by decide) (Nat.le_of_ble_eq_true rfl) (fun G hG => ?_)
  show G 0 [(0, .ref (ad (o))), (1, iV (((p : Nat) : Int))), (2, iV (x)), (3, iV (y)), (4, iV (w))] [] ([ploC0 cI cL cZ ad (o) (z), i26C0 cI cL cZ ad (o + 1) (A), i26C0 cI cL cZ ad (o + 2) (B), i26C0 cI cL cZ ad (o + 3) (C)])
  refine g_aload_n (pc := 0) hG 0 rfl dX6_put_0 ?_
  refine g_get (pc := 1) hG fl6_11 0 rfl rfl dX6_put_1 ?_
  refine g_iload_n (pc := 4) hG 1 rfl dX6_put_4 ?_
  refine g_iload_n (pc := 5) hG 2 rfl dX6_put_5 ?_
  refine g_iastore (pc := 6) hG 1 p rfl rfl (by omega) (by omega) (by decide) (ws' := [ploC0 cI cL cZ ad (o) (z), i26C0 cI cL cZ ad (o + 1) (upZ A p x), i26C0 cI cL cZ ad (o + 2) (B), i26C0 cI cL cZ ad (o + 3) (C)]) rfl dX6_put_6 ?_
  refine g_aload_n (pc := 7) hG 0 rfl dX6_put_7 ?_
  refine g_get (pc := 8) hG fl6_15 0 rfl rfl dX6_put_8 ?_
  refine g_iload_n (pc := 11) hG 1 rfl dX6_put_11 ?_
  refine g_iload_n (pc := 12) hG 3 rfl dX6_put_12 ?_
  refine g_iastore (pc := 13) hG 2 p rfl rfl (by omega) (by omega) (by decide) (ws' := [ploC0 cI cL cZ ad (o) (z), i26C0 cI cL cZ ad (o + 1) (upZ A p x), i26C0 cI cL cZ ad (o + 2) (upZ B p y), i26C0 cI cL cZ ad (o + 3) (C)]) rfl dX6_put_13 ?_
  refine g_aload_n (pc := 14) hG 0 rfl dX6_put_14 ?_
  refine g_get (pc := 15) hG fl6_18 0 rfl rfl dX6_put_15 ?_
  refine g_iload_n (pc := 18) hG 1 rfl dX6_put_18 ?_
  refine g_iload (pc := 19) hG 4 rfl dX6_put_19 ?_
  refine g_iastore (pc := 21) hG 3 p rfl rfl (by omega) (by omega) (by decide) (ws' := [ploC0 cI cL cZ ad (o) (z), i26C0 cI cL cZ ad (o + 1) (upZ A p x), i26C0 cI cL cZ ad (o + 2) (upZ B p y), i26C0 cI cL cZ ad (o + 3) (upZ C p w)]) rfl dX6_put_21 ?_
  exact g_return (pc := 22) hG ⟨rfl, rfl⟩ dX6_put_22
set_option maxHeartbeats 4000000 in
set_option maxRecDepth 100000 in
theorem c_X6_fill {l : Launch} {D : va_G} {cI cL cZ cX cG : ClassId} (ad : Nat → Nat) (o : Nat) (o2 : Nat) (A : Nat → Int) (B : Nat → Int) (C : Nat → Int) (T : Nat → Int) (W : Nat → Int) (z : Int) (X : Nat → Int) (Y : Nat → Int) (K : Nat → Bool) (m : Nat) (n : Nat) (q : Int) (hn : n ≤ 24) : Ct l D (gT cI cL cZ cX cG) yX6_fill cX6_fill 3 none ({ frames := 1, cells := 0, slots := 0, locals := 24 }) [.ref (ad (o)), .ref (ad (o2))] ([ploC0 cI cL cZ ad (o) (z), i26C0 cI cL cZ ad (o + 1) (A), i26C0 cI cL cZ ad (o + 2) (B), i26C0 cI cL cZ ad (o + 3) (C), i26C0 cI cL cZ ad (o + 4) (T), i26C0 cI cL cZ ad (o + 5) (W), tbC0 cI cL cZ ad (o2) (X) (Y) (K) (((m : Nat) : Int)) (((n : Nat) : Int)) (q), tbC1 cI cL cZ ad (o2) (X) (Y) (K) (((m : Nat) : Int)) (((n : Nat) : Int)) (q), tbC2 cI cL cZ ad (o2) (X) (Y) (K) (((m : Nat) : Int)) (((n : Nat) : Int)) (q), tbC3 cI cL cZ ad (o2) (X) (Y) (K) (((m : Nat) : Int)) (((n : Nat) : Int)) (q)]) (fun vv_ ww_ => ∃ (A2 : Nat → Int), ∃ (B2 : Nat → Int), ∃ (C2 : Nat → Int), ∃ (T2 : Nat → Int), ∃ (W2 : Nat → Int), (PoolR X Y K n A2 B2 C2 T2 W2) ∧ (PoolT (cntK K n) A2 B2 C2 T2) ∧ vv_ = none ∧ ww_ = [ploC0 cI cL cZ ad (o) (((cntK K n : Nat) : Int)), i26C0 cI cL cZ ad (o + 1) (A2), i26C0 cI cL cZ ad (o + 2) (B2), i26C0 cI cL cZ ad (o + 3) (C2), i26C0 cI cL cZ ad (o + 4) (T2), i26C0 cI cL cZ ad (o + 5) (W2), tbC0 cI cL cZ ad (o2) (X) (Y) (K) (((m : Nat) : Int)) (((n : Nat) : Int)) (q), tbC1 cI cL cZ ad (o2) (X) (Y) (K) (((m : Nat) : Int)) (((n : Nat) : Int)) (q), tbC2 cI cL cZ ad (o2) (X) (Y) (K) (((m : Nat) : Int)) (((n : Nat) : Int)) (q), tbC3 cI cL cZ ad (o2) (X) (Y) (K) (((m : Nat) : Int)) (((n : Nat) : Int)) (q)]) := by
  refine Ct.of (by decide) (Nat.le_of_ble_eq_true rfl) (fun G hG => ?_)
  show G 0 [(0, .ref (ad (o))), (1, .ref (ad (o2)))] [] ([ploC0 cI cL cZ ad (o) (z), i26C0 cI cL cZ ad (o + 1) (A), i26C0 cI cL cZ ad (o + 2) (B), i26C0 cI cL cZ ad (o + 3) (C), i26C0 cI cL cZ ad (o + 4) (T), i26C0 cI cL cZ ad (o + 5) (W), tbC0 cI cL cZ ad (o2) (X) (Y) (K) (((m : Nat) : Int)) (((n : Nat) : Int)) (q), tbC1 cI cL cZ ad (o2) (X) (Y) (K) (((m : Nat) : Int)) (((n : Nat) : Int)) (q), tbC2 cI cL cZ ad (o2) (X) (Y) (K) (((m : Nat) : Int)) (((n : Nat) : Int)) (q), tbC3 cI cL cZ ad (o2) (X) (Y) (K) (((m : Nat) : Int)) (((n : Nat) : Int)) (q)])
  refine g_aload_n (pc := 0) hG 0 rfl dX6_fill_0 ?_
  refine g_iconst (pc := 1) hG dX6_fill_1 ?_
  refine g_put (pc := 2) hG fp6_27 0 rfl rfl rfl (Nat.le_of_ble_eq_true rfl) (ws' := [ploC0 cI cL cZ ad (o) (0), i26C0 cI cL cZ ad (o + 1) (A), i26C0 cI cL cZ ad (o + 2) (B), i26C0 cI cL cZ ad (o + 3) (C), i26C0 cI cL cZ ad (o + 4) (T), i26C0 cI cL cZ ad (o + 5) (W), tbC0 cI cL cZ ad (o2) (X) (Y) (K) (((m : Nat) : Int)) (((n : Nat) : Int)) (q), tbC1 cI cL cZ ad (o2) (X) (Y) (K) (((m : Nat) : Int)) (((n : Nat) : Int)) (q), tbC2 cI cL cZ ad (o2) (X) (Y) (K) (((m : Nat) : Int)) (((n : Nat) : Int)) (q), tbC3 cI cL cZ ad (o2) (X) (Y) (K) (((m : Nat) : Int)) (((n : Nat) : Int)) (q)]) rfl dX6_fill_2 ?_
  refine g_iconst (pc := 5) hG dX6_fill_5 ?_
  refine g_istore_n (pc := 6) hG (by decide) (lv' := [(2, iV (0)), (0, .ref (ad (o))), (1, .ref (ad (o2)))]) rfl dX6_fill_6 ?_
  have L7 : ∀ (fu7 : Nat) (r : Nat) (a9 : Nat → Int) (b9 : Nat → Int) (c9 : Nat → Int) (t9 : Nat → Int) (w9 : Nat → Int) (z9 : Nat), n - r < fu7 → (r ≤ n) → (z9 = cntK K r) → (PoolR X Y K r a9 b9 c9 t9 w9) → G 7 [(0, .ref (ad (o))), (1, .ref (ad (o2))), (2, iV (((r : Nat) : Int)))] [] ([ploC0 cI cL cZ ad (o) (((z9 : Nat) : Int)), i26C0 cI cL cZ ad (o + 1) (a9), i26C0 cI cL cZ ad (o + 2) (b9), i26C0 cI cL cZ ad (o + 3) (c9), i26C0 cI cL cZ ad (o + 4) (t9), i26C0 cI cL cZ ad (o + 5) (w9), tbC0 cI cL cZ ad (o2) (X) (Y) (K) (((m : Nat) : Int)) (((n : Nat) : Int)) (q), tbC1 cI cL cZ ad (o2) (X) (Y) (K) (((m : Nat) : Int)) (((n : Nat) : Int)) (q), tbC2 cI cL cZ ad (o2) (X) (Y) (K) (((m : Nat) : Int)) (((n : Nat) : Int)) (q), tbC3 cI cL cZ ad (o2) (X) (Y) (K) (((m : Nat) : Int)) (((n : Nat) : Int)) (q)]) := by
    intro fu7
    induction fu7 with
    | zero => intro r a9 b9 c9 t9 w9 z9 hm; exact absurd hm (Nat.not_lt_zero _)
    | succ fu7 ih7 =>
      intro r a9 b9 c9 t9 w9 z9 hm7 hr hz hp
      have hcz := cnt_le K r
      refine g_iload_n (pc := 7) hG 2 rfl dX6_fill_7 ?_
      refine g_aload_n (pc := 8) hG 1 rfl dX6_fill_8 ?_
      refine g_get (pc := 9) hG fl6_31 6 rfl rfl dX6_fill_9 ?_
      refine g_icmp_ge (pc := 12) hG (by omega) (by omega) (tgt := 91) (by decide) dX6_fill_12 (fun h12 => ?_) (fun h12 => ?_)
      · refine g_aload_n (pc := 91) hG 0 rfl dX6_fill_91 ?_
        refine g_aload_n (pc := 92) hG 0 rfl dX6_fill_92 ?_
        refine g_get (pc := 93) hG fl6_27 0 rfl rfl dX6_fill_93 ?_
        refine g_iconst (pc := 96) hG dX6_fill_96 ?_
        refine g_iconst (pc := 97) hG dX6_fill_97 ?_
        refine g_iconst (pc := 98) hG dX6_fill_98 ?_
        refine g_callV (pc := 99) hG (As := [iV (((z9 : Nat) : Int)), iV (0), iV (0), iV (1)]) (rest := []) (c_X6_put (l := l) (D := D) (cI := cI) (cL := cL) (cZ := cZ) (cX := cX) (cG := cG) ad o a9 b9 c9 (((z9 : Nat) : Int)) z9 0 0 1 (by omega)) (Sp.sel [0, 1, 2, 3] rfl (by decide)) cv6_44 ⟨rfl, rfl⟩ ⟨Nat.le_of_ble_eq_true rfl, Nat.le_of_ble_eq_true rfl⟩ 0 rfl rfl rfl rfl (Nat.le_of_ble_eq_true rfl) dX6_fill_99 (fun v w1 h => ?_)
        obtain ⟨rfl, rfl⟩ := h
        show G 102 [(0, .ref (ad (o))), (1, .ref (ad (o2))), (2, iV (((r : Nat) : Int)))] [] ([ploC0 cI cL cZ ad (o) (((z9 : Nat) : Int)), i26C0 cI cL cZ ad (o + 1) (upZ a9 z9 0), i26C0 cI cL cZ ad (o + 2) (upZ b9 z9 0), i26C0 cI cL cZ ad (o + 3) (upZ c9 z9 1), i26C0 cI cL cZ ad (o + 4) (t9), i26C0 cI cL cZ ad (o + 5) (w9), tbC0 cI cL cZ ad (o2) (X) (Y) (K) (((m : Nat) : Int)) (((n : Nat) : Int)) (q), tbC1 cI cL cZ ad (o2) (X) (Y) (K) (((m : Nat) : Int)) (((n : Nat) : Int)) (q), tbC2 cI cL cZ ad (o2) (X) (Y) (K) (((m : Nat) : Int)) (((n : Nat) : Int)) (q), tbC3 cI cL cZ ad (o2) (X) (Y) (K) (((m : Nat) : Int)) (((n : Nat) : Int)) (q)])
        refine g_aload_n (pc := 102) hG 0 rfl dX6_fill_102 ?_
        refine g_aload_n (pc := 103) hG 0 rfl dX6_fill_103 ?_
        refine g_get (pc := 104) hG fl6_27 0 rfl rfl dX6_fill_104 ?_
        refine g_iconst (pc := 107) hG dX6_fill_107 ?_
        refine g_iadd (pc := 108) hG dX6_fill_108 ?_
        refine g_iconst (pc := 109) hG dX6_fill_109 ?_
        refine g_iconst (pc := 110) hG dX6_fill_110 ?_
        refine g_iconst (pc := 111) hG dX6_fill_111 ?_
        refine g_callV (pc := 112) hG (As := [iV ((((z9 : Nat) : Int)) + 1), iV (0), iV (1), iV (0)]) (rest := []) (c_X6_put (l := l) (D := D) (cI := cI) (cL := cL) (cZ := cZ) (cX := cX) (cG := cG) ad o (upZ a9 z9 0) (upZ b9 z9 0) (upZ c9 z9 1) (((z9 : Nat) : Int)) (z9 + 1) 0 1 0 (by omega)) (Sp.sel [0, 1, 2, 3] rfl (by decide)) cv6_44 ⟨rfl, rfl⟩ ⟨Nat.le_of_ble_eq_true rfl, Nat.le_of_ble_eq_true rfl⟩ 0 rfl rfl rfl rfl (Nat.le_of_ble_eq_true rfl) dX6_fill_112 (fun v w1 h => ?_)
        obtain ⟨rfl, rfl⟩ := h
        show G 115 [(0, .ref (ad (o))), (1, .ref (ad (o2))), (2, iV (((r : Nat) : Int)))] [] ([ploC0 cI cL cZ ad (o) (((z9 : Nat) : Int)), i26C0 cI cL cZ ad (o + 1) (upZ (upZ a9 z9 0) (z9 + 1) 0), i26C0 cI cL cZ ad (o + 2) (upZ (upZ b9 z9 0) (z9 + 1) 1), i26C0 cI cL cZ ad (o + 3) (upZ (upZ c9 z9 1) (z9 + 1) 0), i26C0 cI cL cZ ad (o + 4) (t9), i26C0 cI cL cZ ad (o + 5) (w9), tbC0 cI cL cZ ad (o2) (X) (Y) (K) (((m : Nat) : Int)) (((n : Nat) : Int)) (q), tbC1 cI cL cZ ad (o2) (X) (Y) (K) (((m : Nat) : Int)) (((n : Nat) : Int)) (q), tbC2 cI cL cZ ad (o2) (X) (Y) (K) (((m : Nat) : Int)) (((n : Nat) : Int)) (q), tbC3 cI cL cZ ad (o2) (X) (Y) (K) (((m : Nat) : Int)) (((n : Nat) : Int)) (q)])
        refine g_aload_n (pc := 115) hG 0 rfl dX6_fill_115 ?_
        refine g_get (pc := 116) hG fl6_21 0 rfl rfl dX6_fill_116 ?_
        refine g_aload_n (pc := 119) hG 0 rfl dX6_fill_119 ?_
        refine g_get (pc := 120) hG fl6_27 0 rfl rfl dX6_fill_120 ?_
        refine g_iconst (pc := 123) hG dX6_fill_123 ?_
        refine g_iastore (pc := 124) hG 4 z9 rfl rfl (by omega) (by omega) (by decide) (ws' := [ploC0 cI cL cZ ad (o) (((z9 : Nat) : Int)), i26C0 cI cL cZ ad (o + 1) (upZ (upZ a9 z9 0) (z9 + 1) 0), i26C0 cI cL cZ ad (o + 2) (upZ (upZ b9 z9 0) (z9 + 1) 1), i26C0 cI cL cZ ad (o + 3) (upZ (upZ c9 z9 1) (z9 + 1) 0), i26C0 cI cL cZ ad (o + 4) (upZ t9 z9 0), i26C0 cI cL cZ ad (o + 5) (w9), tbC0 cI cL cZ ad (o2) (X) (Y) (K) (((m : Nat) : Int)) (((n : Nat) : Int)) (q), tbC1 cI cL cZ ad (o2) (X) (Y) (K) (((m : Nat) : Int)) (((n : Nat) : Int)) (q), tbC2 cI cL cZ ad (o2) (X) (Y) (K) (((m : Nat) : Int)) (((n : Nat) : Int)) (q), tbC3 cI cL cZ ad (o2) (X) (Y) (K) (((m : Nat) : Int)) (((n : Nat) : Int)) (q)]) rfl dX6_fill_124 ?_
        refine g_aload_n (pc := 125) hG 0 rfl dX6_fill_125 ?_
        refine g_get (pc := 126) hG fl6_21 0 rfl rfl dX6_fill_126 ?_
        refine g_aload_n (pc := 129) hG 0 rfl dX6_fill_129 ?_
        refine g_get (pc := 130) hG fl6_27 0 rfl rfl dX6_fill_130 ?_
        refine g_iconst (pc := 133) hG dX6_fill_133 ?_
        refine g_iadd (pc := 134) hG dX6_fill_134 ?_
        refine g_iconst (pc := 135) hG dX6_fill_135 ?_
        refine g_iastore (pc := 136) hG 4 (z9 + 1) rfl rfl (by omega) (by omega) (by decide) (ws' := [ploC0 cI cL cZ ad (o) (((z9 : Nat) : Int)), i26C0 cI cL cZ ad (o + 1) (upZ (upZ a9 z9 0) (z9 + 1) 0), i26C0 cI cL cZ ad (o + 2) (upZ (upZ b9 z9 0) (z9 + 1) 1), i26C0 cI cL cZ ad (o + 3) (upZ (upZ c9 z9 1) (z9 + 1) 0), i26C0 cI cL cZ ad (o + 4) (upZ (upZ t9 z9 0) (z9 + 1) 0), i26C0 cI cL cZ ad (o + 5) (w9), tbC0 cI cL cZ ad (o2) (X) (Y) (K) (((m : Nat) : Int)) (((n : Nat) : Int)) (q), tbC1 cI cL cZ ad (o2) (X) (Y) (K) (((m : Nat) : Int)) (((n : Nat) : Int)) (q), tbC2 cI cL cZ ad (o2) (X) (Y) (K) (((m : Nat) : Int)) (((n : Nat) : Int)) (q), tbC3 cI cL cZ ad (o2) (X) (Y) (K) (((m : Nat) : Int)) (((n : Nat) : Int)) (q)]) rfl dX6_fill_136 ?_
        exact g_return (pc := 137) hG ⟨upZ (upZ a9 z9 0) (z9 + 1) 0, upZ (upZ b9 z9 0) (z9 + 1) 1, upZ (upZ c9 z9 1) (z9 + 1) 0, upZ (upZ t9 z9 0) (z9 + 1) 0, w9, hp.tie hz (by omega), by subst hz; (have e : r = n := by omega); subst e; exact PoolT.of, rfl, by subst hz; (have e : r = n := by omega); subst e; rfl⟩ dX6_fill_137
      · refine g_aload_n (pc := 15) hG 1 rfl dX6_fill_15 ?_
        refine g_get (pc := 16) hG fl6_36 6 rfl rfl dX6_fill_16 ?_
        refine g_iload_n (pc := 19) hG 2 rfl dX6_fill_19 ?_
        refine g_baload (pc := 20) hG 9 r rfl rfl (by omega) (by omega) (by decide) dX6_fill_20 ?_
        have J85 : ∀ (j85plo0z : Nat) (j85i261f : Nat → Int) (j85i262f : Nat → Int) (j85i263f : Nat → Int) (j85i264f : Nat → Int) (j85i265f : Nat → Int), ((((K r) = false) ∧ j85plo0z = z9 ∧ j85i261f = a9 ∧ j85i262f = b9 ∧ j85i263f = c9 ∧ j85i264f = t9 ∧ j85i265f = w9) ∨ (((K r) = true) ∧ j85plo0z = z9 + 1 ∧ j85i261f = upZ a9 z9 (X (r * 3 + 0)) ∧ j85i262f = upZ b9 z9 (X (r * 3 + 1)) ∧ j85i263f = upZ c9 z9 (X (r * 3 + 2)) ∧ j85i264f = upZ t9 z9 (Y r) ∧ j85i265f = upZ w9 z9 (((r : Nat) : Int)))) → G 85 [(0, .ref (ad (o))), (1, .ref (ad (o2))), (2, iV (((r : Nat) : Int)))] [] ([ploC0 cI cL cZ ad (o) (((j85plo0z : Nat) : Int)), i26C0 cI cL cZ ad (o + 1) (j85i261f), i26C0 cI cL cZ ad (o + 2) (j85i262f), i26C0 cI cL cZ ad (o + 3) (j85i263f), i26C0 cI cL cZ ad (o + 4) (j85i264f), i26C0 cI cL cZ ad (o + 5) (j85i265f), tbC0 cI cL cZ ad (o2) (X) (Y) (K) (((m : Nat) : Int)) (((n : Nat) : Int)) (q), tbC1 cI cL cZ ad (o2) (X) (Y) (K) (((m : Nat) : Int)) (((n : Nat) : Int)) (q), tbC2 cI cL cZ ad (o2) (X) (Y) (K) (((m : Nat) : Int)) (((n : Nat) : Int)) (q), tbC3 cI cL cZ ad (o2) (X) (Y) (K) (((m : Nat) : Int)) (((n : Nat) : Int)) (q)]) := by
          intro j85plo0z j85i261f j85i262f j85i263f j85i264f j85i265f k85
          refine g_iinc (pc := 85) hG 2 rfl (by decide) (lv' := [(2, iV ((((r : Nat) : Int)) + 1)), (0, .ref (ad (o))), (1, .ref (ad (o2)))]) rfl dX6_fill_85 ?_
          refine g_goto (pc := 88) hG (tgt := 7) (by decide) dX6_fill_88 ?_
          exact g_lv (pc := 7) hG [1, 2, 0] rfl (ih7 (r + 1) j85i261f j85i262f j85i263f j85i264f j85i265f j85plo0z (by omega) (by omega) (cnt_step hz (by rcases k85 with h | h; exact Or.inl ⟨h.1, by simp_all⟩; exact Or.inr ⟨h.1, by simp_all⟩)) (hp.step hz (by rcases k85 with h | h; exact Or.inl ⟨h.1, by simp_all⟩; exact Or.inr ⟨h.1, by simp_all⟩)))
        refine g_ifb_eq (pc := 21) hG (tgt := 85) (by decide) dX6_fill_21 (fun h21 => ?_) (fun h21 => ?_)
        · exact g_lv (pc := 85) hG [0, 1, 2] rfl (J85 z9 a9 b9 c9 t9 w9 (Or.inl ⟨h21, rfl, rfl, rfl, rfl, rfl, rfl⟩))
        · refine g_aload_n (pc := 24) hG 0 rfl dX6_fill_24 ?_
          refine g_aload_n (pc := 25) hG 0 rfl dX6_fill_25 ?_
          refine g_get (pc := 26) hG fl6_27 0 rfl rfl dX6_fill_26 ?_
          refine g_aload_n (pc := 29) hG 1 rfl dX6_fill_29 ?_
          refine g_iload_n (pc := 30) hG 2 rfl dX6_fill_30 ?_
          refine g_iconst (pc := 31) hG dX6_fill_31 ?_
          refine g_callV (pc := 32) hG (As := [iV (((r : Nat) : Int)), iV (0)]) (rest := [iV (((z9 : Nat) : Int)), .ref (ad (o))]) (c_X9_number (l := l) (D := D) (cI := cI) (cL := cL) (cZ := cZ) (cX := cX) (cG := cG) ad o2 X Y K m n q r 0 (by omega) (by omega)) (Sp.sel [6, 7, 8, 9] rfl (by decide)) cv6_40 ⟨rfl, rfl⟩ ⟨Nat.le_of_ble_eq_true rfl, Nat.le_of_ble_eq_true rfl⟩ 6 rfl rfl rfl rfl (Nat.le_of_ble_eq_true rfl) dX6_fill_32 (fun v w1 h => ?_)
          obtain ⟨rfl, rfl⟩ := h
          show G 35 [(0, .ref (ad (o))), (1, .ref (ad (o2))), (2, iV (((r : Nat) : Int)))] [iV (X (r * 3 + 0)), iV (((z9 : Nat) : Int)), .ref (ad (o))] ([ploC0 cI cL cZ ad (o) (((z9 : Nat) : Int)), i26C0 cI cL cZ ad (o + 1) (a9), i26C0 cI cL cZ ad (o + 2) (b9), i26C0 cI cL cZ ad (o + 3) (c9), i26C0 cI cL cZ ad (o + 4) (t9), i26C0 cI cL cZ ad (o + 5) (w9), tbC0 cI cL cZ ad (o2) (X) (Y) (K) (((m : Nat) : Int)) (((n : Nat) : Int)) (q), tbC1 cI cL cZ ad (o2) (X) (Y) (K) (((m : Nat) : Int)) (((n : Nat) : Int)) (q), tbC2 cI cL cZ ad (o2) (X) (Y) (K) (((m : Nat) : Int)) (((n : Nat) : Int)) (q), tbC3 cI cL cZ ad (o2) (X) (Y) (K) (((m : Nat) : Int)) (((n : Nat) : Int)) (q)])
          refine g_aload_n (pc := 35) hG 1 rfl dX6_fill_35 ?_
          refine g_iload_n (pc := 36) hG 2 rfl dX6_fill_36 ?_
          refine g_iconst (pc := 37) hG dX6_fill_37 ?_
          refine g_callV (pc := 38) hG (As := [iV (((r : Nat) : Int)), iV (1)]) (rest := [iV (X (r * 3 + 0)), iV (((z9 : Nat) : Int)), .ref (ad (o))]) (c_X9_number (l := l) (D := D) (cI := cI) (cL := cL) (cZ := cZ) (cX := cX) (cG := cG) ad o2 X Y K m n q r 1 (by omega) (by omega)) (Sp.sel [6, 7, 8, 9] rfl (by decide)) cv6_40 ⟨rfl, rfl⟩ ⟨Nat.le_of_ble_eq_true rfl, Nat.le_of_ble_eq_true rfl⟩ 6 rfl rfl rfl rfl (Nat.le_of_ble_eq_true rfl) dX6_fill_38 (fun v w1 h => ?_)
          obtain ⟨rfl, rfl⟩ := h
          show G 41 [(0, .ref (ad (o))), (1, .ref (ad (o2))), (2, iV (((r : Nat) : Int)))] [iV (X (r * 3 + 1)), iV (X (r * 3 + 0)), iV (((z9 : Nat) : Int)), .ref (ad (o))] ([ploC0 cI cL cZ ad (o) (((z9 : Nat) : Int)), i26C0 cI cL cZ ad (o + 1) (a9), i26C0 cI cL cZ ad (o + 2) (b9), i26C0 cI cL cZ ad (o + 3) (c9), i26C0 cI cL cZ ad (o + 4) (t9), i26C0 cI cL cZ ad (o + 5) (w9), tbC0 cI cL cZ ad (o2) (X) (Y) (K) (((m : Nat) : Int)) (((n : Nat) : Int)) (q), tbC1 cI cL cZ ad (o2) (X) (Y) (K) (((m : Nat) : Int)) (((n : Nat) : Int)) (q), tbC2 cI cL cZ ad (o2) (X) (Y) (K) (((m : Nat) : Int)) (((n : Nat) : Int)) (q), tbC3 cI cL cZ ad (o2) (X) (Y) (K) (((m : Nat) : Int)) (((n : Nat) : Int)) (q)])
          refine g_aload_n (pc := 41) hG 1 rfl dX6_fill_41 ?_
          refine g_iload_n (pc := 42) hG 2 rfl dX6_fill_42 ?_
          refine g_iconst (pc := 43) hG dX6_fill_43 ?_
          refine g_callV (pc := 44) hG (As := [iV (((r : Nat) : Int)), iV (2)]) (rest := [iV (X (r * 3 + 1)), iV (X (r * 3 + 0)), iV (((z9 : Nat) : Int)), .ref (ad (o))]) (c_X9_number (l := l) (D := D) (cI := cI) (cL := cL) (cZ := cZ) (cX := cX) (cG := cG) ad o2 X Y K m n q r 2 (by omega) (by omega)) (Sp.sel [6, 7, 8, 9] rfl (by decide)) cv6_40 ⟨rfl, rfl⟩ ⟨Nat.le_of_ble_eq_true rfl, Nat.le_of_ble_eq_true rfl⟩ 6 rfl rfl rfl rfl (Nat.le_of_ble_eq_true rfl) dX6_fill_44 (fun v w1 h => ?_)
          obtain ⟨rfl, rfl⟩ := h
          show G 47 [(0, .ref (ad (o))), (1, .ref (ad (o2))), (2, iV (((r : Nat) : Int)))] [iV (X (r * 3 + 2)), iV (X (r * 3 + 1)), iV (X (r * 3 + 0)), iV (((z9 : Nat) : Int)), .ref (ad (o))] ([ploC0 cI cL cZ ad (o) (((z9 : Nat) : Int)), i26C0 cI cL cZ ad (o + 1) (a9), i26C0 cI cL cZ ad (o + 2) (b9), i26C0 cI cL cZ ad (o + 3) (c9), i26C0 cI cL cZ ad (o + 4) (t9), i26C0 cI cL cZ ad (o + 5) (w9), tbC0 cI cL cZ ad (o2) (X) (Y) (K) (((m : Nat) : Int)) (((n : Nat) : Int)) (q), tbC1 cI cL cZ ad (o2) (X) (Y) (K) (((m : Nat) : Int)) (((n : Nat) : Int)) (q), tbC2 cI cL cZ ad (o2) (X) (Y) (K) (((m : Nat) : Int)) (((n : Nat) : Int)) (q), tbC3 cI cL cZ ad (o2) (X) (Y) (K) (((m : Nat) : Int)) (((n : Nat) : Int)) (q)])
          refine g_callV (pc := 47) hG (As := [iV (((z9 : Nat) : Int)), iV (X (r * 3 + 0)), iV (X (r * 3 + 1)), iV (X (r * 3 + 2))]) (rest := []) (c_X6_put (l := l) (D := D) (cI := cI) (cL := cL) (cZ := cZ) (cX := cX) (cG := cG) ad o a9 b9 c9 (((z9 : Nat) : Int)) z9 (X (r * 3 + 0)) (X (r * 3 + 1)) (X (r * 3 + 2)) (by omega)) (Sp.sel [0, 1, 2, 3] rfl (by decide)) cv6_44 ⟨rfl, rfl⟩ ⟨Nat.le_of_ble_eq_true rfl, Nat.le_of_ble_eq_true rfl⟩ 0 rfl rfl rfl rfl (Nat.le_of_ble_eq_true rfl) dX6_fill_47 (fun v w1 h => ?_)
          obtain ⟨rfl, rfl⟩ := h
          show G 50 [(0, .ref (ad (o))), (1, .ref (ad (o2))), (2, iV (((r : Nat) : Int)))] [] ([ploC0 cI cL cZ ad (o) (((z9 : Nat) : Int)), i26C0 cI cL cZ ad (o + 1) (upZ a9 z9 (X (r * 3 + 0))), i26C0 cI cL cZ ad (o + 2) (upZ b9 z9 (X (r * 3 + 1))), i26C0 cI cL cZ ad (o + 3) (upZ c9 z9 (X (r * 3 + 2))), i26C0 cI cL cZ ad (o + 4) (t9), i26C0 cI cL cZ ad (o + 5) (w9), tbC0 cI cL cZ ad (o2) (X) (Y) (K) (((m : Nat) : Int)) (((n : Nat) : Int)) (q), tbC1 cI cL cZ ad (o2) (X) (Y) (K) (((m : Nat) : Int)) (((n : Nat) : Int)) (q), tbC2 cI cL cZ ad (o2) (X) (Y) (K) (((m : Nat) : Int)) (((n : Nat) : Int)) (q), tbC3 cI cL cZ ad (o2) (X) (Y) (K) (((m : Nat) : Int)) (((n : Nat) : Int)) (q)])
          refine g_aload_n (pc := 50) hG 0 rfl dX6_fill_50 ?_
          refine g_get (pc := 51) hG fl6_21 0 rfl rfl dX6_fill_51 ?_
          refine g_aload_n (pc := 54) hG 0 rfl dX6_fill_54 ?_
          refine g_get (pc := 55) hG fl6_27 0 rfl rfl dX6_fill_55 ?_
          refine g_aload_n (pc := 58) hG 1 rfl dX6_fill_58 ?_
          refine g_get (pc := 59) hG fl6_48 6 rfl rfl dX6_fill_59 ?_
          refine g_iload_n (pc := 62) hG 2 rfl dX6_fill_62 ?_
          refine g_iaload (pc := 63) hG 8 r rfl rfl (by omega) (by omega) (by decide) dX6_fill_63 ?_
          refine g_iastore (pc := 64) hG 4 z9 rfl rfl (by omega) (by omega) (by decide) (ws' := [ploC0 cI cL cZ ad (o) (((z9 : Nat) : Int)), i26C0 cI cL cZ ad (o + 1) (upZ a9 z9 (X (r * 3 + 0))), i26C0 cI cL cZ ad (o + 2) (upZ b9 z9 (X (r * 3 + 1))), i26C0 cI cL cZ ad (o + 3) (upZ c9 z9 (X (r * 3 + 2))), i26C0 cI cL cZ ad (o + 4) (upZ t9 z9 (Y r)), i26C0 cI cL cZ ad (o + 5) (w9), tbC0 cI cL cZ ad (o2) (X) (Y) (K) (((m : Nat) : Int)) (((n : Nat) : Int)) (q), tbC1 cI cL cZ ad (o2) (X) (Y) (K) (((m : Nat) : Int)) (((n : Nat) : Int)) (q), tbC2 cI cL cZ ad (o2) (X) (Y) (K) (((m : Nat) : Int)) (((n : Nat) : Int)) (q), tbC3 cI cL cZ ad (o2) (X) (Y) (K) (((m : Nat) : Int)) (((n : Nat) : Int)) (q)]) rfl dX6_fill_64 ?_
          refine g_aload_n (pc := 65) hG 0 rfl dX6_fill_65 ?_
          refine g_get (pc := 66) hG fl6_24 0 rfl rfl dX6_fill_66 ?_
          refine g_aload_n (pc := 69) hG 0 rfl dX6_fill_69 ?_
          refine g_get (pc := 70) hG fl6_27 0 rfl rfl dX6_fill_70 ?_
          refine g_iload_n (pc := 73) hG 2 rfl dX6_fill_73 ?_
          refine g_iastore (pc := 74) hG 5 z9 rfl rfl (by omega) (by omega) (by decide) (ws' := [ploC0 cI cL cZ ad (o) (((z9 : Nat) : Int)), i26C0 cI cL cZ ad (o + 1) (upZ a9 z9 (X (r * 3 + 0))), i26C0 cI cL cZ ad (o + 2) (upZ b9 z9 (X (r * 3 + 1))), i26C0 cI cL cZ ad (o + 3) (upZ c9 z9 (X (r * 3 + 2))), i26C0 cI cL cZ ad (o + 4) (upZ t9 z9 (Y r)), i26C0 cI cL cZ ad (o + 5) (upZ w9 z9 (((r : Nat) : Int))), tbC0 cI cL cZ ad (o2) (X) (Y) (K) (((m : Nat) : Int)) (((n : Nat) : Int)) (q), tbC1 cI cL cZ ad (o2) (X) (Y) (K) (((m : Nat) : Int)) (((n : Nat) : Int)) (q), tbC2 cI cL cZ ad (o2) (X) (Y) (K) (((m : Nat) : Int)) (((n : Nat) : Int)) (q), tbC3 cI cL cZ ad (o2) (X) (Y) (K) (((m : Nat) : Int)) (((n : Nat) : Int)) (q)]) rfl dX6_fill_74 ?_
          refine g_aload_n (pc := 75) hG 0 rfl dX6_fill_75 ?_
          refine g_dup (pc := 76) hG rfl dX6_fill_76 ?_
          refine g_get (pc := 77) hG fl6_27 0 rfl rfl dX6_fill_77 ?_
          refine g_iconst (pc := 80) hG dX6_fill_80 ?_
          refine g_iadd (pc := 81) hG dX6_fill_81 ?_
          refine g_put (pc := 82) hG fp6_27 0 rfl rfl rfl (Nat.le_of_ble_eq_true rfl) (ws' := [ploC0 cI cL cZ ad (o) (((z9 + 1 : Nat) : Int)), i26C0 cI cL cZ ad (o + 1) (upZ a9 z9 (X (r * 3 + 0))), i26C0 cI cL cZ ad (o + 2) (upZ b9 z9 (X (r * 3 + 1))), i26C0 cI cL cZ ad (o + 3) (upZ c9 z9 (X (r * 3 + 2))), i26C0 cI cL cZ ad (o + 4) (upZ t9 z9 (Y r)), i26C0 cI cL cZ ad (o + 5) (upZ w9 z9 (((r : Nat) : Int))), tbC0 cI cL cZ ad (o2) (X) (Y) (K) (((m : Nat) : Int)) (((n : Nat) : Int)) (q), tbC1 cI cL cZ ad (o2) (X) (Y) (K) (((m : Nat) : Int)) (((n : Nat) : Int)) (q), tbC2 cI cL cZ ad (o2) (X) (Y) (K) (((m : Nat) : Int)) (((n : Nat) : Int)) (q), tbC3 cI cL cZ ad (o2) (X) (Y) (K) (((m : Nat) : Int)) (((n : Nat) : Int)) (q)]) rfl dX6_fill_82 ?_
          exact g_lv (pc := 85) hG [0, 1, 2] rfl (J85 (z9 + 1) (upZ a9 z9 (X (r * 3 + 0))) (upZ b9 z9 (X (r * 3 + 1))) (upZ c9 z9 (X (r * 3 + 2))) (upZ t9 z9 (Y r)) (upZ w9 z9 (((r : Nat) : Int))) (Or.inr (⟨h21, rfl, rfl, rfl, rfl, rfl, rfl⟩)))
  exact g_lv (pc := 7) hG [1, 2, 0] rfl (L7 _ 0 A B C T W 0 (Nat.lt_succ_self _) (by omega) (rfl) (PoolR.init))
set_option maxHeartbeats 4000000 in
set_option maxRecDepth 100000 in
theorem c_X5_begin {l : Launch} {D : va_G} {cI cL cZ cX cG : ClassId} (ad : Nat → Nat) (o : Nat) (p : Nat → Int) (k : Int) (z : Int) (a : Int) (b : Int) (ha : InI a) (hb : InI b) : Ct l D (gT cI cL cZ cX cG) yX5_begin cX5_begin 4 (some .boolean) ({ frames := 0, cells := 0, slots := 0, locals := 0 }) [.ref (ad (o)), iV (a), iV (b)] ([pkoC0 cI cL cZ ad (o) (k) (z), i10C0 cI cL cZ ad (o + 1) (p)]) (fun vv_ ww_ => ∃ (v : Bool), ∃ (p2 : Nat → Int), ∃ (k2 : Int), ∃ (z2 : Int), ((v = false ∧ ¬ (0 ≤ a ∧ a ≤ b ∧ a ≤ 10)) ∨ (v = true ∧ (0 ≤ a ∧ a ≤ b ∧ a ≤ 10) ∧ k2 = a ∧ z2 = b ∧ ∀ i : Nat, (i : Int) < a → p2 i = i)) ∧ vv_ = some (bV (v)) ∧ ww_ = [pkoC0 cI cL cZ ad (o) (k2) (z2), i10C0 cI cL cZ ad (o + 1) (p2)]) := by
  refine Ct.of (by decide) (Nat.le_of_ble_eq_true rfl) (fun G hG => ?_)
  show G 0 [(0, .ref (ad (o))), (1, iV (a)), (2, iV (b))] [] ([pkoC0 cI cL cZ ad (o) (k) (z), i10C0 cI cL cZ ad (o + 1) (p)])
  refine g_iload_n (pc := 0) hG 1 rfl dX5_begin_0 ?_
  have J18 : ∀ (_ : Unit), (((a < 0)) ∨ ((¬ a < 0) ∧ (b < a)) ∨ ((¬ a < 0) ∧ (¬ b < a) ∧ (¬ a ≤ 10))) → G 18 [(0, .ref (ad (o))), (1, iV (a)), (2, iV (b))] [] ([pkoC0 cI cL cZ ad (o) (k) (z), i10C0 cI cL cZ ad (o + 1) (p)]) := by
    intro _ k18
    refine g_iconst (pc := 18) hG dX5_begin_18 ?_
    exact g_zreturn (pc := 19) hG (false) rfl ⟨false, p, k, z, Or.inl ⟨rfl, by omega⟩, rfl, rfl⟩ dX5_begin_19
  refine g_if_lt (pc := 1) hG (by omega) (tgt := 18) (by decide) dX5_begin_1 (fun h1 => ?_) (fun h1 => ?_)
  · exact g_lv (pc := 18) hG [0, 1, 2] rfl (J18 () (Or.inl (h1)))
  · refine g_iload_n (pc := 4) hG 1 rfl dX5_begin_4 ?_
    refine g_iload_n (pc := 5) hG 2 rfl dX5_begin_5 ?_
    refine g_icmp_gt (pc := 6) hG (by omega) (by omega) (tgt := 18) (by decide) dX5_begin_6 (fun h6 => ?_) (fun h6 => ?_)
    · exact g_lv (pc := 18) hG [0, 1, 2] rfl (J18 () (Or.inr (Or.inl ⟨h1, h6⟩)))
    · refine g_iload_n (pc := 9) hG 1 rfl dX5_begin_9 ?_
      refine g_aload_n (pc := 10) hG 0 rfl dX5_begin_10 ?_
      refine g_get (pc := 11) hG fl5_9 0 rfl rfl dX5_begin_11 ?_
      refine g_arraylength (pc := 14) hG 1 0 rfl rfl (z := 10) rfl dX5_begin_14 ?_
      refine g_icmp_le (pc := 15) hG (by omega) (by omega) (tgt := 20) (by decide) dX5_begin_15 (fun h15 => ?_) (fun h15 => ?_)
      · refine g_aload_n (pc := 20) hG 0 rfl dX5_begin_20 ?_
        refine g_iload_n (pc := 21) hG 1 rfl dX5_begin_21 ?_
        refine g_put (pc := 22) hG fp5_15 0 rfl rfl rfl (Nat.le_of_ble_eq_true rfl) (ws' := [pkoC0 cI cL cZ ad (o) (a) (z), i10C0 cI cL cZ ad (o + 1) (p)]) rfl dX5_begin_22 ?_
        refine g_aload_n (pc := 25) hG 0 rfl dX5_begin_25 ?_
        refine g_iload_n (pc := 26) hG 2 rfl dX5_begin_26 ?_
        refine g_put (pc := 27) hG fp5_19 0 rfl rfl rfl (Nat.le_of_ble_eq_true rfl) (ws' := [pkoC0 cI cL cZ ad (o) (a) (b), i10C0 cI cL cZ ad (o + 1) (p)]) rfl dX5_begin_27 ?_
        refine g_iconst (pc := 30) hG dX5_begin_30 ?_
        refine g_istore_n (pc := 31) hG (by decide) (lv' := [(3, iV (0)), (0, .ref (ad (o))), (1, iV (a)), (2, iV (b))]) rfl dX5_begin_31 ?_
        have L32 : ∀ (fu32 : Nat) (i : Nat) (p9 : Nat → Int), (a - i).toNat < fu32 → ((i : Int) ≤ a) → (∀ j : Nat, j < i → p9 j = j) → G 32 [(0, .ref (ad (o))), (1, iV (a)), (2, iV (b)), (3, iV (((i : Nat) : Int)))] [] ([pkoC0 cI cL cZ ad (o) (a) (b), i10C0 cI cL cZ ad (o + 1) (p9)]) := by
          intro fu32
          induction fu32 with
          | zero => intro i p9 hm; exact absurd hm (Nat.not_lt_zero _)
          | succ fu32 ih32 =>
            intro i p9 hm32 hi h9
            refine g_iload_n (pc := 32) hG 3 rfl dX5_begin_32 ?_
            refine g_aload_n (pc := 33) hG 0 rfl dX5_begin_33 ?_
            refine g_get (pc := 34) hG fl5_15 0 rfl rfl dX5_begin_34 ?_
            refine g_icmp_ge (pc := 37) hG (by omega) (by omega) (tgt := 53) (by decide) dX5_begin_37 (fun h37 => ?_) (fun h37 => ?_)
            · refine g_iconst (pc := 53) hG dX5_begin_53 ?_
              exact g_zreturn (pc := 54) hG (true) rfl ⟨true, p9, a, b, Or.inr ⟨rfl, by omega, rfl, rfl, fun i h => h9 i (by omega)⟩, rfl, rfl⟩ dX5_begin_54
            · refine g_aload_n (pc := 40) hG 0 rfl dX5_begin_40 ?_
              refine g_get (pc := 41) hG fl5_9 0 rfl rfl dX5_begin_41 ?_
              refine g_iload_n (pc := 44) hG 3 rfl dX5_begin_44 ?_
              refine g_iload_n (pc := 45) hG 3 rfl dX5_begin_45 ?_
              refine g_iastore (pc := 46) hG 1 i rfl rfl (by omega) (by omega) (by decide) (ws' := [pkoC0 cI cL cZ ad (o) (a) (b), i10C0 cI cL cZ ad (o + 1) (upZ p9 i (((i : Nat) : Int)))]) rfl dX5_begin_46 ?_
              refine g_iinc (pc := 47) hG 3 rfl (by decide) (lv' := [(3, iV ((((i : Nat) : Int)) + 1)), (0, .ref (ad (o))), (1, iV (a)), (2, iV (b))]) rfl dX5_begin_47 ?_
              refine g_goto (pc := 50) hG (tgt := 32) (by decide) dX5_begin_50 ?_
              exact g_lv (pc := 32) hG [1, 2, 3, 0] rfl (ih32 (i + 1) (upZ p9 i (((i : Nat) : Int))) (by omega) (by omega) (fill_step (g := fun j => (j : Int)) h9 rfl))
        exact g_lv (pc := 32) hG [1, 2, 3, 0] rfl (L32 _ 0 p (Nat.lt_succ_self _) (by omega) (fun j h => absurd h (Nat.not_lt_zero _)))
      · exact g_lv (pc := 18) hG [0, 1, 2] rfl (J18 () (Or.inr (Or.inr (⟨h1, h6, h15⟩))))
set_option maxHeartbeats 4000000 in
set_option maxRecDepth 100000 in
theorem c_X5_placeOf {l : Launch} {D : va_G} {cI cL cZ cX cG : ClassId} (ad : Nat → Nat) (o : Nat) (p : Nat → Int) (k : Nat) (z : Nat) (i : Nat) (hk : k ≤ 10) (hz : z ≤ 100) (hi : i ≤ 10) : Ct l D (gT cI cL cZ cX cG) yX5_placeOf cX5_placeOf 2 (some .int) ({ frames := 0, cells := 0, slots := 0, locals := 0 }) [.ref (ad (o)), iV (((i : Nat) : Int))] ([pkoC0 cI cL cZ ad (o) (((k : Nat) : Int)) (((z : Nat) : Int)), i10C0 cI cL cZ ad (o + 1) (p)]) (fun vv_ ww_ => vv_ = some (iV (if i < k then p i else ((z : Int) + i - k))) ∧ ww_ = [pkoC0 cI cL cZ ad (o) (((k : Nat) : Int)) (((z : Nat) : Int)), i10C0 cI cL cZ ad (o + 1) (p)]) := by
  refine Ct.of (by decide) (Nat.le_of_ble_eq_true rfl) (fun G hG => ?_)
  show G 0 [(0, .ref (ad (o))), (1, iV (((i : Nat) : Int)))] [] ([pkoC0 cI cL cZ ad (o) (((k : Nat) : Int)) (((z : Nat) : Int)), i10C0 cI cL cZ ad (o + 1) (p)])
  refine g_iload_n (pc := 0) hG 1 rfl dX5_placeOf_0 ?_
  refine g_aload_n (pc := 1) hG 0 rfl dX5_placeOf_1 ?_
  refine g_get (pc := 2) hG fl5_15 0 rfl rfl dX5_placeOf_2 ?_
  have J28 : ∀ (j28s0 : Int), (((((k : Nat) : Int) ≤ ((i : Nat) : Int)) ∧ j28s0 = ((((z : Nat) : Int)) + (((i : Nat) : Int))) - (((k : Nat) : Int))) ∨ ((¬ ((k : Nat) : Int) ≤ ((i : Nat) : Int)) ∧ j28s0 = p i)) → G 28 [(0, .ref (ad (o))), (1, iV (((i : Nat) : Int)))] [iV (j28s0)] ([pkoC0 cI cL cZ ad (o) (((k : Nat) : Int)) (((z : Nat) : Int)), i10C0 cI cL cZ ad (o + 1) (p)]) := by
    intro j28s0 k28
    exact g_ireturn (pc := 28) hG ⟨sI (by split <;> omega), rfl⟩ dX5_placeOf_28
  refine g_icmp_ge (pc := 5) hG (by omega) (by omega) (tgt := 17) (by decide) dX5_placeOf_5 (fun h5 => ?_) (fun h5 => ?_)
  · refine g_aload_n (pc := 17) hG 0 rfl dX5_placeOf_17 ?_
    refine g_get (pc := 18) hG fl5_19 0 rfl rfl dX5_placeOf_18 ?_
    refine g_iload_n (pc := 21) hG 1 rfl dX5_placeOf_21 ?_
    refine g_iadd (pc := 22) hG dX5_placeOf_22 ?_
    refine g_aload_n (pc := 23) hG 0 rfl dX5_placeOf_23 ?_
    refine g_get (pc := 24) hG fl5_15 0 rfl rfl dX5_placeOf_24 ?_
    refine g_isub (pc := 27) hG dX5_placeOf_27 ?_
    exact g_lv (pc := 28) hG [0, 1] rfl (J28 (((((z : Nat) : Int)) + (((i : Nat) : Int))) - (((k : Nat) : Int))) (Or.inl ⟨h5, rfl⟩))
  · refine g_aload_n (pc := 8) hG 0 rfl dX5_placeOf_8 ?_
    refine g_get (pc := 9) hG fl5_9 0 rfl rfl dX5_placeOf_9 ?_
    refine g_iload_n (pc := 12) hG 1 rfl dX5_placeOf_12 ?_
    refine g_iaload (pc := 13) hG 1 i rfl rfl (by omega) (by omega) (by decide) dX5_placeOf_13 ?_
    refine g_goto (pc := 14) hG (tgt := 28) (by decide) dX5_placeOf_14 ?_
    exact g_lv (pc := 28) hG [0, 1] rfl (J28 (p i) (Or.inr (⟨h5, rfl⟩)))
set_option maxHeartbeats 4000000 in
set_option maxRecDepth 100000 in
theorem c_X5_advance {l : Launch} {D : va_G} {cI cL cZ cX cG : ClassId} (ad : Nat → Nat) (o : Nat) (p : Nat → Int) (k : Nat) (z : Nat) (hk : k ≤ 10 ∧ k ≤ z) (hz : z ≤ 100) (hp : ∀ i, i < k → 0 ≤ p i ∧ p i ≤ 1000) : Ct l D (gT cI cL cZ cX cG) yX5_advance cX5_advance 3 (some .boolean) ({ frames := 0, cells := 0, slots := 0, locals := 0 }) [.ref (ad (o))] ([pkoC0 cI cL cZ ad (o) (((k : Nat) : Int)) (((z : Nat) : Int)), i10C0 cI cL cZ ad (o + 1) (p)]) (fun vv_ ww_ => ∃ (v : Bool), ∃ (p2 : Nat → Int), (AdvR k z p v p2) ∧ vv_ = some (bV (v)) ∧ ww_ = [pkoC0 cI cL cZ ad (o) (((k : Nat) : Int)) (((z : Nat) : Int)), i10C0 cI cL cZ ad (o + 1) (p2)]) := by
  refine Ct.of (by decide) (Nat.le_of_ble_eq_true rfl) (fun G hG => ?_)
  show G 0 [(0, .ref (ad (o)))] [] ([pkoC0 cI cL cZ ad (o) (((k : Nat) : Int)) (((z : Nat) : Int)), i10C0 cI cL cZ ad (o + 1) (p)])
  refine g_aload_n (pc := 0) hG 0 rfl dX5_advance_0 ?_
  refine g_get (pc := 1) hG fl5_15 0 rfl rfl dX5_advance_1 ?_
  refine g_iconst (pc := 4) hG dX5_advance_4 ?_
  refine g_isub (pc := 5) hG dX5_advance_5 ?_
  refine g_nmI (pc := 6) hG (fun x6 ex6 => ?_)
  refine g_istore_n (pc := 6) hG (by decide) (lv' := [(1, iV (x6)), (0, .ref (ad (o)))]) rfl dX5_advance_6 ?_
  have L7 : ∀ (fu7 : Nat) (i : Int), (i + 1).toNat < fu7 → (-1 ≤ i ∧ i < k) → (∀ j : Nat, i < j → j < k → ¬ p j < (z : Int) - k + j) → G 7 [(0, .ref (ad (o))), (1, iV (i))] [] ([pkoC0 cI cL cZ ad (o) (((k : Nat) : Int)) (((z : Nat) : Int)), i10C0 cI cL cZ ad (o + 1) (p)]) := by
    intro fu7
    induction fu7 with
    | zero => intro i hm; exact absurd hm (Nat.not_lt_zero _)
    | succ fu7 ih7 =>
      intro i hm7 hi hn
      refine g_iload_n (pc := 7) hG 1 rfl dX5_advance_7 ?_
      refine g_if_lt (pc := 8) hG (by omega) (tgt := 83) (by decide) dX5_advance_8 (fun h8 => ?_) (fun h8 => ?_)
      · refine g_iconst (pc := 83) hG dX5_advance_83 ?_
        exact g_zreturn (pc := 84) hG (false) rfl ⟨false, p, Or.inl ⟨rfl, fun j hj => hn j (by omega) hj, rfl⟩, rfl, rfl⟩ dX5_advance_84
      · refine g_aload_n (pc := 11) hG 0 rfl dX5_advance_11 ?_
        refine g_get (pc := 12) hG fl5_9 0 rfl rfl dX5_advance_12 ?_
        refine g_iload_n (pc := 15) hG 1 rfl dX5_advance_15 ?_
        have hpi := hp (i.toNat) (by omega)
        refine g_iaload (pc := 16) hG 1 ((i).toNat) rfl rfl (by omega) (by omega) (by decide) dX5_advance_16 ?_
        refine g_aload_n (pc := 17) hG 0 rfl dX5_advance_17 ?_
        refine g_get (pc := 18) hG fl5_19 0 rfl rfl dX5_advance_18 ?_
        refine g_aload_n (pc := 21) hG 0 rfl dX5_advance_21 ?_
        refine g_get (pc := 22) hG fl5_15 0 rfl rfl dX5_advance_22 ?_
        refine g_isub (pc := 25) hG dX5_advance_25 ?_
        refine g_iload_n (pc := 26) hG 1 rfl dX5_advance_26 ?_
        refine g_iadd (pc := 27) hG dX5_advance_27 ?_
        refine g_icmp_ge (pc := 28) hG (by omega) (by omega) (tgt := 77) (by decide) dX5_advance_28 (fun h28 => ?_) (fun h28 => ?_)
        · refine g_iinc (pc := 77) hG 1 rfl (by decide) (lv' := [(1, iV (i + (-1))), (0, .ref (ad (o)))]) rfl dX5_advance_77 ?_
          refine g_goto (pc := 80) hG (tgt := 7) (by decide) dX5_advance_80 ?_
          exact g_lv (pc := 7) hG [1, 0] rfl (ih7 (i + (-1)) (by omega) (by omega) (fun j h1 h2 => by rcases Int.lt_or_le i j with h | h; exact hn j h h2; (have : j = i.toNat := by omega); subst this; omega))
        · refine g_aload_n (pc := 31) hG 0 rfl dX5_advance_31 ?_
          refine g_get (pc := 32) hG fl5_9 0 rfl rfl dX5_advance_32 ?_
          refine g_iload_n (pc := 35) hG 1 rfl dX5_advance_35 ?_
          refine g_dup2_11 (pc := 36) hG rfl rfl dX5_advance_36 ?_
          refine g_iaload (pc := 37) hG 1 ((i).toNat) rfl rfl (by omega) (by omega) (by decide) dX5_advance_37 ?_
          refine g_iconst (pc := 38) hG dX5_advance_38 ?_
          refine g_iadd (pc := 39) hG dX5_advance_39 ?_
          refine g_nmI (pc := 40) hG (fun x40 ex40 => ?_)
          refine g_iastore (pc := 40) hG 1 ((i).toNat) rfl rfl (by omega) (by omega) (by decide) (ws' := [pkoC0 cI cL cZ ad (o) (((k : Nat) : Int)) (((z : Nat) : Int)), i10C0 cI cL cZ ad (o + 1) (upZ p ((i).toNat) x40)]) rfl dX5_advance_40 ?_
          refine g_iload_n (pc := 41) hG 1 rfl dX5_advance_41 ?_
          refine g_iconst (pc := 42) hG dX5_advance_42 ?_
          refine g_iadd (pc := 43) hG dX5_advance_43 ?_
          refine g_nmI (pc := 44) hG (fun x44 ex44 => ?_)
          refine g_istore_n (pc := 44) hG (by decide) (lv' := [(2, iV (x44)), (0, .ref (ad (o))), (1, iV (i))]) rfl dX5_advance_44 ?_
          have L45 : ∀ (fu45 : Nat) (j : Int) (p9 : Nat → Int), ((k : Int) - j).toNat < fu45 → (i + 1 ≤ j ∧ j ≤ k) → (AdvI p (i.toNat) (j.toNat) p9) → G 45 [(0, .ref (ad (o))), (1, iV (i)), (2, iV (j))] [] ([pkoC0 cI cL cZ ad (o) (((k : Nat) : Int)) (((z : Nat) : Int)), i10C0 cI cL cZ ad (o + 1) (p9)]) := by
            intro fu45
            induction fu45 with
            | zero => intro j p9 hm; exact absurd hm (Nat.not_lt_zero _)
            | succ fu45 ih45 =>
              intro j p9 hm45 hj h9
              refine g_iload_n (pc := 45) hG 2 rfl dX5_advance_45 ?_
              refine g_aload_n (pc := 46) hG 0 rfl dX5_advance_46 ?_
              refine g_get (pc := 47) hG fl5_15 0 rfl rfl dX5_advance_47 ?_
              refine g_icmp_ge (pc := 50) hG (by omega) (by omega) (tgt := 75) (by decide) dX5_advance_50 (fun h50 => ?_) (fun h50 => ?_)
              · refine g_iconst (pc := 75) hG dX5_advance_75 ?_
                exact g_zreturn (pc := 76) hG (true) rfl ⟨true, p9, Or.inr ⟨rfl, h9.out (i := i) (by omega) (by omega) (by omega) hn (by omega)⟩, rfl, rfl⟩ dX5_advance_76
              · refine g_aload_n (pc := 53) hG 0 rfl dX5_advance_53 ?_
                refine g_get (pc := 54) hG fl5_9 0 rfl rfl dX5_advance_54 ?_
                refine g_iload_n (pc := 57) hG 2 rfl dX5_advance_57 ?_
                refine g_aload_n (pc := 58) hG 0 rfl dX5_advance_58 ?_
                refine g_get (pc := 59) hG fl5_9 0 rfl rfl dX5_advance_59 ?_
                refine g_iload_n (pc := 62) hG 2 rfl dX5_advance_62 ?_
                refine g_iconst (pc := 63) hG dX5_advance_63 ?_
                refine g_isub (pc := 64) hG dX5_advance_64 ?_
                refine g_iaload (pc := 65) hG 1 ((j - 1).toNat) rfl rfl (by omega) (by omega) (by decide) dX5_advance_65 ?_
                refine g_iconst (pc := 66) hG dX5_advance_66 ?_
                refine g_iadd (pc := 67) hG dX5_advance_67 ?_
                refine g_nmI (pc := 68) hG (fun x68 ex68 => ?_)
                refine g_iastore (pc := 68) hG 1 ((j).toNat) rfl rfl (by omega) (by omega) (by decide) (ws' := [pkoC0 cI cL cZ ad (o) (((k : Nat) : Int)) (((z : Nat) : Int)), i10C0 cI cL cZ ad (o + 1) (upZ p9 ((j).toNat) x68)]) rfl dX5_advance_68 ?_
                refine g_iinc (pc := 69) hG 2 rfl (by decide) (lv' := [(2, iV (j + 1)), (0, .ref (ad (o))), (1, iV (i))]) rfl dX5_advance_69 ?_
                refine g_goto (pc := 72) hG (tgt := 45) (by decide) dX5_advance_72 ?_
                exact g_lv (pc := 45) hG [1, 2, 0] rfl (ih45 (j + 1) (upZ p9 ((j).toNat) x68) (by omega) (by omega) (h9.step (by omega) (by omega) (by omega) (by assumption)))
          exact g_lv (pc := 45) hG [1, 2, 0] rfl (L45 _ x44 (upZ p ((i).toNat) x40) (Nat.lt_succ_self _) (by omega) (AdvI.init (by omega) (by assumption)))
  exact g_lv (pc := 7) hG [1, 0] rfl (L7 _ x6 (Nat.lt_succ_self _) (by omega) (fun j h1 h2 => by omega))
