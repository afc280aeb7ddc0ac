abbrev gboC0 (cI cL cZ : ClassId) (ad : Nat → Nat) (o : Nat) (ks : Bool) (kp : Bool) (kz : Bool) (kl : Bool) (kt : Bool) (kh : Int) : Nat × va_E := (ad o, ob 9 [.ref (ad (o + 1)), .ref (ad (o + 5)), .ref (ad (o + 11)), .ref (ad (o + 13)), .ref (ad (o + 18)), .ref (ad (o + 23)), .ref (ad (o + 24)), .ref (ad (o + 25)), .ref (ad (o + 27)), .ref (ad (o + 29)), .ref (ad (o + 42)), .ref (ad (o + 45)), .ref (ad (o + 46)), bV ks, bV kp, bV kz, bV kl, bV kt, iV kh])
set_option maxHeartbeats 4000000 in
set_option maxRecDepth 100000 in
theorem c_X10_forget {l : Launch} {D : va_G} {cI cL cZ cX cG : ClassId} (ad : Nat → Nat) (ks : Bool) (kp : Bool) (kz : Bool) (kl : Bool) (kt : Bool) (kh : Int)  : Ct l D (gT cI cL cZ cX cG) yX10_forget cX10_forget 1 none ({ frames := 0, cells := 0, slots := 0, locals := 0 }) [.ref (ad (0))] ([gboC0 cI cL cZ ad (0) (ks) (kp) (kz) (kl) (kt) (kh)]) (fun vv_ ww_ => vv_ = none ∧ ww_ = [gboC0 cI cL cZ ad (0) (false) (false) (false) (false) (false) (-1)]) := by
  refine Ct.of (by decide) (Nat.le_of_ble_eq_true rfl) (fun G hG => ?_)
  show G 0 [(0, .ref (ad (0)))] [] ([gboC0 cI cL cZ ad (0) (ks) (kp) (kz) (kl) (kt) (kh)])
  refine g_aload_n (pc := 0) hG 0 rfl dX10_forget_0 ?_
  refine g_iconst (pc := 1) hG dX10_forget_1 ?_
  refine g_val (pc := 2) hG (show iV 0 = bV false from rfl) ?_
  refine g_put (pc := 2) hG fp10_261 0 rfl (bI_n _) (bI_fit _) (Nat.le_of_ble_eq_true rfl) (ws' := [gboC0 cI cL cZ ad (0) (false) (kp) (kz) (kl) (kt) (kh)]) rfl dX10_forget_2 ?_
  refine g_aload_n (pc := 5) hG 0 rfl dX10_forget_5 ?_
  refine g_iconst (pc := 6) hG dX10_forget_6 ?_
  refine g_val (pc := 7) hG (show iV 0 = bV false from rfl) ?_
  refine g_put (pc := 7) hG fp10_264 0 rfl (bI_n _) (bI_fit _) (Nat.le_of_ble_eq_true rfl) (ws' := [gboC0 cI cL cZ ad (0) (false) (false) (kz) (kl) (kt) (kh)]) rfl dX10_forget_7 ?_
  refine g_aload_n (pc := 10) hG 0 rfl dX10_forget_10 ?_
  refine g_iconst (pc := 11) hG dX10_forget_11 ?_
  refine g_val (pc := 12) hG (show iV 0 = bV false from rfl) ?_
  refine g_put (pc := 12) hG fp10_267 0 rfl (bI_n _) (bI_fit _) (Nat.le_of_ble_eq_true rfl) (ws' := [gboC0 cI cL cZ ad (0) (false) (false) (false) (kl) (kt) (kh)]) rfl dX10_forget_12 ?_
  refine g_aload_n (pc := 15) hG 0 rfl dX10_forget_15 ?_
  refine g_iconst (pc := 16) hG dX10_forget_16 ?_
  refine g_val (pc := 17) hG (show iV 0 = bV false from rfl) ?_
  refine g_put (pc := 17) hG fp10_216 0 rfl (bI_n _) (bI_fit _) (Nat.le_of_ble_eq_true rfl) (ws' := [gboC0 cI cL cZ ad (0) (false) (false) (false) (false) (kt) (kh)]) rfl dX10_forget_17 ?_
  refine g_aload_n (pc := 20) hG 0 rfl dX10_forget_20 ?_
  refine g_iconst (pc := 21) hG dX10_forget_21 ?_
  refine g_val (pc := 22) hG (show iV 0 = bV false from rfl) ?_
  refine g_put (pc := 22) hG fp10_270 0 rfl (bI_n _) (bI_fit _) (Nat.le_of_ble_eq_true rfl) (ws' := [gboC0 cI cL cZ ad (0) (false) (false) (false) (false) (false) (kh)]) rfl dX10_forget_22 ?_
  refine g_aload_n (pc := 25) hG 0 rfl dX10_forget_25 ?_
  refine g_iconst (pc := 26) hG dX10_forget_26 ?_
  refine g_put (pc := 27) hG fp10_85 0 rfl rfl rfl (Nat.le_of_ble_eq_true rfl) (ws' := [gboC0 cI cL cZ ad (0) (false) (false) (false) (false) (false) (-1)]) rfl dX10_forget_27 ?_
  exact g_return (pc := 30) hG ⟨rfl, rfl⟩ dX10_forget_30
set_option maxHeartbeats 4000000 in
set_option maxRecDepth 100000 in
theorem c_X10_isBar {l : Launch} {D : va_G} {cI cL cZ cX cG : ClassId} (b : Int) (hb : InI b) : Ct l D (gT cI cL cZ cX cG) yX10_isBar cX10_isBar 1 (some .boolean) ({ frames := 0, cells := 0, slots := 0, locals := 0 }) [iV (b)] ([]) (fun vv_ ww_ => vv_ = some (bV (decide (0 ≤ b ∧ b ≤ 50000))) ∧ ww_ = []) := by
  refine Ct.of (by decide) (Nat.le_of_ble_eq_true rfl) (fun G hG => ?_)
  show G 0 [(0, iV (b))] [] ([])
  refine g_iload_n (pc := 0) hG 0 rfl dX10_isBar_0 ?_
  have J16 : ∀ (j16s0 : Bool), (((b < 0) ∧ j16s0 = false) ∨ ((¬ b < 0) ∧ (50000 < b) ∧ j16s0 = false) ∨ ((¬ b < 0) ∧ (¬ 50000 < b) ∧ j16s0 = true)) → G 16 [(0, iV (b))] [bV (j16s0)] ([]) := by
    intro j16s0 k16
    exact g_zreturn (pc := 16) hG (j16s0) rfl ⟨sB (by grind), rfl⟩ dX10_isBar_16
  refine g_if_lt (pc := 1) hG (by omega) (tgt := 15) (by decide) dX10_isBar_1 (fun h1 => ?_) (fun h1 => ?_)
  · refine g_iconst (pc := 15) hG dX10_isBar_15 ?_
    exact g_lv (pc := 16) hG [0] rfl (J16 false (Or.inl ⟨h1, rfl⟩))
  · refine g_iload_n (pc := 4) hG 0 rfl dX10_isBar_4 ?_
    refine g_ldcw (z := 50000) (pc := 5) hG (v := 50000) (inB wd_649 rfl) (by decide) dX10_isBar_5 ?_
    refine g_icmp_gt (pc := 8) hG (by omega) (by omega) (tgt := 15) (by decide) dX10_isBar_8 (fun h8 => ?_) (fun h8 => ?_)
    · refine g_iconst (pc := 15) hG dX10_isBar_15 ?_
      exact g_lv (pc := 16) hG [0] rfl (J16 false (Or.inr (Or.inl ⟨h1, h8, rfl⟩)))
    · refine g_iconst (pc := 11) hG dX10_isBar_11 ?_
      refine g_goto (pc := 12) hG (tgt := 16) (by decide) dX10_isBar_12 ?_
      exact g_lv (pc := 16) hG [0] rfl (J16 true (Or.inr (Or.inr (⟨h1, h8, rfl⟩))))
set_option maxHeartbeats 4000000 in
set_option maxRecDepth 100000 in
theorem c_X10_start {l : Launch} {D : va_G} {cI cL cZ cX cG : ClassId} (ad : Nat → Nat) (ks : Bool) (kp : Bool) (kz : Bool) (kl : Bool) (kt : Bool) (kh : Int) (X : Nat → Int) (Y : Nat → Int) (K : Nat → Bool) (m : Nat) (n : Nat) (q : Int) (c : Int) (hc : InI c) : Ct l D (gT cI cL cZ cX cG) yX10_start cX10_start 2 (some .boolean) ({ frames := 1, cells := 0, slots := 0, locals := 21 }) [.ref (ad (0)), iV (c)] ([gboC0 cI cL cZ ad (0) (ks) (kp) (kz) (kl) (kt) (kh), tbC0 cI cL cZ ad (1) (X) (Y) (K) (((m : Nat) : Int)) (((n : Nat) : Int)) (q), tbC1 cI cL cZ ad (1) (X) (Y) (K) (((m : Nat) : Int)) (((n : Nat) : Int)) (q), tbC2 cI cL cZ ad (1) (X) (Y) (K) (((m : Nat) : Int)) (((n : Nat) : Int)) (q), tbC3 cI cL cZ ad (1) (X) (Y) (K) (((m : Nat) : Int)) (((n : Nat) : Int)) (q)]) (fun vv_ ww_ => ∃ (v : Bool), ∃ (ks2 : Bool), ∃ (kp2 : Bool), ∃ (kz2 : Bool), ∃ (kl2 : Bool), ∃ (kt2 : Bool), ∃ (kh2 : Int), ∃ (m2 : Nat), ∃ (n2 : Nat), ∃ (q2 : Int), ((¬ (1 ≤ c ∧ c ≤ 3) ∧ v = false ∧ (ks2, kp2, kz2, kl2, kt2, kh2, m2, n2, q2) = (ks, kp, kz, kl, kt, kh, m, n, q)) ∨ ((1 ≤ c ∧ c ≤ 3) ∧ v = true ∧ (ks2, kp2, kz2, kl2, kt2, kh2, m2, n2, q2) = (false, false, false, false, false, -1, c.toNat, 0, 0))) ∧ vv_ = some (bV (v)) ∧ ww_ = [gboC0 cI cL cZ ad (0) (ks2) (kp2) (kz2) (kl2) (kt2) (kh2), tbC0 cI cL cZ ad (1) (X) (Y) (K) (((m2 : Nat) : Int)) (((n2 : Nat) : Int)) (q2), tbC1 cI cL cZ ad (1) (X) (Y) (K) (((m2 : Nat) : Int)) (((n2 : Nat) : Int)) (q2), tbC2 cI cL cZ ad (1) (X) (Y) (K) (((m2 : Nat) : Int)) (((n2 : Nat) : Int)) (q2), tbC3 cI cL cZ ad (1) (X) (Y) (K) (((m2 : Nat) : Int)) (((n2 : Nat) : Int)) (q2)]) := by
  refine Ct.of (by decide) (Nat.le_of_ble_eq_true rfl) (fun G hG => ?_)
  show G 0 [(0, .ref (ad (0))), (1, iV (c))] [] ([gboC0 cI cL cZ ad (0) (ks) (kp) (kz) (kl) (kt) (kh), tbC0 cI cL cZ ad (1) (X) (Y) (K) (((m : Nat) : Int)) (((n : Nat) : Int)) (q), tbC1 cI cL cZ ad (1) (X) (Y) (K) (((m : Nat) : Int)) (((n : Nat) : Int)) (q), tbC2 cI cL cZ ad (1) (X) (Y) (K) (((m : Nat) : Int)) (((n : Nat) : Int)) (q), tbC3 cI cL cZ ad (1) (X) (Y) (K) (((m : Nat) : Int)) (((n : Nat) : Int)) (q)])
  refine g_iload_n (pc := 0) hG 1 rfl dX10_start_0 ?_
  refine g_iconst (pc := 1) hG dX10_start_1 ?_
  have J10 : ∀ (_ : Unit), (((c < 1)) ∨ ((¬ c < 1) ∧ (¬ c ≤ 3))) → G 10 [(0, .ref (ad (0))), (1, iV (c))] [] ([gboC0 cI cL cZ ad (0) (ks) (kp) (kz) (kl) (kt) (kh), tbC0 cI cL cZ ad (1) (X) (Y) (K) (((m : Nat) : Int)) (((n : Nat) : Int)) (q), tbC1 cI cL cZ ad (1) (X) (Y) (K) (((m : Nat) : Int)) (((n : Nat) : Int)) (q), tbC2 cI cL cZ ad (1) (X) (Y) (K) (((m : Nat) : Int)) (((n : Nat) : Int)) (q), tbC3 cI cL cZ ad (1) (X) (Y) (K) (((m : Nat) : Int)) (((n : Nat) : Int)) (q)]) := by
    intro _ k10
    refine g_iconst (pc := 10) hG dX10_start_10 ?_
    exact g_zreturn (pc := 11) hG (false) rfl ⟨false, ks, kp, kz, kl, kt, kh, m, n, q, Or.inl ⟨by omega, rfl, rfl⟩, rfl, rfl⟩ dX10_start_11
  refine g_icmp_lt (pc := 2) hG (by omega) (by omega) (tgt := 10) (by decide) dX10_start_2 (fun h2 => ?_) (fun h2 => ?_)
  · exact g_lv (pc := 10) hG [0, 1] rfl (J10 () (Or.inl (h2)))
  · refine g_iload_n (pc := 5) hG 1 rfl dX10_start_5 ?_
    refine g_iconst (pc := 6) hG dX10_start_6 ?_
    refine g_icmp_le (pc := 7) hG (by omega) (by omega) (tgt := 12) (by decide) dX10_start_7 (fun h7 => ?_) (fun h7 => ?_)
    · refine g_aload_n (pc := 12) hG 0 rfl dX10_start_12 ?_
      refine g_get (pc := 13) hG fl10_10 0 rfl rfl dX10_start_13 ?_
      refine g_iload_n (pc := 16) hG 1 rfl dX10_start_16 ?_
      refine g_st (pc := 17) hG (st' := [iV (((c.toNat : Nat) : Int)), .ref (ad (1))]) (congrArg (fun z9 => [iV z9, .ref (ad (1))]) (show c = ((c.toNat : Nat) : Int) by omega)) ?_
      refine g_callV (pc := 17) hG (As := [iV (((c.toNat : Nat) : Int))]) (rest := []) (c_X9_clear (l := l) (D := D) (cI := cI) (cL := cL) (cZ := cZ) (cX := cX) (cG := cG) ad 1 X Y K m n q c.toNat ) (Sp.sel [1, 2, 3, 4] rfl (by decide)) cv10_89 ⟨rfl, rfl⟩ ⟨Nat.le_of_ble_eq_true rfl, Nat.le_of_ble_eq_true rfl⟩ 1 rfl rfl rfl rfl (Nat.le_of_ble_eq_true rfl) dX10_start_17 (fun v w1 h => ?_)
      obtain ⟨rfl, rfl⟩ := h
      show G 20 [(0, .ref (ad (0))), (1, iV (c))] [] ([gboC0 cI cL cZ ad (0) (ks) (kp) (kz) (kl) (kt) (kh), tbC0 cI cL cZ ad (1) (X) (Y) (K) (((c.toNat : Nat) : Int)) (0) (0), tbC1 cI cL cZ ad (1) (X) (Y) (K) (((c.toNat : Nat) : Int)) (0) (0), tbC2 cI cL cZ ad (1) (X) (Y) (K) (((c.toNat : Nat) : Int)) (0) (0), tbC3 cI cL cZ ad (1) (X) (Y) (K) (((c.toNat : Nat) : Int)) (0) (0)])
      refine g_aload_n (pc := 20) hG 0 rfl dX10_start_20 ?_
      refine g_callV (pc := 21) hG (As := []) (rest := []) (c_X10_forget (l := l) (D := D) (cI := cI) (cL := cL) (cZ := cZ) (cX := cX) (cG := cG) ad ks kp kz kl kt kh ) (Sp.sel [0] rfl (by decide)) cv10_93 ⟨rfl, rfl⟩ ⟨Nat.le_of_ble_eq_true rfl, Nat.le_of_ble_eq_true rfl⟩ 0 rfl rfl rfl rfl (Nat.le_of_ble_eq_true rfl) dX10_start_21 (fun v w1 h => ?_)
      obtain ⟨rfl, rfl⟩ := h
      show G 24 [(0, .ref (ad (0))), (1, iV (c))] [] ([gboC0 cI cL cZ ad (0) (false) (false) (false) (false) (false) (-1), tbC0 cI cL cZ ad (1) (X) (Y) (K) (((c.toNat : Nat) : Int)) (0) (0), tbC1 cI cL cZ ad (1) (X) (Y) (K) (((c.toNat : Nat) : Int)) (0) (0), tbC2 cI cL cZ ad (1) (X) (Y) (K) (((c.toNat : Nat) : Int)) (0) (0), tbC3 cI cL cZ ad (1) (X) (Y) (K) (((c.toNat : Nat) : Int)) (0) (0)])
      refine g_iconst (pc := 24) hG dX10_start_24 ?_
      exact g_zreturn (pc := 25) hG (true) rfl ⟨true, false, false, false, false, false, -1, c.toNat, 0, 0, Or.inr ⟨by omega, rfl, rfl⟩, rfl, rfl⟩ dX10_start_25
    · exact g_lv (pc := 10) hG [0, 1] rfl (J10 () (Or.inr (⟨h2, h7⟩)))
set_option maxHeartbeats 4000000 in
set_option maxRecDepth 100000 in
theorem c_X10_row {l : Launch} {D : va_G} {cI cL cZ cX cG : ClassId} (ad : Nat → Nat) (ks : Bool) (kp : Bool) (kz : Bool) (kl : Bool) (kt : Bool) (kh : Int) (X : Nat → Int) (Y : Nat → Int) (K : Nat → Bool) (m : Nat) (n : Nat) (q : Nat) (t : Int) (a : Int) (b : Int) (c : Int) (hm : 1 ≤ m ∧ m ≤ 3) (hn : n ≤ 24) (hq : q ≤ 24) (ht : InI t) (ha : InI a) (hb : InI b) (hc : InI c) : Ct l D (gT cI cL cZ cX cG) yX10_row cX10_row 6 (some .int) ({ frames := 2, cells := 0, slots := 0, locals := 49 }) [.ref (ad (0)), iV (t), iV (a), iV (b), iV (c)] ([gboC0 cI cL cZ ad (0) (ks) (kp) (kz) (kl) (kt) (kh), tbC0 cI cL cZ ad (1) (X) (Y) (K) (((m : Nat) : Int)) (((n : Nat) : Int)) (((q : Nat) : Int)), tbC1 cI cL cZ ad (1) (X) (Y) (K) (((m : Nat) : Int)) (((n : Nat) : Int)) (((q : Nat) : Int)), tbC2 cI cL cZ ad (1) (X) (Y) (K) (((m : Nat) : Int)) (((n : Nat) : Int)) (((q : Nat) : Int)), tbC3 cI cL cZ ad (1) (X) (Y) (K) (((m : Nat) : Int)) (((n : Nat) : Int)) (((q : Nat) : Int))]) (fun vv_ ww_ => ∃ (v2 : Int), ∃ (ks2 : Bool), ∃ (kp2 : Bool), ∃ (kz2 : Bool), ∃ (kl2 : Bool), ∃ (kt2 : Bool), ∃ (kh2 : Int), ∃ (X2 : Nat → Int), ∃ (Y2 : Nat → Int), ∃ (K2 : Nat → Bool), ∃ (n2 : Nat), ∃ (q2 : Nat), (AddR X Y K m n q t a b c v2 X2 Y2 K2 n2 q2) ∧ ((v2 = -1 ∧ (ks2, kp2, kz2, kl2, kt2, kh2) = (ks, kp, kz, kl, kt, kh)) ∨ (¬ v2 = -1 ∧ (ks2, kp2, kz2, kl2, kt2, kh2) = (false, false, false, false, false, -1))) ∧ vv_ = some (iV (v2)) ∧ ww_ = [gboC0 cI cL cZ ad (0) (ks2) (kp2) (kz2) (kl2) (kt2) (kh2), tbC0 cI cL cZ ad (1) (X2) (Y2) (K2) (((m : Nat) : Int)) (((n2 : Nat) : Int)) (((q2 : Nat) : Int)), tbC1 cI cL cZ ad (1) (X2) (Y2) (K2) (((m : Nat) : Int)) (((n2 : Nat) : Int)) (((q2 : Nat) : Int)), tbC2 cI cL cZ ad (1) (X2) (Y2) (K2) (((m : Nat) : Int)) (((n2 : Nat) : Int)) (((q2 : Nat) : Int)), tbC3 cI cL cZ ad (1) (X2) (Y2) (K2) (((m : Nat) : Int)) (((n2 : Nat) : Int)) (((q2 : Nat) : Int))]) := by
  refine Ct.of (by decide) (Nat.le_of_ble_eq_true rfl) (fun G hG => ?_)
  show G 0 [(0, .ref (ad (0))), (1, iV (t)), (2, iV (a)), (3, iV (b)), (4, iV (c))] [] ([gboC0 cI cL cZ ad (0) (ks) (kp) (kz) (kl) (kt) (kh), tbC0 cI cL cZ ad (1) (X) (Y) (K) (((m : Nat) : Int)) (((n : Nat) : Int)) (((q : Nat) : Int)), tbC1 cI cL cZ ad (1) (X) (Y) (K) (((m : Nat) : Int)) (((n : Nat) : Int)) (((q : Nat) : Int)), tbC2 cI cL cZ ad (1) (X) (Y) (K) (((m : Nat) : Int)) (((n : Nat) : Int)) (((q : Nat) : Int)), tbC3 cI cL cZ ad (1) (X) (Y) (K) (((m : Nat) : Int)) (((n : Nat) : Int)) (((q : Nat) : Int))])
  refine g_aload_n (pc := 0) hG 0 rfl dX10_row_0 ?_
  refine g_get (pc := 1) hG fl10_10 0 rfl rfl dX10_row_1 ?_
  refine g_iload_n (pc := 4) hG 1 rfl dX10_row_4 ?_
  refine g_iload_n (pc := 5) hG 2 rfl dX10_row_5 ?_
  refine g_iload_n (pc := 6) hG 3 rfl dX10_row_6 ?_
  refine g_iload (pc := 7) hG 4 rfl dX10_row_7 ?_
  refine g_callV (pc := 9) hG (As := [iV (t), iV (a), iV (b), iV (c)]) (rest := []) (c_X9_add (l := l) (D := D) (cI := cI) (cL := cL) (cZ := cZ) (cX := cX) (cG := cG) ad 1 X Y K m n q t a b c (by omega) (by omega) (by omega) (by omega) (by omega) (by omega) (by omega)) (Sp.sel [1, 2, 3, 4] rfl (by decide)) cv10_96 ⟨rfl, rfl⟩ ⟨Nat.le_of_ble_eq_true rfl, Nat.le_of_ble_eq_true rfl⟩ 1 rfl rfl rfl rfl (Nat.le_of_ble_eq_true rfl) dX10_row_9 (fun v w1 h => ?_)
  obtain ⟨v2_9, X2_9, Y2_9, K2_9, n2_9, q2_9, hadd_9, rfl, rfl⟩ := h
  show G 12 [(0, .ref (ad (0))), (1, iV (t)), (2, iV (a)), (3, iV (b)), (4, iV (c))] [iV (v2_9)] ([gboC0 cI cL cZ ad (0) (ks) (kp) (kz) (kl) (kt) (kh), tbC0 cI cL cZ ad (1) (X2_9) (Y2_9) (K2_9) (((m : Nat) : Int)) (((n2_9 : Nat) : Int)) (((q2_9 : Nat) : Int)), tbC1 cI cL cZ ad (1) (X2_9) (Y2_9) (K2_9) (((m : Nat) : Int)) (((n2_9 : Nat) : Int)) (((q2_9 : Nat) : Int)), tbC2 cI cL cZ ad (1) (X2_9) (Y2_9) (K2_9) (((m : Nat) : Int)) (((n2_9 : Nat) : Int)) (((q2_9 : Nat) : Int)), tbC3 cI cL cZ ad (1) (X2_9) (Y2_9) (K2_9) (((m : Nat) : Int)) (((n2_9 : Nat) : Int)) (((q2_9 : Nat) : Int))])
  refine g_istore (pc := 12) hG (by decide) (lv' := [(5, iV (v2_9)), (0, .ref (ad (0))), (1, iV (t)), (2, iV (a)), (3, iV (b)), (4, iV (c))]) rfl dX10_row_12 ?_
  refine g_iload (pc := 14) hG 0 rfl dX10_row_14 ?_
  refine g_iconst (pc := 16) hG dX10_row_16 ?_
  have hv9 := AddR.v_in hadd_9 hn
  refine g_icmp_eq (pc := 17) hG (by omega) (by omega) (tgt := 24) (by decide) dX10_row_17 (fun h17 => ?_) (fun h17 => ?_)
  · refine g_iload (pc := 24) hG 0 rfl dX10_row_24 ?_
    exact g_ireturn (pc := 26) hG ⟨v2_9, ks, kp, kz, kl, kt, kh, X2_9, Y2_9, K2_9, n2_9, q2_9, hadd_9, by first | exact Or.inl ⟨h17, rfl⟩ | exact Or.inr ⟨h17, rfl⟩, rfl, rfl⟩ dX10_row_26
  · refine g_aload_n (pc := 20) hG 1 rfl dX10_row_20 ?_
    refine g_callV (pc := 21) hG (As := []) (rest := []) (c_X10_forget (l := l) (D := D) (cI := cI) (cL := cL) (cZ := cZ) (cX := cX) (cG := cG) ad ks kp kz kl kt kh ) (Sp.sel [0] rfl (by decide)) cv10_93 ⟨rfl, rfl⟩ ⟨Nat.le_of_ble_eq_true rfl, Nat.le_of_ble_eq_true rfl⟩ 0 rfl rfl rfl rfl (Nat.le_of_ble_eq_true rfl) dX10_row_21 (fun v w1 h => ?_)
    obtain ⟨rfl, rfl⟩ := h
    show G 24 [(5, iV (v2_9)), (0, .ref (ad (0))), (1, iV (t)), (2, iV (a)), (3, iV (b)), (4, iV (c))] [] ([gboC0 cI cL cZ ad (0) (false) (false) (false) (false) (false) (-1), tbC0 cI cL cZ ad (1) (X2_9) (Y2_9) (K2_9) (((m : Nat) : Int)) (((n2_9 : Nat) : Int)) (((q2_9 : Nat) : Int)), tbC1 cI cL cZ ad (1) (X2_9) (Y2_9) (K2_9) (((m : Nat) : Int)) (((n2_9 : Nat) : Int)) (((q2_9 : Nat) : Int)), tbC2 cI cL cZ ad (1) (X2_9) (Y2_9) (K2_9) (((m : Nat) : Int)) (((n2_9 : Nat) : Int)) (((q2_9 : Nat) : Int)), tbC3 cI cL cZ ad (1) (X2_9) (Y2_9) (K2_9) (((m : Nat) : Int)) (((n2_9 : Nat) : Int)) (((q2_9 : Nat) : Int))])
    refine g_iload (pc := 24) hG 0 rfl dX10_row_24 ?_
    exact g_ireturn (pc := 26) hG ⟨v2_9, false, false, false, false, false, -1, X2_9, Y2_9, K2_9, n2_9, q2_9, hadd_9, by first | exact Or.inl ⟨h17, rfl⟩ | exact Or.inr ⟨h17, rfl⟩, rfl, rfl⟩ dX10_row_26
set_option maxHeartbeats 4000000 in
set_option maxRecDepth 100000 in
theorem c_X10_set {l : Launch} {D : va_G} {cI cL cZ cX cG : ClassId} (ad : Nat → Nat) (ks : Bool) (kp : Bool) (kz : Bool) (kl : Bool) (kt : Bool) (kh : Int) (X : Nat → Int) (Y : Nat → Int) (K : Nat → Bool) (m : Nat) (n : Nat) (q : Int) (r : Int) (b : Bool) (hn : n ≤ 24) (hr : InI r) : Ct l D (gT cI cL cZ cX cG) yX10_set cX10_set 3 (some .boolean) ({ frames := 2, cells := 0, slots := 0, locals := 42 }) [.ref (ad (0)), iV (r), bV (b)] ([gboC0 cI cL cZ ad (0) (ks) (kp) (kz) (kl) (kt) (kh), tbC0 cI cL cZ ad (1) (X) (Y) (K) (((m : Nat) : Int)) (((n : Nat) : Int)) (q), tbC1 cI cL cZ ad (1) (X) (Y) (K) (((m : Nat) : Int)) (((n : Nat) : Int)) (q), tbC2 cI cL cZ ad (1) (X) (Y) (K) (((m : Nat) : Int)) (((n : Nat) : Int)) (q), tbC3 cI cL cZ ad (1) (X) (Y) (K) (((m : Nat) : Int)) (((n : Nat) : Int)) (q)]) (fun vv_ ww_ => ∃ (v : Bool), ∃ (ks2 : Bool), ∃ (kp2 : Bool), ∃ (kz2 : Bool), ∃ (kl2 : Bool), ∃ (kt2 : Bool), ∃ (kh2 : Int), ∃ (K2 : Nat → Bool), ∃ (q2 : Int), ((¬ ((0 ≤ r ∧ r < ((n : Nat) : Int)) ∧ ¬ K r.toNat = b) ∧ v = false ∧ (ks2, kp2, kz2, kl2, kt2, kh2) = (ks, kp, kz, kl, kt, kh) ∧ K2 = K ∧ q2 = q) ∨ (((0 ≤ r ∧ r < ((n : Nat) : Int)) ∧ ¬ K r.toNat = b) ∧ v = true ∧ (ks2, kp2, kz2, kl2, kt2, kh2) = (false, false, false, false, false, -1) ∧ K2 = upB K r.toNat b ∧ ((b = true ∧ q2 = q + 1) ∨ (b = false ∧ q2 = q - 1)))) ∧ vv_ = some (bV (v)) ∧ ww_ = [gboC0 cI cL cZ ad (0) (ks2) (kp2) (kz2) (kl2) (kt2) (kh2), tbC0 cI cL cZ ad (1) (X) (Y) (K2) (((m : Nat) : Int)) (((n : Nat) : Int)) (q2), tbC1 cI cL cZ ad (1) (X) (Y) (K2) (((m : Nat) : Int)) (((n : Nat) : Int)) (q2), tbC2 cI cL cZ ad (1) (X) (Y) (K2) (((m : Nat) : Int)) (((n : Nat) : Int)) (q2), tbC3 cI cL cZ ad (1) (X) (Y) (K2) (((m : Nat) : Int)) (((n : Nat) : Int)) (q2)]) := by
  refine Ct.of (by decide) (Nat.le_of_ble_eq_true rfl) (fun G hG => ?_)
  show G 0 [(0, .ref (ad (0))), (1, iV (r)), (2, bV (b))] [] ([gboC0 cI cL cZ ad (0) (ks) (kp) (kz) (kl) (kt) (kh), tbC0 cI cL cZ ad (1) (X) (Y) (K) (((m : Nat) : Int)) (((n : Nat) : Int)) (q), tbC1 cI cL cZ ad (1) (X) (Y) (K) (((m : Nat) : Int)) (((n : Nat) : Int)) (q), tbC2 cI cL cZ ad (1) (X) (Y) (K) (((m : Nat) : Int)) (((n : Nat) : Int)) (q), tbC3 cI cL cZ ad (1) (X) (Y) (K) (((m : Nat) : Int)) (((n : Nat) : Int)) (q)])
  refine g_aload_n (pc := 0) hG 0 rfl dX10_set_0 ?_
  refine g_get (pc := 1) hG fl10_10 0 rfl rfl dX10_set_1 ?_
  refine g_iload_n (pc := 4) hG 1 rfl dX10_set_4 ?_
  refine g_callV (pc := 5) hG (As := [iV (r)]) (rest := []) (c_X9_has (l := l) (D := D) (cI := cI) (cL := cL) (cZ := cZ) (cX := cX) (cG := cG) ad 1 X Y K m n q r (by omega) (by omega)) (Sp.sel [1, 2, 3, 4] rfl (by decide)) cv10_100 ⟨rfl, rfl⟩ ⟨Nat.le_of_ble_eq_true rfl, Nat.le_of_ble_eq_true rfl⟩ 1 rfl rfl rfl rfl (Nat.le_of_ble_eq_true rfl) dX10_set_5 (fun v w1 h => ?_)
  obtain ⟨rfl, rfl⟩ := h
  show G 8 [(0, .ref (ad (0))), (1, iV (r)), (2, bV (b))] [bV (decide (0 ≤ r ∧ r < ((n : Nat) : Int)))] ([gboC0 cI cL cZ ad (0) (ks) (kp) (kz) (kl) (kt) (kh), tbC0 cI cL cZ ad (1) (X) (Y) (K) (((m : Nat) : Int)) (((n : Nat) : Int)) (q), tbC1 cI cL cZ ad (1) (X) (Y) (K) (((m : Nat) : Int)) (((n : Nat) : Int)) (q), tbC2 cI cL cZ ad (1) (X) (Y) (K) (((m : Nat) : Int)) (((n : Nat) : Int)) (q), tbC3 cI cL cZ ad (1) (X) (Y) (K) (((m : Nat) : Int)) (((n : Nat) : Int)) (q)])
  have J23 : ∀ (_ : Unit), ((((decide (0 ≤ r ∧ r < ((n : Nat) : Int))) = false)) ∨ (((decide (0 ≤ r ∧ r < ((n : Nat) : Int))) = true) ∧ ((decide (0 ≤ r ∧ r < ((n : Nat) : Int)) && K (r.toNat)) = b))) → G 23 [(0, .ref (ad (0))), (1, iV (r)), (2, bV (b))] [] ([gboC0 cI cL cZ ad (0) (ks) (kp) (kz) (kl) (kt) (kh), tbC0 cI cL cZ ad (1) (X) (Y) (K) (((m : Nat) : Int)) (((n : Nat) : Int)) (q), tbC1 cI cL cZ ad (1) (X) (Y) (K) (((m : Nat) : Int)) (((n : Nat) : Int)) (q), tbC2 cI cL cZ ad (1) (X) (Y) (K) (((m : Nat) : Int)) (((n : Nat) : Int)) (q), tbC3 cI cL cZ ad (1) (X) (Y) (K) (((m : Nat) : Int)) (((n : Nat) : Int)) (q)]) := by
    intro _ k23
    refine g_iconst (pc := 23) hG dX10_set_23 ?_
    exact g_zreturn (pc := 24) hG (false) rfl ⟨false, ks, kp, kz, kl, kt, kh, K, q, Or.inl ⟨by grind, rfl, rfl, rfl, rfl⟩, rfl, rfl⟩ dX10_set_24
  refine g_ifb_eq (pc := 8) hG (tgt := 23) (by decide) dX10_set_8 (fun h8 => ?_) (fun h8 => ?_)
  · exact g_lv (pc := 23) hG [0, 1, 2] rfl (J23 () (Or.inl (h8)))
  · have hd8 := of_decide_eq_true h8
    refine g_aload_n (pc := 11) hG 0 rfl dX10_set_11 ?_
    refine g_get (pc := 12) hG fl10_10 0 rfl rfl dX10_set_12 ?_
    refine g_iload_n (pc := 15) hG 1 rfl dX10_set_15 ?_
    refine g_callV (pc := 16) hG (As := [iV (r)]) (rest := []) (c_X9_keeps (l := l) (D := D) (cI := cI) (cL := cL) (cZ := cZ) (cX := cX) (cG := cG) ad 1 X Y K m n q r (by omega) (by omega)) (Sp.sel [1, 2, 3, 4] rfl (by decide)) cv10_104 ⟨rfl, rfl⟩ ⟨Nat.le_of_ble_eq_true rfl, Nat.le_of_ble_eq_true rfl⟩ 1 rfl rfl rfl rfl (Nat.le_of_ble_eq_true rfl) dX10_set_16 (fun v w1 h => ?_)
    obtain ⟨rfl, rfl⟩ := h
    show G 19 [(0, .ref (ad (0))), (1, iV (r)), (2, bV (b))] [bV (decide (0 ≤ r ∧ r < ((n : Nat) : Int)) && K (r.toNat))] ([gboC0 cI cL cZ ad (0) (ks) (kp) (kz) (kl) (kt) (kh), tbC0 cI cL cZ ad (1) (X) (Y) (K) (((m : Nat) : Int)) (((n : Nat) : Int)) (q), tbC1 cI cL cZ ad (1) (X) (Y) (K) (((m : Nat) : Int)) (((n : Nat) : Int)) (q), tbC2 cI cL cZ ad (1) (X) (Y) (K) (((m : Nat) : Int)) (((n : Nat) : Int)) (q), tbC3 cI cL cZ ad (1) (X) (Y) (K) (((m : Nat) : Int)) (((n : Nat) : Int)) (q)])
    refine g_iload_n (pc := 19) hG 2 rfl dX10_set_19 ?_
    refine g_icmpb_ne (pc := 20) hG (tgt := 25) (by decide) dX10_set_20 (fun h20 => ?_) (fun h20 => ?_)
    · refine g_aload_n (pc := 25) hG 0 rfl dX10_set_25 ?_
      refine g_get (pc := 26) hG fl10_10 0 rfl rfl dX10_set_26 ?_
      refine g_iload_n (pc := 29) hG 1 rfl dX10_set_29 ?_
      refine g_iload_n (pc := 30) hG 2 rfl dX10_set_30 ?_
      refine g_st (pc := 31) hG (st' := [bV (b), iV (((r.toNat : Nat) : Int)), .ref (ad (1))]) (congrArg (fun z9 => [bV (b), iV z9, .ref (ad (1))]) (show r = ((r.toNat : Nat) : Int) by omega)) ?_
      refine g_callV (pc := 31) hG (As := [iV (((r.toNat : Nat) : Int)), bV (b)]) (rest := []) (c_X9_keep (l := l) (D := D) (cI := cI) (cL := cL) (cZ := cZ) (cX := cX) (cG := cG) ad 1 X Y K m n q r.toNat b (by omega)) (Sp.sel [1, 2, 3, 4] rfl (by decide)) cv10_107 ⟨rfl, rfl⟩ ⟨Nat.le_of_ble_eq_true rfl, Nat.le_of_ble_eq_true rfl⟩ 1 rfl rfl rfl rfl (Nat.le_of_ble_eq_true rfl) dX10_set_31 (fun v w1 h => ?_)
      obtain ⟨q2_31, hq_31, rfl, rfl⟩ := h
      show G 34 [(0, .ref (ad (0))), (1, iV (r)), (2, bV (b))] [] ([gboC0 cI cL cZ ad (0) (ks) (kp) (kz) (kl) (kt) (kh), tbC0 cI cL cZ ad (1) (X) (Y) (upB K r.toNat b) (((m : Nat) : Int)) (((n : Nat) : Int)) (q2_31), tbC1 cI cL cZ ad (1) (X) (Y) (upB K r.toNat b) (((m : Nat) : Int)) (((n : Nat) : Int)) (q2_31), tbC2 cI cL cZ ad (1) (X) (Y) (upB K r.toNat b) (((m : Nat) : Int)) (((n : Nat) : Int)) (q2_31), tbC3 cI cL cZ ad (1) (X) (Y) (upB K r.toNat b) (((m : Nat) : Int)) (((n : Nat) : Int)) (q2_31)])
      refine g_aload_n (pc := 34) hG 0 rfl dX10_set_34 ?_
      refine g_callV (pc := 35) hG (As := []) (rest := []) (c_X10_forget (l := l) (D := D) (cI := cI) (cL := cL) (cZ := cZ) (cX := cX) (cG := cG) ad ks kp kz kl kt kh ) (Sp.sel [0] rfl (by decide)) cv10_93 ⟨rfl, rfl⟩ ⟨Nat.le_of_ble_eq_true rfl, Nat.le_of_ble_eq_true rfl⟩ 0 rfl rfl rfl rfl (Nat.le_of_ble_eq_true rfl) dX10_set_35 (fun v w1 h => ?_)
      obtain ⟨rfl, rfl⟩ := h
      show G 38 [(0, .ref (ad (0))), (1, iV (r)), (2, bV (b))] [] ([gboC0 cI cL cZ ad (0) (false) (false) (false) (false) (false) (-1), tbC0 cI cL cZ ad (1) (X) (Y) (upB K r.toNat b) (((m : Nat) : Int)) (((n : Nat) : Int)) (q2_31), tbC1 cI cL cZ ad (1) (X) (Y) (upB K r.toNat b) (((m : Nat) : Int)) (((n : Nat) : Int)) (q2_31), tbC2 cI cL cZ ad (1) (X) (Y) (upB K r.toNat b) (((m : Nat) : Int)) (((n : Nat) : Int)) (q2_31), tbC3 cI cL cZ ad (1) (X) (Y) (upB K r.toNat b) (((m : Nat) : Int)) (((n : Nat) : Int)) (q2_31)])
      refine g_iconst (pc := 38) hG dX10_set_38 ?_
      exact g_zreturn (pc := 39) hG (true) rfl ⟨true, false, false, false, false, false, -1, upB K r.toNat b, q2_31, Or.inr ⟨⟨hd8, by rw [decide_eq_true hd8, Bool.true_and] at h20; exact h20⟩, rfl, rfl, rfl, hq_31⟩, rfl, rfl⟩ dX10_set_39
    · exact g_lv (pc := 23) hG [0, 1, 2] rfl (J23 () (Or.inr (⟨h8, h20⟩)))
set_option maxHeartbeats 4000000 in
set_option maxRecDepth 100000 in
theorem c_X10_at {l : Launch} {D : va_G} {cI cL cZ cX cG : ClassId} (ad : Nat → Nat) (ks : Bool) (kp : Bool) (kz : Bool) (kl : Bool) (kt : Bool) (kh : Int) (X : Nat → Int) (Y : Nat → Int) (K : Nat → Bool) (m : Nat) (n : Nat) (q : Int) (r : Int) (c : Int) (hn : n ≤ 24) (hm : m ≤ 3) (hr : InI r) (hc : InI c) : Ct l D (gT cI cL cZ cX cG) yX10_at cX10_at 3 (some .int) ({ frames := 1, cells := 0, slots := 0, locals := 22 }) [.ref (ad (0)), iV (r), iV (c)] ([gboC0 cI cL cZ ad (0) (ks) (kp) (kz) (kl) (kt) (kh), tbC0 cI cL cZ ad (1) (X) (Y) (K) (((m : Nat) : Int)) (((n : Nat) : Int)) (q), tbC1 cI cL cZ ad (1) (X) (Y) (K) (((m : Nat) : Int)) (((n : Nat) : Int)) (q), tbC2 cI cL cZ ad (1) (X) (Y) (K) (((m : Nat) : Int)) (((n : Nat) : Int)) (q), tbC3 cI cL cZ ad (1) (X) (Y) (K) (((m : Nat) : Int)) (((n : Nat) : Int)) (q)]) (fun vv_ ww_ => vv_ = some (iV (atZ X Y m n r c)) ∧ ww_ = [gboC0 cI cL cZ ad (0) (ks) (kp) (kz) (kl) (kt) (kh), tbC0 cI cL cZ ad (1) (X) (Y) (K) (((m : Nat) : Int)) (((n : Nat) : Int)) (q), tbC1 cI cL cZ ad (1) (X) (Y) (K) (((m : Nat) : Int)) (((n : Nat) : Int)) (q), tbC2 cI cL cZ ad (1) (X) (Y) (K) (((m : Nat) : Int)) (((n : Nat) : Int)) (q), tbC3 cI cL cZ ad (1) (X) (Y) (K) (((m : Nat) : Int)) (((n : Nat) : Int)) (q)]) := by
  refine Ct.of (by decide) (Nat.le_of_ble_eq_true rfl) (fun G hG => ?_)
  show G 0 [(0, .ref (ad (0))), (1, iV (r)), (2, iV (c))] [] ([gboC0 cI cL cZ ad (0) (ks) (kp) (kz) (kl) (kt) (kh), tbC0 cI cL cZ ad (1) (X) (Y) (K) (((m : Nat) : Int)) (((n : Nat) : Int)) (q), tbC1 cI cL cZ ad (1) (X) (Y) (K) (((m : Nat) : Int)) (((n : Nat) : Int)) (q), tbC2 cI cL cZ ad (1) (X) (Y) (K) (((m : Nat) : Int)) (((n : Nat) : Int)) (q), tbC3 cI cL cZ ad (1) (X) (Y) (K) (((m : Nat) : Int)) (((n : Nat) : Int)) (q)])
  refine g_aload_n (pc := 0) hG 0 rfl dX10_at_0 ?_
  refine g_get (pc := 1) hG fl10_10 0 rfl rfl dX10_at_1 ?_
  refine g_iload_n (pc := 4) hG 1 rfl dX10_at_4 ?_
  refine g_callV (pc := 5) hG (As := [iV (r)]) (rest := []) (c_X9_has (l := l) (D := D) (cI := cI) (cL := cL) (cZ := cZ) (cX := cX) (cG := cG) ad 1 X Y K m n q r (by omega) (by omega)) (Sp.sel [1, 2, 3, 4] rfl (by decide)) cv10_100 ⟨rfl, rfl⟩ ⟨Nat.le_of_ble_eq_true rfl, Nat.le_of_ble_eq_true rfl⟩ 1 rfl rfl rfl rfl (Nat.le_of_ble_eq_true rfl) dX10_at_5 (fun v w1 h => ?_)
  obtain ⟨rfl, rfl⟩ := h
  show G 8 [(0, .ref (ad (0))), (1, iV (r)), (2, iV (c))] [bV (decide (0 ≤ r ∧ r < ((n : Nat) : Int)))] ([gboC0 cI cL cZ ad (0) (ks) (kp) (kz) (kl) (kt) (kh), tbC0 cI cL cZ ad (1) (X) (Y) (K) (((m : Nat) : Int)) (((n : Nat) : Int)) (q), tbC1 cI cL cZ ad (1) (X) (Y) (K) (((m : Nat) : Int)) (((n : Nat) : Int)) (q), tbC2 cI cL cZ ad (1) (X) (Y) (K) (((m : Nat) : Int)) (((n : Nat) : Int)) (q), tbC3 cI cL cZ ad (1) (X) (Y) (K) (((m : Nat) : Int)) (((n : Nat) : Int)) (q)])
  refine g_ifb_ne (pc := 8) hG (tgt := 13) (by decide) dX10_at_8 (fun h8 => ?_) (fun h8 => ?_)
  · have hd8 := of_decide_eq_true h8
    refine g_iload_n (pc := 13) hG 2 rfl dX10_at_13 ?_
    refine g_iconst (pc := 14) hG dX10_at_14 ?_
    refine g_icmp_ne (pc := 15) hG (by omega) (by omega) (tgt := 28) (by decide) dX10_at_15 (fun h15 => ?_) (fun h15 => ?_)
    · refine g_aload_n (pc := 28) hG 0 rfl dX10_at_28 ?_
      refine g_get (pc := 29) hG fl10_10 0 rfl rfl dX10_at_29 ?_
      refine g_iload_n (pc := 32) hG 2 rfl dX10_at_32 ?_
      refine g_callV (pc := 33) hG (As := [iV (c)]) (rest := []) (c_X9_hasColumn (l := l) (D := D) (cI := cI) (cL := cL) (cZ := cZ) (cX := cX) (cG := cG) ad 1 X Y K m n q c (by omega) (by omega)) (Sp.sel [1, 2, 3, 4] rfl (by decide)) cv10_115 ⟨rfl, rfl⟩ ⟨Nat.le_of_ble_eq_true rfl, Nat.le_of_ble_eq_true rfl⟩ 1 rfl rfl rfl rfl (Nat.le_of_ble_eq_true rfl) dX10_at_33 (fun v w1 h => ?_)
      obtain ⟨rfl, rfl⟩ := h
      show G 36 [(0, .ref (ad (0))), (1, iV (r)), (2, iV (c))] [bV (decide (0 ≤ c ∧ c < ((m : Nat) : Int)))] ([gboC0 cI cL cZ ad (0) (ks) (kp) (kz) (kl) (kt) (kh), tbC0 cI cL cZ ad (1) (X) (Y) (K) (((m : Nat) : Int)) (((n : Nat) : Int)) (q), tbC1 cI cL cZ ad (1) (X) (Y) (K) (((m : Nat) : Int)) (((n : Nat) : Int)) (q), tbC2 cI cL cZ ad (1) (X) (Y) (K) (((m : Nat) : Int)) (((n : Nat) : Int)) (q), tbC3 cI cL cZ ad (1) (X) (Y) (K) (((m : Nat) : Int)) (((n : Nat) : Int)) (q)])
      have J52 : ∀ (j52s0 : Int), ((((decide (0 ≤ c ∧ c < ((m : Nat) : Int))) = false) ∧ j52s0 = 0) ∨ (((decide (0 ≤ c ∧ c < ((m : Nat) : Int))) = true) ∧ j52s0 = X (r.toNat * 3 + c.toNat))) → G 52 [(0, .ref (ad (0))), (1, iV (r)), (2, iV (c))] [iV (j52s0)] ([gboC0 cI cL cZ ad (0) (ks) (kp) (kz) (kl) (kt) (kh), tbC0 cI cL cZ ad (1) (X) (Y) (K) (((m : Nat) : Int)) (((n : Nat) : Int)) (q), tbC1 cI cL cZ ad (1) (X) (Y) (K) (((m : Nat) : Int)) (((n : Nat) : Int)) (q), tbC2 cI cL cZ ad (1) (X) (Y) (K) (((m : Nat) : Int)) (((n : Nat) : Int)) (q), tbC3 cI cL cZ ad (1) (X) (Y) (K) (((m : Nat) : Int)) (((n : Nat) : Int)) (q)]) := by
        intro j52s0 k52
        exact g_ireturn (pc := 52) hG ⟨sI (by unfold atZ; rw [if_pos hd8, if_neg h15]; rcases k52 with ⟨h, e⟩ | ⟨h, e⟩; rw [if_neg (of_decide_eq_false h), e]; rw [if_pos (of_decide_eq_true h), e]), rfl⟩ dX10_at_52
      refine g_ifb_eq (pc := 36) hG (tgt := 51) (by decide) dX10_at_36 (fun h36 => ?_) (fun h36 => ?_)
      · refine g_iconst (pc := 51) hG dX10_at_51 ?_
        exact g_lv (pc := 52) hG [0, 1, 2] rfl (J52 0 (Or.inl ⟨h36, rfl⟩))
      · have hd36 := of_decide_eq_true h36
        refine g_aload_n (pc := 39) hG 0 rfl dX10_at_39 ?_
        refine g_get (pc := 40) hG fl10_10 0 rfl rfl dX10_at_40 ?_
        refine g_iload_n (pc := 43) hG 1 rfl dX10_at_43 ?_
        refine g_iload_n (pc := 44) hG 2 rfl dX10_at_44 ?_
        refine g_st (pc := 45) hG (st' := [iV (((c.toNat : Nat) : Int)), iV (r), .ref (ad (1))]) (congrArg (fun z9 => [iV z9, iV (r), .ref (ad (1))]) (show c = ((c.toNat : Nat) : Int) by omega)) ?_
        refine g_st (pc := 45) hG (st' := [iV (((c.toNat : Nat) : Int)), iV (((r.toNat : Nat) : Int)), .ref (ad (1))]) (congrArg (fun z9 => [iV (((c.toNat : Nat) : Int)), iV z9, .ref (ad (1))]) (show r = ((r.toNat : Nat) : Int) by omega)) ?_
        refine g_callV (pc := 45) hG (As := [iV (((r.toNat : Nat) : Int)), iV (((c.toNat : Nat) : Int))]) (rest := []) (c_X9_number (l := l) (D := D) (cI := cI) (cL := cL) (cZ := cZ) (cX := cX) (cG := cG) ad 1 X Y K m n q r.toNat c.toNat (by omega) (by omega)) (Sp.sel [1, 2, 3, 4] rfl (by decide)) cv10_118 ⟨rfl, rfl⟩ ⟨Nat.le_of_ble_eq_true rfl, Nat.le_of_ble_eq_true rfl⟩ 1 rfl rfl rfl rfl (Nat.le_of_ble_eq_true rfl) dX10_at_45 (fun v w1 h => ?_)
        obtain ⟨rfl, rfl⟩ := h
        show G 48 [(0, .ref (ad (0))), (1, iV (r)), (2, iV (c))] [iV (X (r.toNat * 3 + c.toNat))] ([gboC0 cI cL cZ ad (0) (ks) (kp) (kz) (kl) (kt) (kh), tbC0 cI cL cZ ad (1) (X) (Y) (K) (((m : Nat) : Int)) (((n : Nat) : Int)) (q), tbC1 cI cL cZ ad (1) (X) (Y) (K) (((m : Nat) : Int)) (((n : Nat) : Int)) (q), tbC2 cI cL cZ ad (1) (X) (Y) (K) (((m : Nat) : Int)) (((n : Nat) : Int)) (q), tbC3 cI cL cZ ad (1) (X) (Y) (K) (((m : Nat) : Int)) (((n : Nat) : Int)) (q)])
        refine g_goto (pc := 48) hG (tgt := 52) (by decide) dX10_at_48 ?_
        exact g_lv (pc := 52) hG [0, 1, 2] rfl (J52 (X (r.toNat * 3 + c.toNat)) (Or.inr (⟨h36, rfl⟩)))
    · refine g_aload_n (pc := 18) hG 0 rfl dX10_at_18 ?_
      refine g_get (pc := 19) hG fl10_10 0 rfl rfl dX10_at_19 ?_
      refine g_get (pc := 22) hG fl10_111 1 rfl rfl dX10_at_22 ?_
      refine g_iload_n (pc := 25) hG 1 rfl dX10_at_25 ?_
      refine g_iaload (pc := 26) hG 3 ((r).toNat) rfl rfl (by omega) (by omega) (by decide) dX10_at_26 ?_
      exact g_ireturn (pc := 27) hG ⟨sI (by unfold atZ; rw [if_pos hd8, if_pos h15]), rfl⟩ dX10_at_27
  · refine g_iconst (pc := 11) hG dX10_at_11 ?_
    exact g_ireturn (pc := 12) hG ⟨sI (by unfold atZ; rw [if_neg (of_decide_eq_false h8)]), rfl⟩ dX10_at_12
set_option maxHeartbeats 4000000 in
set_option maxRecDepth 100000 in
theorem c_X10_there {l : Launch} {D : va_G} {cI cL cZ cX cG : ClassId} (ad : Nat → Nat) (ks : Bool) (kp : Bool) (kz : Bool) (kl : Bool) (kt : Bool) (kh : Int) (X : Nat → Int) (Y : Nat → Int) (K : Nat → Bool) (m : Nat) (n : Nat) (q : Int) (r : Int) (hn : n ≤ 24) (hr : InI r) : Ct l D (gT cI cL cZ cX cG) yX10_there cX10_there 2 (some .boolean) ({ frames := 2, cells := 0, slots := 0, locals := 42 }) [.ref (ad (0)), iV (r)] ([gboC0 cI cL cZ ad (0) (ks) (kp) (kz) (kl) (kt) (kh), tbC0 cI cL cZ ad (1) (X) (Y) (K) (((m : Nat) : Int)) (((n : Nat) : Int)) (q), tbC1 cI cL cZ ad (1) (X) (Y) (K) (((m : Nat) : Int)) (((n : Nat) : Int)) (q), tbC2 cI cL cZ ad (1) (X) (Y) (K) (((m : Nat) : Int)) (((n : Nat) : Int)) (q), tbC3 cI cL cZ ad (1) (X) (Y) (K) (((m : Nat) : Int)) (((n : Nat) : Int)) (q)]) (fun vv_ ww_ => vv_ = some (bV (decide (0 ≤ r ∧ r < ((n : Nat) : Int)) && K (r.toNat))) ∧ ww_ = [gboC0 cI cL cZ ad (0) (ks) (kp) (kz) (kl) (kt) (kh), tbC0 cI cL cZ ad (1) (X) (Y) (K) (((m : Nat) : Int)) (((n : Nat) : Int)) (q), tbC1 cI cL cZ ad (1) (X) (Y) (K) (((m : Nat) : Int)) (((n : Nat) : Int)) (q), tbC2 cI cL cZ ad (1) (X) (Y) (K) (((m : Nat) : Int)) (((n : Nat) : Int)) (q), tbC3 cI cL cZ ad (1) (X) (Y) (K) (((m : Nat) : Int)) (((n : Nat) : Int)) (q)]) := by
  refine Ct.of (by decide) (Nat.le_of_ble_eq_true rfl) (fun G hG => ?_)
  show G 0 [(0, .ref (ad (0))), (1, iV (r))] [] ([gboC0 cI cL cZ ad (0) (ks) (kp) (kz) (kl) (kt) (kh), tbC0 cI cL cZ ad (1) (X) (Y) (K) (((m : Nat) : Int)) (((n : Nat) : Int)) (q), tbC1 cI cL cZ ad (1) (X) (Y) (K) (((m : Nat) : Int)) (((n : Nat) : Int)) (q), tbC2 cI cL cZ ad (1) (X) (Y) (K) (((m : Nat) : Int)) (((n : Nat) : Int)) (q), tbC3 cI cL cZ ad (1) (X) (Y) (K) (((m : Nat) : Int)) (((n : Nat) : Int)) (q)])
  refine g_aload_n (pc := 0) hG 0 rfl dX10_there_0 ?_
  refine g_get (pc := 1) hG fl10_10 0 rfl rfl dX10_there_1 ?_
  refine g_iload_n (pc := 4) hG 1 rfl dX10_there_4 ?_
  refine g_callV (pc := 5) hG (As := [iV (r)]) (rest := []) (c_X9_keeps (l := l) (D := D) (cI := cI) (cL := cL) (cZ := cZ) (cX := cX) (cG := cG) ad 1 X Y K m n q r (by omega) (by omega)) (Sp.sel [1, 2, 3, 4] rfl (by decide)) cv10_104 ⟨rfl, rfl⟩ ⟨Nat.le_of_ble_eq_true rfl, Nat.le_of_ble_eq_true rfl⟩ 1 rfl rfl rfl rfl (Nat.le_of_ble_eq_true rfl) dX10_there_5 (fun v w1 h => ?_)
  obtain ⟨rfl, rfl⟩ := h
  show G 8 [(0, .ref (ad (0))), (1, iV (r))] [bV (decide (0 ≤ r ∧ r < ((n : Nat) : Int)) && K (r.toNat))] ([gboC0 cI cL cZ ad (0) (ks) (kp) (kz) (kl) (kt) (kh), tbC0 cI cL cZ ad (1) (X) (Y) (K) (((m : Nat) : Int)) (((n : Nat) : Int)) (q), tbC1 cI cL cZ ad (1) (X) (Y) (K) (((m : Nat) : Int)) (((n : Nat) : Int)) (q), tbC2 cI cL cZ ad (1) (X) (Y) (K) (((m : Nat) : Int)) (((n : Nat) : Int)) (q), tbC3 cI cL cZ ad (1) (X) (Y) (K) (((m : Nat) : Int)) (((n : Nat) : Int)) (q)])
  exact g_zreturn (pc := 8) hG (decide (0 ≤ r ∧ r < ((n : Nat) : Int)) && K (r.toNat)) rfl ⟨rfl, rfl⟩ dX10_there_8
set_option maxHeartbeats 4000000 in
set_option maxRecDepth 100000 in
theorem c_X10_squaresNow {l : Launch} {D : va_G} {cI cL cZ cX cG : ClassId} (ad : Nat → Nat) (ks : Bool) (kp : Bool) (kz : Bool) (kl : Bool) (kt : Bool) (kh : Int) (X : Nat → Int) (Y : Nat → Int) (K : Nat → Bool) (m : Nat) (n : Nat) (q : Int) (P : Nat → Int) (R : Nat → Int) (T : Nat → Int) (S : Nat → Int) (ts : Int) (rk : Int) (hB : TbB X Y n) (hk : ks = true → SqOk X Y K n P R T S ts rk) : Ct l D (gT cI cL cZ cX cG) yX10_squaresNow cX10_squaresNow 2 (some (.object "GuessBench$Squares")) ({ frames := 3, cells := 0, slots := 0, locals := 78 }) [.ref (ad (0))] ([gboC0 cI cL cZ ad (0) (ks) (kp) (kz) (kl) (kt) (kh), tbC0 cI cL cZ ad (1) (X) (Y) (K) (((m : Nat) : Int)) (((n : Nat) : Int)) (q), tbC1 cI cL cZ ad (1) (X) (Y) (K) (((m : Nat) : Int)) (((n : Nat) : Int)) (q), tbC2 cI cL cZ ad (1) (X) (Y) (K) (((m : Nat) : Int)) (((n : Nat) : Int)) (q), tbC3 cI cL cZ ad (1) (X) (Y) (K) (((m : Nat) : Int)) (((n : Nat) : Int)) (q), sqoC0 cI cL cZ ad (13) (ts) (rk), l9C0 cI cL cZ ad (14) (P), l3C0 cI cL cZ ad (15) (R), l3C0 cI cL cZ ad (16) (T), l4C0 cI cL cZ ad (17) (S)]) (fun vv_ ww_ => ∃ (P2 : Nat → Int), ∃ (R2 : Nat → Int), ∃ (T2 : Nat → Int), ∃ (S2 : Nat → Int), ∃ (ts2 : Int), (SqOk X Y K n P2 R2 T2 S2 ts2 ((rk0 P2 : Nat) : Int)) ∧ vv_ = some (.ref (ad (13))) ∧ ww_ = [gboC0 cI cL cZ ad (0) (true) (kp) (kz) (kl) (kt) (kh), tbC0 cI cL cZ ad (1) (X) (Y) (K) (((m : Nat) : Int)) (((n : Nat) : Int)) (q), tbC1 cI cL cZ ad (1) (X) (Y) (K) (((m : Nat) : Int)) (((n : Nat) : Int)) (q), tbC2 cI cL cZ ad (1) (X) (Y) (K) (((m : Nat) : Int)) (((n : Nat) : Int)) (q), tbC3 cI cL cZ ad (1) (X) (Y) (K) (((m : Nat) : Int)) (((n : Nat) : Int)) (q), sqoC0 cI cL cZ ad (13) (ts2) (((rk0 P2 : Nat) : Int)), l9C0 cI cL cZ ad (14) (P2), l3C0 cI cL cZ ad (15) (R2), l3C0 cI cL cZ ad (16) (T2), l4C0 cI cL cZ ad (17) (S2)]) := by
  refine Ct.of (by decide) (Nat.le_of_ble_eq_true rfl) (fun G hG => ?_)
  show G 0 [(0, .ref (ad (0)))] [] ([gboC0 cI cL cZ ad (0) (ks) (kp) (kz) (kl) (kt) (kh), tbC0 cI cL cZ ad (1) (X) (Y) (K) (((m : Nat) : Int)) (((n : Nat) : Int)) (q), tbC1 cI cL cZ ad (1) (X) (Y) (K) (((m : Nat) : Int)) (((n : Nat) : Int)) (q), tbC2 cI cL cZ ad (1) (X) (Y) (K) (((m : Nat) : Int)) (((n : Nat) : Int)) (q), tbC3 cI cL cZ ad (1) (X) (Y) (K) (((m : Nat) : Int)) (((n : Nat) : Int)) (q), sqoC0 cI cL cZ ad (13) (ts) (rk), l9C0 cI cL cZ ad (14) (P), l3C0 cI cL cZ ad (15) (R), l3C0 cI cL cZ ad (16) (T), l4C0 cI cL cZ ad (17) (S)])
  refine g_aload_n (pc := 0) hG 0 rfl dX10_squaresNow_0 ?_
  refine g_get (pc := 1) hG fl10_261 0 rfl rfl dX10_squaresNow_1 ?_
  refine g_ifb_ne (pc := 4) hG (tgt := 69) (by decide) dX10_squaresNow_4 (fun h4 => ?_) (fun h4 => ?_)
  · refine g_aload_n (pc := 69) hG 0 rfl dX10_squaresNow_69 ?_
    refine g_get (pc := 70) hG fl10_33 0 rfl rfl dX10_squaresNow_70 ?_
    exact g_areturn (pc := 73) hG ⟨P, R, T, S, ts, by first | exact (hk h4).norm | exact ⟨hg2, hS_61, hT_61, rfl⟩, rfl, by first | rfl | rw [h4, (hk h4).rkE]⟩ dX10_squaresNow_73
  · refine g_aload_n (pc := 7) hG 0 rfl dX10_squaresNow_7 ?_
    refine g_get (pc := 8) hG fl10_33 0 rfl rfl dX10_squaresNow_8 ?_
    refine g_callV (pc := 11) hG (As := []) (rest := []) (c_X8_clear (l := l) (D := D) (cI := cI) (cL := cL) (cZ := cZ) (cX := cX) (cG := cG) ad 13 P R ts rk ) (Sp.sel [5, 6, 7] rfl (by decide)) cv10_159 ⟨rfl, rfl⟩ ⟨Nat.le_of_ble_eq_true rfl, Nat.le_of_ble_eq_true rfl⟩ 5 rfl rfl rfl rfl (Nat.le_of_ble_eq_true rfl) dX10_squaresNow_11 (fun v w1 h => ?_)
    obtain ⟨P2_11, R2_11, hP_11, hR_11, rfl, rfl⟩ := h
    show G 14 [(0, .ref (ad (0)))] [] ([gboC0 cI cL cZ ad (0) (ks) (kp) (kz) (kl) (kt) (kh), tbC0 cI cL cZ ad (1) (X) (Y) (K) (((m : Nat) : Int)) (((n : Nat) : Int)) (q), tbC1 cI cL cZ ad (1) (X) (Y) (K) (((m : Nat) : Int)) (((n : Nat) : Int)) (q), tbC2 cI cL cZ ad (1) (X) (Y) (K) (((m : Nat) : Int)) (((n : Nat) : Int)) (q), tbC3 cI cL cZ ad (1) (X) (Y) (K) (((m : Nat) : Int)) (((n : Nat) : Int)) (q), sqoC0 cI cL cZ ad (13) (0) (rk), l9C0 cI cL cZ ad (14) (P2_11), l3C0 cI cL cZ ad (15) (R2_11), l3C0 cI cL cZ ad (16) (T), l4C0 cI cL cZ ad (17) (S)])
    refine g_iconst (pc := 14) hG dX10_squaresNow_14 ?_
    refine g_istore_n (pc := 15) hG (by decide) (lv' := [(1, iV (0)), (0, .ref (ad (0)))]) rfl dX10_squaresNow_15 ?_
    have L16 : ∀ (fu16 : Nat) (r : Nat) (P9 : Nat → Int) (R9 : Nat → Int) (t9 : Int), n - r < fu16 → (r ≤ n) → (GrR X Y K r P9 R9 t9) → G 16 [(0, .ref (ad (0))), (1, iV (((r : Nat) : Int)))] [] ([gboC0 cI cL cZ ad (0) (ks) (kp) (kz) (kl) (kt) (kh), tbC0 cI cL cZ ad (1) (X) (Y) (K) (((m : Nat) : Int)) (((n : Nat) : Int)) (q), tbC1 cI cL cZ ad (1) (X) (Y) (K) (((m : Nat) : Int)) (((n : Nat) : Int)) (q), tbC2 cI cL cZ ad (1) (X) (Y) (K) (((m : Nat) : Int)) (((n : Nat) : Int)) (q), tbC3 cI cL cZ ad (1) (X) (Y) (K) (((m : Nat) : Int)) (((n : Nat) : Int)) (q), sqoC0 cI cL cZ ad (13) (t9) (rk), l9C0 cI cL cZ ad (14) (P9), l3C0 cI cL cZ ad (15) (R9), l3C0 cI cL cZ ad (16) (T), l4C0 cI cL cZ ad (17) (S)]) := by
      intro fu16
      induction fu16 with
      | zero => intro r P9 R9 t9 hm; exact absurd hm (Nat.not_lt_zero _)
      | succ fu16 ih16 =>
        intro r P9 R9 t9 hm16 hr hg
        have hn24 := hB.1
        refine g_iload_n (pc := 16) hG 1 rfl dX10_squaresNow_16 ?_
        refine g_aload_n (pc := 17) hG 0 rfl dX10_squaresNow_17 ?_
        refine g_get (pc := 18) hG fl10_10 0 rfl rfl dX10_squaresNow_18 ?_
        refine g_get (pc := 21) hG fl10_161 1 rfl rfl dX10_squaresNow_21 ?_
        refine g_icmp_ge (pc := 24) hG (by omega) (by omega) (tgt := 57) (by decide) dX10_squaresNow_24 (fun h24 => ?_) (fun h24 => ?_)
        · have hrn : r = n := by omega
          have hg2 : GrR X Y K n P9 R9 t9 := hrn ▸ hg
          refine g_aload_n (pc := 57) hG 0 rfl dX10_squaresNow_57 ?_
          refine g_get (pc := 58) hG fl10_33 0 rfl rfl dX10_squaresNow_58 ?_
          refine g_callV (pc := 61) hG (As := []) (rest := []) (c_X8_solve (l := l) (D := D) (cI := cI) (cL := cL) (cZ := cZ) (cX := cX) (cG := cG) ad 13 P9 R9 T S t9 rk (hg2.pb hB)) (Sp.sel [5, 6, 7, 8, 9] rfl (by decide)) cv10_171 ⟨rfl, rfl⟩ ⟨Nat.le_of_ble_eq_true rfl, Nat.le_of_ble_eq_true rfl⟩ 5 rfl rfl rfl rfl (Nat.le_of_ble_eq_true rfl) dX10_squaresNow_61 (fun v w1 h => ?_)
          obtain ⟨T2_61, S2_61, hS_61, hT_61, rfl, rfl⟩ := h
          show G 64 [(0, .ref (ad (0))), (1, iV (((r : Nat) : Int)))] [] ([gboC0 cI cL cZ ad (0) (ks) (kp) (kz) (kl) (kt) (kh), tbC0 cI cL cZ ad (1) (X) (Y) (K) (((m : Nat) : Int)) (((n : Nat) : Int)) (q), tbC1 cI cL cZ ad (1) (X) (Y) (K) (((m : Nat) : Int)) (((n : Nat) : Int)) (q), tbC2 cI cL cZ ad (1) (X) (Y) (K) (((m : Nat) : Int)) (((n : Nat) : Int)) (q), tbC3 cI cL cZ ad (1) (X) (Y) (K) (((m : Nat) : Int)) (((n : Nat) : Int)) (q), sqoC0 cI cL cZ ad (13) (t9) (((rk0 P9 : Nat) : Int)), l9C0 cI cL cZ ad (14) (P9), l3C0 cI cL cZ ad (15) (R9), l3C0 cI cL cZ ad (16) (T2_61), l4C0 cI cL cZ ad (17) (S2_61)])
          refine g_aload_n (pc := 64) hG 0 rfl dX10_squaresNow_64 ?_
          refine g_iconst (pc := 65) hG dX10_squaresNow_65 ?_
          refine g_val (pc := 66) hG (show iV 1 = bV true from rfl) ?_
          refine g_put (pc := 66) hG fp10_261 0 rfl (bI_n _) (bI_fit _) (Nat.le_of_ble_eq_true rfl) (ws' := [gboC0 cI cL cZ ad (0) (true) (kp) (kz) (kl) (kt) (kh), tbC0 cI cL cZ ad (1) (X) (Y) (K) (((m : Nat) : Int)) (((n : Nat) : Int)) (q), tbC1 cI cL cZ ad (1) (X) (Y) (K) (((m : Nat) : Int)) (((n : Nat) : Int)) (q), tbC2 cI cL cZ ad (1) (X) (Y) (K) (((m : Nat) : Int)) (((n : Nat) : Int)) (q), tbC3 cI cL cZ ad (1) (X) (Y) (K) (((m : Nat) : Int)) (((n : Nat) : Int)) (q), sqoC0 cI cL cZ ad (13) (t9) (((rk0 P9 : Nat) : Int)), l9C0 cI cL cZ ad (14) (P9), l3C0 cI cL cZ ad (15) (R9), l3C0 cI cL cZ ad (16) (T2_61), l4C0 cI cL cZ ad (17) (S2_61)]) rfl dX10_squaresNow_66 ?_
          refine g_aload_n (pc := 69) hG 0 rfl dX10_squaresNow_69 ?_
          refine g_get (pc := 70) hG fl10_33 0 rfl rfl dX10_squaresNow_70 ?_
          exact g_areturn (pc := 73) hG ⟨P9, R9, T2_61, S2_61, t9, by first | exact (hk h4).norm | exact ⟨hg2, hS_61, hT_61, rfl⟩, rfl, by first | rfl | rw [h4, (hk h4).rkE]⟩ dX10_squaresNow_73
        · refine g_aload_n (pc := 27) hG 0 rfl dX10_squaresNow_27 ?_
          refine g_get (pc := 28) hG fl10_10 0 rfl rfl dX10_squaresNow_28 ?_
          refine g_get (pc := 31) hG fl10_164 1 rfl rfl dX10_squaresNow_31 ?_
          refine g_iload_n (pc := 34) hG 1 rfl dX10_squaresNow_34 ?_
          refine g_baload (pc := 35) hG 4 r rfl rfl (by omega) (by omega) (by decide) dX10_squaresNow_35 ?_
          refine g_ifb_eq (pc := 36) hG (tgt := 51) (by decide) dX10_squaresNow_36 (fun h36 => ?_) (fun h36 => ?_)
          · refine g_iinc (pc := 51) hG 1 rfl (by decide) (lv' := [(1, iV ((((r : Nat) : Int)) + 1)), (0, .ref (ad (0)))]) rfl dX10_squaresNow_51 ?_
            refine g_goto (pc := 54) hG (tgt := 16) (by decide) dX10_squaresNow_54 ?_
            exact g_lv (pc := 16) hG [1, 0] rfl (ih16 (r + 1) P9 R9 t9 (by omega) (by omega) (hg.skip h36))
          · refine g_aload_n (pc := 39) hG 0 rfl dX10_squaresNow_39 ?_
            refine g_get (pc := 40) hG fl10_33 0 rfl rfl dX10_squaresNow_40 ?_
            refine g_aload_n (pc := 43) hG 0 rfl dX10_squaresNow_43 ?_
            refine g_get (pc := 44) hG fl10_10 0 rfl rfl dX10_squaresNow_44 ?_
            refine g_iload_n (pc := 47) hG 1 rfl dX10_squaresNow_47 ?_
            refine g_callV (pc := 48) hG (As := [.ref (ad (1)), iV (((r : Nat) : Int))]) (rest := []) (c_X8_add (l := l) (D := D) (cI := cI) (cL := cL) (cZ := cZ) (cX := cX) (cG := cG) ad 13 1 P9 R9 t9 rk X Y K m n q r (by omega) (hB.x (by omega)) (hB.y (by omega))) (Sp.sel [5, 6, 7, 1, 2, 3, 4] rfl (by decide)) cv10_168 ⟨rfl, rfl⟩ ⟨Nat.le_of_ble_eq_true rfl, Nat.le_of_ble_eq_true rfl⟩ 5 rfl rfl rfl rfl (Nat.le_of_ble_eq_true rfl) dX10_squaresNow_48 (fun v w1 h => ?_)
            obtain ⟨P2_48, R2_48, t2_48, hP_48, hR_48, ht_48, rfl, rfl⟩ := h
            show G 51 [(0, .ref (ad (0))), (1, iV (((r : Nat) : Int)))] [] ([gboC0 cI cL cZ ad (0) (ks) (kp) (kz) (kl) (kt) (kh), tbC0 cI cL cZ ad (1) (X) (Y) (K) (((m : Nat) : Int)) (((n : Nat) : Int)) (q), tbC1 cI cL cZ ad (1) (X) (Y) (K) (((m : Nat) : Int)) (((n : Nat) : Int)) (q), tbC2 cI cL cZ ad (1) (X) (Y) (K) (((m : Nat) : Int)) (((n : Nat) : Int)) (q), tbC3 cI cL cZ ad (1) (X) (Y) (K) (((m : Nat) : Int)) (((n : Nat) : Int)) (q), sqoC0 cI cL cZ ad (13) (t2_48) (rk), l9C0 cI cL cZ ad (14) (P2_48), l3C0 cI cL cZ ad (15) (R2_48), l3C0 cI cL cZ ad (16) (T), l4C0 cI cL cZ ad (17) (S)])
            refine g_iinc (pc := 51) hG 1 rfl (by decide) (lv' := [(1, iV ((((r : Nat) : Int)) + 1)), (0, .ref (ad (0)))]) rfl dX10_squaresNow_51 ?_
            refine g_goto (pc := 54) hG (tgt := 16) (by decide) dX10_squaresNow_54 ?_
            exact g_lv (pc := 16) hG [1, 0] rfl (ih16 (r + 1) P2_48 R2_48 t2_48 (by omega) (by omega) (hg.add h36 hP_48 hR_48 ht_48))
    exact g_lv (pc := 16) hG [1, 0] rfl (L16 _ 0 P2_11 R2_11 0 (Nat.lt_succ_self _) (Nat.zero_le _) (GrR.init hP_11 hR_11))
set_option maxHeartbeats 4000000 in
set_option maxRecDepth 100000 in
theorem c_X10_isWhole {l : Launch} {D : va_G} {cI cL cZ cX cG : ClassId} (ad : Nat → Nat) (ks : Bool) (kp : Bool) (kz : Bool) (kl : Bool) (kt : Bool) (kh : Int) (X : Nat → Int) (Y : Nat → Int) (K : Nat → Bool) (m : Nat) (n : Nat) (q : Int) (P : Nat → Int) (R : Nat → Int) (T : Nat → Int) (S : Nat → Int) (ts : Int) (rk : Int) (hB : TbB X Y n) (hk : ks = true → SqOk X Y K n P R T S ts rk) (hm : m ≤ 3) : Ct l D (gT cI cL cZ cX cG) yX10_isWhole cX10_isWhole 1 (some .boolean) ({ frames := 4, cells := 0, slots := 0, locals := 99 }) [.ref (ad (0))] ([gboC0 cI cL cZ ad (0) (ks) (kp) (kz) (kl) (kt) (kh), tbC0 cI cL cZ ad (1) (X) (Y) (K) (((m : Nat) : Int)) (((n : Nat) : Int)) (q), tbC1 cI cL cZ ad (1) (X) (Y) (K) (((m : Nat) : Int)) (((n : Nat) : Int)) (q), tbC2 cI cL cZ ad (1) (X) (Y) (K) (((m : Nat) : Int)) (((n : Nat) : Int)) (q), tbC3 cI cL cZ ad (1) (X) (Y) (K) (((m : Nat) : Int)) (((n : Nat) : Int)) (q), sqoC0 cI cL cZ ad (13) (ts) (rk), l9C0 cI cL cZ ad (14) (P), l3C0 cI cL cZ ad (15) (R), l3C0 cI cL cZ ad (16) (T), l4C0 cI cL cZ ad (17) (S)]) (fun vv_ ww_ => ∃ (P2 : Nat → Int), ∃ (R2 : Nat → Int), ∃ (T2 : Nat → Int), ∃ (S2 : Nat → Int), ∃ (ts2 : Int), (SqOk X Y K n P2 R2 T2 S2 ts2 ((rk0 P2 : Nat) : Int)) ∧ vv_ = some (bV (decide (rk0 P2 = m))) ∧ ww_ = [gboC0 cI cL cZ ad (0) (true) (kp) (kz) (kl) (kt) (kh), tbC0 cI cL cZ ad (1) (X) (Y) (K) (((m : Nat) : Int)) (((n : Nat) : Int)) (q), tbC1 cI cL cZ ad (1) (X) (Y) (K) (((m : Nat) : Int)) (((n : Nat) : Int)) (q), tbC2 cI cL cZ ad (1) (X) (Y) (K) (((m : Nat) : Int)) (((n : Nat) : Int)) (q), tbC3 cI cL cZ ad (1) (X) (Y) (K) (((m : Nat) : Int)) (((n : Nat) : Int)) (q), sqoC0 cI cL cZ ad (13) (ts2) (((rk0 P2 : Nat) : Int)), l9C0 cI cL cZ ad (14) (P2), l3C0 cI cL cZ ad (15) (R2), l3C0 cI cL cZ ad (16) (T2), l4C0 cI cL cZ ad (17) (S2)]) := by
  refine Ct.of (by decide) (Nat.le_of_ble_eq_true rfl) (fun G hG => ?_)
  show G 0 [(0, .ref (ad (0)))] [] ([gboC0 cI cL cZ ad (0) (ks) (kp) (kz) (kl) (kt) (kh), tbC0 cI cL cZ ad (1) (X) (Y) (K) (((m : Nat) : Int)) (((n : Nat) : Int)) (q), tbC1 cI cL cZ ad (1) (X) (Y) (K) (((m : Nat) : Int)) (((n : Nat) : Int)) (q), tbC2 cI cL cZ ad (1) (X) (Y) (K) (((m : Nat) : Int)) (((n : Nat) : Int)) (q), tbC3 cI cL cZ ad (1) (X) (Y) (K) (((m : Nat) : Int)) (((n : Nat) : Int)) (q), sqoC0 cI cL cZ ad (13) (ts) (rk), l9C0 cI cL cZ ad (14) (P), l3C0 cI cL cZ ad (15) (R), l3C0 cI cL cZ ad (16) (T), l4C0 cI cL cZ ad (17) (S)])
  refine g_aload_n (pc := 0) hG 0 rfl dX10_isWhole_0 ?_
  refine g_callV (pc := 1) hG (As := []) (rest := []) (c_X10_squaresNow (l := l) (D := D) (cI := cI) (cL := cL) (cZ := cZ) (cX := cX) (cG := cG) ad ks kp kz kl kt kh X Y K m n q P R T S ts rk (hB) (hk)) (Sp.whole _) cv10_122 ⟨rfl, rfl⟩ ⟨Nat.le_of_ble_eq_true rfl, Nat.le_of_ble_eq_true rfl⟩ 0 rfl rfl rfl rfl (Nat.le_of_ble_eq_true rfl) dX10_isWhole_1 (fun v w1 h => ?_)
  obtain ⟨P2_1, R2_1, T2_1, S2_1, ts2_1, hq_1, rfl, rfl⟩ := h
  show G 4 [(0, .ref (ad (0)))] [.ref (ad (13))] ([gboC0 cI cL cZ ad (0) (true) (kp) (kz) (kl) (kt) (kh), tbC0 cI cL cZ ad (1) (X) (Y) (K) (((m : Nat) : Int)) (((n : Nat) : Int)) (q), tbC1 cI cL cZ ad (1) (X) (Y) (K) (((m : Nat) : Int)) (((n : Nat) : Int)) (q), tbC2 cI cL cZ ad (1) (X) (Y) (K) (((m : Nat) : Int)) (((n : Nat) : Int)) (q), tbC3 cI cL cZ ad (1) (X) (Y) (K) (((m : Nat) : Int)) (((n : Nat) : Int)) (q), sqoC0 cI cL cZ ad (13) (ts2_1) (((rk0 P2_1 : Nat) : Int)), l9C0 cI cL cZ ad (14) (P2_1), l3C0 cI cL cZ ad (15) (R2_1), l3C0 cI cL cZ ad (16) (T2_1), l4C0 cI cL cZ ad (17) (S2_1)])
  have hrl := rk_le P2_1
  refine g_get (pc := 4) hG fl10_126 5 rfl rfl dX10_isWhole_4 ?_
  refine g_aload_n (pc := 7) hG 0 rfl dX10_isWhole_7 ?_
  refine g_get (pc := 8) hG fl10_10 0 rfl rfl dX10_isWhole_8 ?_
  refine g_get (pc := 11) hG fl10_178 1 rfl rfl dX10_isWhole_11 ?_
  have J22 : ∀ (j22s0 : Bool), (((¬ ((rk0 P2_1 : Nat) : Int) = ((m : Nat) : Int)) ∧ j22s0 = false) ∨ ((((rk0 P2_1 : Nat) : Int) = ((m : Nat) : Int)) ∧ j22s0 = true)) → G 22 [(0, .ref (ad (0)))] [bV (j22s0)] ([gboC0 cI cL cZ ad (0) (true) (kp) (kz) (kl) (kt) (kh), tbC0 cI cL cZ ad (1) (X) (Y) (K) (((m : Nat) : Int)) (((n : Nat) : Int)) (q), tbC1 cI cL cZ ad (1) (X) (Y) (K) (((m : Nat) : Int)) (((n : Nat) : Int)) (q), tbC2 cI cL cZ ad (1) (X) (Y) (K) (((m : Nat) : Int)) (((n : Nat) : Int)) (q), tbC3 cI cL cZ ad (1) (X) (Y) (K) (((m : Nat) : Int)) (((n : Nat) : Int)) (q), sqoC0 cI cL cZ ad (13) (ts2_1) (((rk0 P2_1 : Nat) : Int)), l9C0 cI cL cZ ad (14) (P2_1), l3C0 cI cL cZ ad (15) (R2_1), l3C0 cI cL cZ ad (16) (T2_1), l4C0 cI cL cZ ad (17) (S2_1)]) := by
    intro j22s0 k22
    exact g_zreturn (pc := 22) hG (j22s0) rfl ⟨P2_1, R2_1, T2_1, S2_1, ts2_1, hq_1, sB (by grind), rfl⟩ dX10_isWhole_22
  refine g_icmp_ne (pc := 14) hG (by omega) (by omega) (tgt := 21) (by decide) dX10_isWhole_14 (fun h14 => ?_) (fun h14 => ?_)
  · refine g_iconst (pc := 21) hG dX10_isWhole_21 ?_
    exact g_lv (pc := 22) hG [0] rfl (J22 false (Or.inl ⟨h14, rfl⟩))
  · refine g_iconst (pc := 17) hG dX10_isWhole_17 ?_
    refine g_goto (pc := 18) hG (tgt := 22) (by decide) dX10_isWhole_18 ?_
    exact g_lv (pc := 22) hG [0] rfl (J22 true (Or.inr (⟨h14, rfl⟩)))
set_option maxHeartbeats 4000000 in
set_option maxRecDepth 100000 in
theorem c_X10_free {l : Launch} {D : va_G} {cI cL cZ cX cG : ClassId} (ad : Nat → Nat) (ks : Bool) (kp : Bool) (kz : Bool) (kl : Bool) (kt : Bool) (kh : Int) (X : Nat → Int) (Y : Nat → Int) (K : Nat → Bool) (m : Nat) (n : Nat) (q : Int) (P : Nat → Int) (R : Nat → Int) (T : Nat → Int) (S : Nat → Int) (ts : Int) (rk : Int) (hB : TbB X Y n) (hk : ks = true → SqOk X Y K n P R T S ts rk) : Ct l D (gT cI cL cZ cX cG) yX10_free cX10_free 1 (some .int) ({ frames := 4, cells := 0, slots := 0, locals := 99 }) [.ref (ad (0))] ([gboC0 cI cL cZ ad (0) (ks) (kp) (kz) (kl) (kt) (kh), tbC0 cI cL cZ ad (1) (X) (Y) (K) (((m : Nat) : Int)) (((n : Nat) : Int)) (q), tbC1 cI cL cZ ad (1) (X) (Y) (K) (((m : Nat) : Int)) (((n : Nat) : Int)) (q), tbC2 cI cL cZ ad (1) (X) (Y) (K) (((m : Nat) : Int)) (((n : Nat) : Int)) (q), tbC3 cI cL cZ ad (1) (X) (Y) (K) (((m : Nat) : Int)) (((n : Nat) : Int)) (q), sqoC0 cI cL cZ ad (13) (ts) (rk), l9C0 cI cL cZ ad (14) (P), l3C0 cI cL cZ ad (15) (R), l3C0 cI cL cZ ad (16) (T), l4C0 cI cL cZ ad (17) (S)]) (fun vv_ ww_ => ∃ (P2 : Nat → Int), ∃ (R2 : Nat → Int), ∃ (T2 : Nat → Int), ∃ (S2 : Nat → Int), ∃ (ts2 : Int), (SqOk X Y K n P2 R2 T2 S2 ts2 ((rk0 P2 : Nat) : Int)) ∧ vv_ = some (iV (((rk0 P2 : Nat) : Int))) ∧ ww_ = [gboC0 cI cL cZ ad (0) (true) (kp) (kz) (kl) (kt) (kh), tbC0 cI cL cZ ad (1) (X) (Y) (K) (((m : Nat) : Int)) (((n : Nat) : Int)) (q), tbC1 cI cL cZ ad (1) (X) (Y) (K) (((m : Nat) : Int)) (((n : Nat) : Int)) (q), tbC2 cI cL cZ ad (1) (X) (Y) (K) (((m : Nat) : Int)) (((n : Nat) : Int)) (q), tbC3 cI cL cZ ad (1) (X) (Y) (K) (((m : Nat) : Int)) (((n : Nat) : Int)) (q), sqoC0 cI cL cZ ad (13) (ts2) (((rk0 P2 : Nat) : Int)), l9C0 cI cL cZ ad (14) (P2), l3C0 cI cL cZ ad (15) (R2), l3C0 cI cL cZ ad (16) (T2), l4C0 cI cL cZ ad (17) (S2)]) := by
  refine Ct.of (by decide) (Nat.le_of_ble_eq_true rfl) (fun G hG => ?_)
  show G 0 [(0, .ref (ad (0)))] [] ([gboC0 cI cL cZ ad (0) (ks) (kp) (kz) (kl) (kt) (kh), tbC0 cI cL cZ ad (1) (X) (Y) (K) (((m : Nat) : Int)) (((n : Nat) : Int)) (q), tbC1 cI cL cZ ad (1) (X) (Y) (K) (((m : Nat) : Int)) (((n : Nat) : Int)) (q), tbC2 cI cL cZ ad (1) (X) (Y) (K) (((m : Nat) : Int)) (((n : Nat) : Int)) (q), tbC3 cI cL cZ ad (1) (X) (Y) (K) (((m : Nat) : Int)) (((n : Nat) : Int)) (q), sqoC0 cI cL cZ ad (13) (ts) (rk), l9C0 cI cL cZ ad (14) (P), l3C0 cI cL cZ ad (15) (R), l3C0 cI cL cZ ad (16) (T), l4C0 cI cL cZ ad (17) (S)])
  refine g_aload_n (pc := 0) hG 0 rfl dX10_free_0 ?_
  refine g_callV (pc := 1) hG (As := []) (rest := []) (c_X10_squaresNow (l := l) (D := D) (cI := cI) (cL := cL) (cZ := cZ) (cX := cX) (cG := cG) ad ks kp kz kl kt kh X Y K m n q P R T S ts rk (hB) (hk)) (Sp.whole _) cv10_122 ⟨rfl, rfl⟩ ⟨Nat.le_of_ble_eq_true rfl, Nat.le_of_ble_eq_true rfl⟩ 0 rfl rfl rfl rfl (Nat.le_of_ble_eq_true rfl) dX10_free_1 (fun v w1 h => ?_)
  obtain ⟨P2_1, R2_1, T2_1, S2_1, ts2_1, hq_1, rfl, rfl⟩ := h
  show G 4 [(0, .ref (ad (0)))] [.ref (ad (13))] ([gboC0 cI cL cZ ad (0) (true) (kp) (kz) (kl) (kt) (kh), tbC0 cI cL cZ ad (1) (X) (Y) (K) (((m : Nat) : Int)) (((n : Nat) : Int)) (q), tbC1 cI cL cZ ad (1) (X) (Y) (K) (((m : Nat) : Int)) (((n : Nat) : Int)) (q), tbC2 cI cL cZ ad (1) (X) (Y) (K) (((m : Nat) : Int)) (((n : Nat) : Int)) (q), tbC3 cI cL cZ ad (1) (X) (Y) (K) (((m : Nat) : Int)) (((n : Nat) : Int)) (q), sqoC0 cI cL cZ ad (13) (ts2_1) (((rk0 P2_1 : Nat) : Int)), l9C0 cI cL cZ ad (14) (P2_1), l3C0 cI cL cZ ad (15) (R2_1), l3C0 cI cL cZ ad (16) (T2_1), l4C0 cI cL cZ ad (17) (S2_1)])
  refine g_get (pc := 4) hG fl10_126 5 rfl rfl dX10_free_4 ?_
  exact g_ireturn (pc := 7) hG ⟨P2_1, R2_1, T2_1, S2_1, ts2_1, hq_1, rfl, rfl⟩ dX10_free_7
