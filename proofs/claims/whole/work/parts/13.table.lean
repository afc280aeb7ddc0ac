abbrev tbC0 (cI cL cZ : ClassId) (ad : Nat → Nat) (o : Nat) (X : Nat → Int) (Y : Nat → Int) (K : Nat → Bool) (m : Int) (n : Int) (q : Int) : Nat × va_E := (ad o, ob 8 [.ref (ad (o + 1)), .ref (ad (o + 2)), .ref (ad (o + 3)), iV m, iV n, iV q])
abbrev tbC1 (cI cL cZ : ClassId) (ad : Nat → Nat) (o : Nat) (X : Nat → Int) (Y : Nat → Int) (K : Nat → Bool) (m : Int) (n : Int) (q : Int) : Nat × va_E := (ad (o + 1), aI cI 72 X)
abbrev tbC2 (cI cL cZ : ClassId) (ad : Nat → Nat) (o : Nat) (X : Nat → Int) (Y : Nat → Int) (K : Nat → Bool) (m : Int) (n : Int) (q : Int) : Nat × va_E := (ad (o + 2), aI cI 24 Y)
abbrev tbC3 (cI cL cZ : ClassId) (ad : Nat → Nat) (o : Nat) (X : Nat → Int) (Y : Nat → Int) (K : Nat → Bool) (m : Int) (n : Int) (q : Int) : Nat × va_E := (ad (o + 3), aZ cZ 24 K)
abbrev sqoC0 (cI cL cZ : ClassId) (ad : Nat → Nat) (o : Nat) (ts : Int) (rk : Int) : Nat × va_E := (ad o, ob 7 [.ref (ad (o + 1)), .ref (ad (o + 2)), .ref (ad (o + 3)), .ref (ad (o + 4)), lV ts, iV rk])
abbrev l9C0 (cI cL cZ : ClassId) (ad : Nat → Nat) (o : Nat) (f : Nat → Int) : Nat × va_E := (ad o, aL cL 9 f)
abbrev l4C0 (cI cL cZ : ClassId) (ad : Nat → Nat) (o : Nat) (f : Nat → Int) : Nat × va_E := (ad o, aL cL 4 f)
abbrev l3C0 (cI cL cZ : ClassId) (ad : Nat → Nat) (o : Nat) (f : Nat → Int) : Nat × va_E := (ad o, aL cL 3 f)
set_option maxHeartbeats 4000000 in
set_option maxRecDepth 100000 in
theorem c_X9_clear {l : Launch} {D : va_G} {cI cL cZ cX cG : ClassId} (ad : Nat → Nat) (o : Nat) (X : Nat → Int) (Y : Nat → Int) (K : Nat → Bool) (m : Nat) (n : Nat) (q : Int) (nc : Nat)  : Ct l D (gT cI cL cZ cX cG) yX9_clear cX9_clear 2 none ({ frames := 0, cells := 0, slots := 0, locals := 0 }) [.ref (ad (o)), iV (((nc : Nat) : Int))] ([tbC0 cI cL cZ ad (o) (X) (Y) (K) (((m : Nat) : Int)) (((n : Nat) : Int)) (q), tbC1 cI cL cZ ad (o) (X) (Y) (K) (((m : Nat) : Int)) (((n : Nat) : Int)) (q), tbC2 cI cL cZ ad (o) (X) (Y) (K) (((m : Nat) : Int)) (((n : Nat) : Int)) (q), tbC3 cI cL cZ ad (o) (X) (Y) (K) (((m : Nat) : Int)) (((n : Nat) : Int)) (q)]) (fun vv_ ww_ => vv_ = none ∧ ww_ = [tbC0 cI cL cZ ad (o) (X) (Y) (K) (((nc : Nat) : Int)) (0) (0), tbC1 cI cL cZ ad (o) (X) (Y) (K) (((nc : Nat) : Int)) (0) (0), tbC2 cI cL cZ ad (o) (X) (Y) (K) (((nc : Nat) : Int)) (0) (0), tbC3 cI cL cZ ad (o) (X) (Y) (K) (((nc : Nat) : Int)) (0) (0)]) := by
  refine Ct.of (by decide) (Nat.le_of_ble_eq_true rfl) (fun G hG => ?_)
  show G 0 [(0, .ref (ad (o))), (1, iV (((nc : Nat) : Int)))] [] ([tbC0 cI cL cZ ad (o) (X) (Y) (K) (((m : Nat) : Int)) (((n : Nat) : Int)) (q), tbC1 cI cL cZ ad (o) (X) (Y) (K) (((m : Nat) : Int)) (((n : Nat) : Int)) (q), tbC2 cI cL cZ ad (o) (X) (Y) (K) (((m : Nat) : Int)) (((n : Nat) : Int)) (q), tbC3 cI cL cZ ad (o) (X) (Y) (K) (((m : Nat) : Int)) (((n : Nat) : Int)) (q)])
  refine g_aload_n (pc := 0) hG 0 rfl dX9_clear_0 ?_
  refine g_iload_n (pc := 1) hG 1 rfl dX9_clear_1 ?_
  refine g_put (pc := 2) hG fp9_22 0 rfl rfl rfl (Nat.le_of_ble_eq_true rfl) (ws' := [tbC0 cI cL cZ ad (o) (X) (Y) (K) (((nc : Nat) : Int)) (((n : Nat) : Int)) (q), tbC1 cI cL cZ ad (o) (X) (Y) (K) (((nc : Nat) : Int)) (((n : Nat) : Int)) (q), tbC2 cI cL cZ ad (o) (X) (Y) (K) (((nc : Nat) : Int)) (((n : Nat) : Int)) (q), tbC3 cI cL cZ ad (o) (X) (Y) (K) (((nc : Nat) : Int)) (((n : Nat) : Int)) (q)]) rfl dX9_clear_2 ?_
  refine g_aload_n (pc := 5) hG 0 rfl dX9_clear_5 ?_
  refine g_iconst (pc := 6) hG dX9_clear_6 ?_
  refine g_put (pc := 7) hG fp9_26 0 rfl rfl rfl (Nat.le_of_ble_eq_true rfl) (ws' := [tbC0 cI cL cZ ad (o) (X) (Y) (K) (((nc : Nat) : Int)) (0) (q), tbC1 cI cL cZ ad (o) (X) (Y) (K) (((nc : Nat) : Int)) (0) (q), tbC2 cI cL cZ ad (o) (X) (Y) (K) (((nc : Nat) : Int)) (0) (q), tbC3 cI cL cZ ad (o) (X) (Y) (K) (((nc : Nat) : Int)) (0) (q)]) rfl dX9_clear_7 ?_
  refine g_aload_n (pc := 10) hG 0 rfl dX9_clear_10 ?_
  refine g_iconst (pc := 11) hG dX9_clear_11 ?_
  refine g_put (pc := 12) hG fp9_29 0 rfl rfl rfl (Nat.le_of_ble_eq_true rfl) (ws' := [tbC0 cI cL cZ ad (o) (X) (Y) (K) (((nc : Nat) : Int)) (0) (0), tbC1 cI cL cZ ad (o) (X) (Y) (K) (((nc : Nat) : Int)) (0) (0), tbC2 cI cL cZ ad (o) (X) (Y) (K) (((nc : Nat) : Int)) (0) (0), tbC3 cI cL cZ ad (o) (X) (Y) (K) (((nc : Nat) : Int)) (0) (0)]) rfl dX9_clear_12 ?_
  exact g_return (pc := 15) hG ⟨rfl, rfl⟩ dX9_clear_15
set_option maxHeartbeats 4000000 in
set_option maxRecDepth 100000 in
theorem c_X9_has {l : Launch} {D : va_G} {cI cL cZ cX cG : ClassId} (ad : Nat → Nat) (o : Nat) (X : Nat → Int) (Y : Nat → Int) (K : Nat → Bool) (m : Nat) (n : Nat) (q : Int) (r : Int) (hn : n ≤ 24) (hr : InI r) : Ct l D (gT cI cL cZ cX cG) yX9_has cX9_has 2 (some .boolean) ({ frames := 0, cells := 0, slots := 0, locals := 0 }) [.ref (ad (o)), iV (r)] ([tbC0 cI cL cZ ad (o) (X) (Y) (K) (((m : Nat) : Int)) (((n : Nat) : Int)) (q), tbC1 cI cL cZ ad (o) (X) (Y) (K) (((m : Nat) : Int)) (((n : Nat) : Int)) (q), tbC2 cI cL cZ ad (o) (X) (Y) (K) (((m : Nat) : Int)) (((n : Nat) : Int)) (q), tbC3 cI cL cZ ad (o) (X) (Y) (K) (((m : Nat) : Int)) (((n : Nat) : Int)) (q)]) (fun vv_ ww_ => vv_ = some (bV (decide (0 ≤ r ∧ r < ((n : Nat) : Int)))) ∧ ww_ = [tbC0 cI cL cZ ad (o) (X) (Y) (K) (((m : Nat) : Int)) (((n : Nat) : Int)) (q), tbC1 cI cL cZ ad (o) (X) (Y) (K) (((m : Nat) : Int)) (((n : Nat) : Int)) (q), tbC2 cI cL cZ ad (o) (X) (Y) (K) (((m : Nat) : Int)) (((n : Nat) : Int)) (q), tbC3 cI cL cZ ad (o) (X) (Y) (K) (((m : Nat) : Int)) (((n : Nat) : Int)) (q)]) := by
  refine Ct.of (by decide) (Nat.le_of_ble_eq_true rfl) (fun G hG => ?_)
  show G 0 [(0, .ref (ad (o))), (1, iV (r))] [] ([tbC0 cI cL cZ ad (o) (X) (Y) (K) (((m : Nat) : Int)) (((n : Nat) : Int)) (q), tbC1 cI cL cZ ad (o) (X) (Y) (K) (((m : Nat) : Int)) (((n : Nat) : Int)) (q), tbC2 cI cL cZ ad (o) (X) (Y) (K) (((m : Nat) : Int)) (((n : Nat) : Int)) (q), tbC3 cI cL cZ ad (o) (X) (Y) (K) (((m : Nat) : Int)) (((n : Nat) : Int)) (q)])
  refine g_iload_n (pc := 0) hG 1 rfl dX9_has_0 ?_
  have J17 : ∀ (j17s0 : Bool), (((r < 0) ∧ j17s0 = false) ∨ ((¬ r < 0) ∧ (((n : Nat) : Int) ≤ r) ∧ j17s0 = false) ∨ ((¬ r < 0) ∧ (¬ ((n : Nat) : Int) ≤ r) ∧ j17s0 = true)) → G 17 [(0, .ref (ad (o))), (1, iV (r))] [bV (j17s0)] ([tbC0 cI cL cZ ad (o) (X) (Y) (K) (((m : Nat) : Int)) (((n : Nat) : Int)) (q), tbC1 cI cL cZ ad (o) (X) (Y) (K) (((m : Nat) : Int)) (((n : Nat) : Int)) (q), tbC2 cI cL cZ ad (o) (X) (Y) (K) (((m : Nat) : Int)) (((n : Nat) : Int)) (q), tbC3 cI cL cZ ad (o) (X) (Y) (K) (((m : Nat) : Int)) (((n : Nat) : Int)) (q)]) := by
    intro j17s0 k17
    exact g_zreturn (pc := 17) hG (j17s0) rfl ⟨sB (by grind), rfl⟩ dX9_has_17
  refine g_if_lt (pc := 1) hG (by omega) (tgt := 16) (by decide) dX9_has_1 (fun h1 => ?_) (fun h1 => ?_)
  · refine g_iconst (pc := 16) hG dX9_has_16 ?_
    exact g_lv (pc := 17) hG [0, 1] rfl (J17 false (Or.inl ⟨h1, rfl⟩))
  · refine g_iload_n (pc := 4) hG 1 rfl dX9_has_4 ?_
    refine g_aload_n (pc := 5) hG 0 rfl dX9_has_5 ?_
    refine g_get (pc := 6) hG fl9_26 0 rfl rfl dX9_has_6 ?_
    refine g_icmp_ge (pc := 9) hG (by omega) (by omega) (tgt := 16) (by decide) dX9_has_9 (fun h9 => ?_) (fun h9 => ?_)
    · refine g_iconst (pc := 16) hG dX9_has_16 ?_
      exact g_lv (pc := 17) hG [0, 1] rfl (J17 false (Or.inr (Or.inl ⟨h1, h9, rfl⟩)))
    · refine g_iconst (pc := 12) hG dX9_has_12 ?_
      refine g_goto (pc := 13) hG (tgt := 17) (by decide) dX9_has_13 ?_
      exact g_lv (pc := 17) hG [0, 1] rfl (J17 true (Or.inr (Or.inr (⟨h1, h9, rfl⟩))))
set_option maxHeartbeats 4000000 in
set_option maxRecDepth 100000 in
theorem c_X9_hasColumn {l : Launch} {D : va_G} {cI cL cZ cX cG : ClassId} (ad : Nat → Nat) (o : Nat) (X : Nat → Int) (Y : Nat → Int) (K : Nat → Bool) (m : Nat) (n : Nat) (q : Int) (c : Int) (hm : m ≤ 3) (hc : InI c) : Ct l D (gT cI cL cZ cX cG) yX9_hasColumn cX9_hasColumn 2 (some .boolean) ({ frames := 0, cells := 0, slots := 0, locals := 0 }) [.ref (ad (o)), iV (c)] ([tbC0 cI cL cZ ad (o) (X) (Y) (K) (((m : Nat) : Int)) (((n : Nat) : Int)) (q), tbC1 cI cL cZ ad (o) (X) (Y) (K) (((m : Nat) : Int)) (((n : Nat) : Int)) (q), tbC2 cI cL cZ ad (o) (X) (Y) (K) (((m : Nat) : Int)) (((n : Nat) : Int)) (q), tbC3 cI cL cZ ad (o) (X) (Y) (K) (((m : Nat) : Int)) (((n : Nat) : Int)) (q)]) (fun vv_ ww_ => vv_ = some (bV (decide (0 ≤ c ∧ c < ((m : Nat) : Int)))) ∧ ww_ = [tbC0 cI cL cZ ad (o) (X) (Y) (K) (((m : Nat) : Int)) (((n : Nat) : Int)) (q), tbC1 cI cL cZ ad (o) (X) (Y) (K) (((m : Nat) : Int)) (((n : Nat) : Int)) (q), tbC2 cI cL cZ ad (o) (X) (Y) (K) (((m : Nat) : Int)) (((n : Nat) : Int)) (q), tbC3 cI cL cZ ad (o) (X) (Y) (K) (((m : Nat) : Int)) (((n : Nat) : Int)) (q)]) := by
  refine Ct.of (by decide) (Nat.le_of_ble_eq_true rfl) (fun G hG => ?_)
  show G 0 [(0, .ref (ad (o))), (1, iV (c))] [] ([tbC0 cI cL cZ ad (o) (X) (Y) (K) (((m : Nat) : Int)) (((n : Nat) : Int)) (q), tbC1 cI cL cZ ad (o) (X) (Y) (K) (((m : Nat) : Int)) (((n : Nat) : Int)) (q), tbC2 cI cL cZ ad (o) (X) (Y) (K) (((m : Nat) : Int)) (((n : Nat) : Int)) (q), tbC3 cI cL cZ ad (o) (X) (Y) (K) (((m : Nat) : Int)) (((n : Nat) : Int)) (q)])
  refine g_iload_n (pc := 0) hG 1 rfl dX9_hasColumn_0 ?_
  have J17 : ∀ (j17s0 : Bool), (((c < 0) ∧ j17s0 = false) ∨ ((¬ c < 0) ∧ (((m : Nat) : Int) ≤ c) ∧ j17s0 = false) ∨ ((¬ c < 0) ∧ (¬ ((m : Nat) : Int) ≤ c) ∧ j17s0 = true)) → G 17 [(0, .ref (ad (o))), (1, iV (c))] [bV (j17s0)] ([tbC0 cI cL cZ ad (o) (X) (Y) (K) (((m : Nat) : Int)) (((n : Nat) : Int)) (q), tbC1 cI cL cZ ad (o) (X) (Y) (K) (((m : Nat) : Int)) (((n : Nat) : Int)) (q), tbC2 cI cL cZ ad (o) (X) (Y) (K) (((m : Nat) : Int)) (((n : Nat) : Int)) (q), tbC3 cI cL cZ ad (o) (X) (Y) (K) (((m : Nat) : Int)) (((n : Nat) : Int)) (q)]) := by
    intro j17s0 k17
    exact g_zreturn (pc := 17) hG (j17s0) rfl ⟨sB (by grind), rfl⟩ dX9_hasColumn_17
  refine g_if_lt (pc := 1) hG (by omega) (tgt := 16) (by decide) dX9_hasColumn_1 (fun h1 => ?_) (fun h1 => ?_)
  · refine g_iconst (pc := 16) hG dX9_hasColumn_16 ?_
    exact g_lv (pc := 17) hG [0, 1] rfl (J17 false (Or.inl ⟨h1, rfl⟩))
  · refine g_iload_n (pc := 4) hG 1 rfl dX9_hasColumn_4 ?_
    refine g_aload_n (pc := 5) hG 0 rfl dX9_hasColumn_5 ?_
    refine g_get (pc := 6) hG fl9_22 0 rfl rfl dX9_hasColumn_6 ?_
    refine g_icmp_ge (pc := 9) hG (by omega) (by omega) (tgt := 16) (by decide) dX9_hasColumn_9 (fun h9 => ?_) (fun h9 => ?_)
    · refine g_iconst (pc := 16) hG dX9_hasColumn_16 ?_
      exact g_lv (pc := 17) hG [0, 1] rfl (J17 false (Or.inr (Or.inl ⟨h1, h9, rfl⟩)))
    · refine g_iconst (pc := 12) hG dX9_hasColumn_12 ?_
      refine g_goto (pc := 13) hG (tgt := 17) (by decide) dX9_hasColumn_13 ?_
      exact g_lv (pc := 17) hG [0, 1] rfl (J17 true (Or.inr (Or.inr (⟨h1, h9, rfl⟩))))
set_option maxHeartbeats 4000000 in
set_option maxRecDepth 100000 in
theorem c_X9_keeps {l : Launch} {D : va_G} {cI cL cZ cX cG : ClassId} (ad : Nat → Nat) (o : Nat) (X : Nat → Int) (Y : Nat → Int) (K : Nat → Bool) (m : Nat) (n : Nat) (q : Int) (r : Int) (hn : n ≤ 24) (hr : InI r) : Ct l D (gT cI cL cZ cX cG) yX9_keeps cX9_keeps 2 (some .boolean) ({ frames := 1, cells := 0, slots := 0, locals := 21 }) [.ref (ad (o)), iV (r)] ([tbC0 cI cL cZ ad (o) (X) (Y) (K) (((m : Nat) : Int)) (((n : Nat) : Int)) (q), tbC1 cI cL cZ ad (o) (X) (Y) (K) (((m : Nat) : Int)) (((n : Nat) : Int)) (q), tbC2 cI cL cZ ad (o) (X) (Y) (K) (((m : Nat) : Int)) (((n : Nat) : Int)) (q), tbC3 cI cL cZ ad (o) (X) (Y) (K) (((m : Nat) : Int)) (((n : Nat) : Int)) (q)]) (fun vv_ ww_ => vv_ = some (bV (decide (0 ≤ r ∧ r < ((n : Nat) : Int)) && K (r.toNat))) ∧ ww_ = [tbC0 cI cL cZ ad (o) (X) (Y) (K) (((m : Nat) : Int)) (((n : Nat) : Int)) (q), tbC1 cI cL cZ ad (o) (X) (Y) (K) (((m : Nat) : Int)) (((n : Nat) : Int)) (q), tbC2 cI cL cZ ad (o) (X) (Y) (K) (((m : Nat) : Int)) (((n : Nat) : Int)) (q), tbC3 cI cL cZ ad (o) (X) (Y) (K) (((m : Nat) : Int)) (((n : Nat) : Int)) (q)]) := by
  refine Ct.of (by decide) (Nat.le_of_ble_eq_true rfl) (fun G hG => ?_)
  show G 0 [(0, .ref (ad (o))), (1, iV (r))] [] ([tbC0 cI cL cZ ad (o) (X) (Y) (K) (((m : Nat) : Int)) (((n : Nat) : Int)) (q), tbC1 cI cL cZ ad (o) (X) (Y) (K) (((m : Nat) : Int)) (((n : Nat) : Int)) (q), tbC2 cI cL cZ ad (o) (X) (Y) (K) (((m : Nat) : Int)) (((n : Nat) : Int)) (q), tbC3 cI cL cZ ad (o) (X) (Y) (K) (((m : Nat) : Int)) (((n : Nat) : Int)) (q)])
  refine g_aload_n (pc := 0) hG 0 rfl dX9_keeps_0 ?_
  refine g_iload_n (pc := 1) hG 1 rfl dX9_keeps_1 ?_
  refine g_callV (pc := 2) hG (As := [iV (r)]) (rest := []) (c_X9_has (l := l) (D := D) (cI := cI) (cL := cL) (cZ := cZ) (cX := cX) (cG := cG) ad o X Y K m n q r (by omega) (by omega)) (Sp.whole _) cv9_32 ⟨rfl, rfl⟩ ⟨Nat.le_of_ble_eq_true rfl, Nat.le_of_ble_eq_true rfl⟩ 0 rfl rfl rfl rfl (Nat.le_of_ble_eq_true rfl) dX9_keeps_2 (fun v w1 h => ?_)
  obtain ⟨rfl, rfl⟩ := h
  show G 5 [(0, .ref (ad (o))), (1, iV (r))] [bV (decide (0 ≤ r ∧ r < ((n : Nat) : Int)))] ([tbC0 cI cL cZ ad (o) (X) (Y) (K) (((m : Nat) : Int)) (((n : Nat) : Int)) (q), tbC1 cI cL cZ ad (o) (X) (Y) (K) (((m : Nat) : Int)) (((n : Nat) : Int)) (q), tbC2 cI cL cZ ad (o) (X) (Y) (K) (((m : Nat) : Int)) (((n : Nat) : Int)) (q), tbC3 cI cL cZ ad (o) (X) (Y) (K) (((m : Nat) : Int)) (((n : Nat) : Int)) (q)])
  have J22 : ∀ (j22s0 : Bool), ((((decide (0 ≤ r ∧ r < ((n : Nat) : Int))) = false) ∧ j22s0 = false) ∨ (((decide (0 ≤ r ∧ r < ((n : Nat) : Int))) = true) ∧ ((K ((r).toNat)) = false) ∧ j22s0 = false) ∨ (((decide (0 ≤ r ∧ r < ((n : Nat) : Int))) = true) ∧ ((K ((r).toNat)) = true) ∧ j22s0 = true)) → G 22 [(0, .ref (ad (o))), (1, iV (r))] [bV (j22s0)] ([tbC0 cI cL cZ ad (o) (X) (Y) (K) (((m : Nat) : Int)) (((n : Nat) : Int)) (q), tbC1 cI cL cZ ad (o) (X) (Y) (K) (((m : Nat) : Int)) (((n : Nat) : Int)) (q), tbC2 cI cL cZ ad (o) (X) (Y) (K) (((m : Nat) : Int)) (((n : Nat) : Int)) (q), tbC3 cI cL cZ ad (o) (X) (Y) (K) (((m : Nat) : Int)) (((n : Nat) : Int)) (q)]) := by
    intro j22s0 k22
    exact g_zreturn (pc := 22) hG (j22s0) rfl ⟨sB (by grind), rfl⟩ dX9_keeps_22
  refine g_ifb_eq (pc := 5) hG (tgt := 21) (by decide) dX9_keeps_5 (fun h5 => ?_) (fun h5 => ?_)
  · refine g_iconst (pc := 21) hG dX9_keeps_21 ?_
    exact g_lv (pc := 22) hG [0, 1] rfl (J22 false (Or.inl ⟨h5, rfl⟩))
  · refine g_aload_n (pc := 8) hG 0 rfl dX9_keeps_8 ?_
    refine g_get (pc := 9) hG fl9_18 0 rfl rfl dX9_keeps_9 ?_
    refine g_iload_n (pc := 12) hG 1 rfl dX9_keeps_12 ?_
    have hd5 := of_decide_eq_true h5
    refine g_baload (pc := 13) hG 3 ((r).toNat) rfl rfl (by omega) (by omega) (by decide) dX9_keeps_13 ?_
    refine g_ifb_eq (pc := 14) hG (tgt := 21) (by decide) dX9_keeps_14 (fun h14 => ?_) (fun h14 => ?_)
    · refine g_iconst (pc := 21) hG dX9_keeps_21 ?_
      exact g_lv (pc := 22) hG [0, 1] rfl (J22 false (Or.inr (Or.inl ⟨h5, h14, rfl⟩)))
    · refine g_iconst (pc := 17) hG dX9_keeps_17 ?_
      refine g_goto (pc := 18) hG (tgt := 22) (by decide) dX9_keeps_18 ?_
      exact g_lv (pc := 22) hG [0, 1] rfl (J22 true (Or.inr (Or.inr (⟨h5, h14, rfl⟩))))
set_option maxHeartbeats 4000000 in
set_option maxRecDepth 100000 in
theorem c_X9_keep {l : Launch} {D : va_G} {cI cL cZ cX cG : ClassId} (ad : Nat → Nat) (o : Nat) (X : Nat → Int) (Y : Nat → Int) (K : Nat → Bool) (m : Nat) (n : Nat) (q : Int) (r : Nat) (b : Bool) (hr : r < 24) : Ct l D (gT cI cL cZ cX cG) yX9_keep cX9_keep 3 none ({ frames := 0, cells := 0, slots := 0, locals := 0 }) [.ref (ad (o)), iV (((r : Nat) : Int)), bV (b)] ([tbC0 cI cL cZ ad (o) (X) (Y) (K) (((m : Nat) : Int)) (((n : Nat) : Int)) (q), tbC1 cI cL cZ ad (o) (X) (Y) (K) (((m : Nat) : Int)) (((n : Nat) : Int)) (q), tbC2 cI cL cZ ad (o) (X) (Y) (K) (((m : Nat) : Int)) (((n : Nat) : Int)) (q), tbC3 cI cL cZ ad (o) (X) (Y) (K) (((m : Nat) : Int)) (((n : Nat) : Int)) (q)]) (fun vv_ ww_ => ∃ (q2 : Int), ((b = true ∧ q2 = q + 1) ∨ (b = false ∧ q2 = q - 1)) ∧ vv_ = none ∧ ww_ = [tbC0 cI cL cZ ad (o) (X) (Y) (upB K r b) (((m : Nat) : Int)) (((n : Nat) : Int)) (q2), tbC1 cI cL cZ ad (o) (X) (Y) (upB K r b) (((m : Nat) : Int)) (((n : Nat) : Int)) (q2), tbC2 cI cL cZ ad (o) (X) (Y) (upB K r b) (((m : Nat) : Int)) (((n : Nat) : Int)) (q2), tbC3 cI cL cZ ad (o) (X) (Y) (upB K r b) (((m : Nat) : Int)) (((n : Nat) : Int)) (q2)]) := by
  refine Ct.of (by decide) (Nat.le_of_ble_eq_true rfl) (fun G hG => ?_)
  show G 0 [(0, .ref (ad (o))), (1, iV (((r : Nat) : Int))), (2, bV (b))] [] ([tbC0 cI cL cZ ad (o) (X) (Y) (K) (((m : Nat) : Int)) (((n : Nat) : Int)) (q), tbC1 cI cL cZ ad (o) (X) (Y) (K) (((m : Nat) : Int)) (((n : Nat) : Int)) (q), tbC2 cI cL cZ ad (o) (X) (Y) (K) (((m : Nat) : Int)) (((n : Nat) : Int)) (q), tbC3 cI cL cZ ad (o) (X) (Y) (K) (((m : Nat) : Int)) (((n : Nat) : Int)) (q)])
  refine g_aload_n (pc := 0) hG 0 rfl dX9_keep_0 ?_
  refine g_get (pc := 1) hG fl9_18 0 rfl rfl dX9_keep_1 ?_
  refine g_iload_n (pc := 4) hG 1 rfl dX9_keep_4 ?_
  refine g_iload_n (pc := 5) hG 2 rfl dX9_keep_5 ?_
  refine g_bastore (pc := 6) hG (v := b) 3 r rfl rfl rfl (by omega) (by omega) (by decide) (ws' := [tbC0 cI cL cZ ad (o) (X) (Y) (upB K r b) (((m : Nat) : Int)) (((n : Nat) : Int)) (q), tbC1 cI cL cZ ad (o) (X) (Y) (upB K r b) (((m : Nat) : Int)) (((n : Nat) : Int)) (q), tbC2 cI cL cZ ad (o) (X) (Y) (upB K r b) (((m : Nat) : Int)) (((n : Nat) : Int)) (q), tbC3 cI cL cZ ad (o) (X) (Y) (upB K r b) (((m : Nat) : Int)) (((n : Nat) : Int)) (q)]) rfl dX9_keep_6 ?_
  refine g_aload_n (pc := 7) hG 0 rfl dX9_keep_7 ?_
  refine g_dup (pc := 8) hG rfl dX9_keep_8 ?_
  refine g_get (pc := 9) hG fl9_29 0 rfl rfl dX9_keep_9 ?_
  refine g_iload_n (pc := 12) hG 2 rfl dX9_keep_12 ?_
  have J21 : ∀ (j21s0 : Int), (((b = false) ∧ j21s0 = -1) ∨ ((b = true) ∧ j21s0 = 1)) → G 21 [(0, .ref (ad (o))), (1, iV (((r : Nat) : Int))), (2, bV (b))] [iV (j21s0), iV (q), .ref (ad (o))] ([tbC0 cI cL cZ ad (o) (X) (Y) (upB K r b) (((m : Nat) : Int)) (((n : Nat) : Int)) (q), tbC1 cI cL cZ ad (o) (X) (Y) (upB K r b) (((m : Nat) : Int)) (((n : Nat) : Int)) (q), tbC2 cI cL cZ ad (o) (X) (Y) (upB K r b) (((m : Nat) : Int)) (((n : Nat) : Int)) (q), tbC3 cI cL cZ ad (o) (X) (Y) (upB K r b) (((m : Nat) : Int)) (((n : Nat) : Int)) (q)]) := by
    intro j21s0 k21
    refine g_iadd (pc := 21) hG dX9_keep_21 ?_
    refine g_nmI (pc := 22) hG (fun x22 ex22 => ?_)
    refine g_put (pc := 22) hG fp9_29 0 rfl rfl rfl (Nat.le_of_ble_eq_true rfl) (ws' := [tbC0 cI cL cZ ad (o) (X) (Y) (upB K r b) (((m : Nat) : Int)) (((n : Nat) : Int)) (x22), tbC1 cI cL cZ ad (o) (X) (Y) (upB K r b) (((m : Nat) : Int)) (((n : Nat) : Int)) (x22), tbC2 cI cL cZ ad (o) (X) (Y) (upB K r b) (((m : Nat) : Int)) (((n : Nat) : Int)) (x22), tbC3 cI cL cZ ad (o) (X) (Y) (upB K r b) (((m : Nat) : Int)) (((n : Nat) : Int)) (x22)]) rfl dX9_keep_22 ?_
    exact g_return (pc := 25) hG ⟨x22, by grind, rfl, rfl⟩ dX9_keep_25
  refine g_ifb_eq (pc := 13) hG (tgt := 20) (by decide) dX9_keep_13 (fun h13 => ?_) (fun h13 => ?_)
  · refine g_iconst (pc := 20) hG dX9_keep_20 ?_
    exact g_lv (pc := 21) hG [0, 1, 2] rfl (J21 (-1) (Or.inl ⟨h13, rfl⟩))
  · refine g_iconst (pc := 16) hG dX9_keep_16 ?_
    refine g_goto (pc := 17) hG (tgt := 21) (by decide) dX9_keep_17 ?_
    exact g_lv (pc := 21) hG [0, 1, 2] rfl (J21 1 (Or.inr (⟨h13, rfl⟩)))
set_option maxHeartbeats 4000000 in
set_option maxRecDepth 100000 in
theorem c_X9_number {l : Launch} {D : va_G} {cI cL cZ cX cG : ClassId} (ad : Nat → Nat) (o : Nat) (X : Nat → Int) (Y : Nat → Int) (K : Nat → Bool) (m : Nat) (n : Nat) (q : Int) (r : Nat) (c : Nat) (hr : r < 24) (hc : c < 3) : Ct l D (gT cI cL cZ cX cG) yX9_number cX9_number 3 (some .int) ({ frames := 0, cells := 0, slots := 0, locals := 0 }) [.ref (ad (o)), iV (((r : Nat) : Int)), iV (((c : Nat) : Int))] ([tbC0 cI cL cZ ad (o) (X) (Y) (K) (((m : Nat) : Int)) (((n : Nat) : Int)) (q), tbC1 cI cL cZ ad (o) (X) (Y) (K) (((m : Nat) : Int)) (((n : Nat) : Int)) (q), tbC2 cI cL cZ ad (o) (X) (Y) (K) (((m : Nat) : Int)) (((n : Nat) : Int)) (q), tbC3 cI cL cZ ad (o) (X) (Y) (K) (((m : Nat) : Int)) (((n : Nat) : Int)) (q)]) (fun vv_ ww_ => vv_ = some (iV (X (r * 3 + c))) ∧ ww_ = [tbC0 cI cL cZ ad (o) (X) (Y) (K) (((m : Nat) : Int)) (((n : Nat) : Int)) (q), tbC1 cI cL cZ ad (o) (X) (Y) (K) (((m : Nat) : Int)) (((n : Nat) : Int)) (q), tbC2 cI cL cZ ad (o) (X) (Y) (K) (((m : Nat) : Int)) (((n : Nat) : Int)) (q), tbC3 cI cL cZ ad (o) (X) (Y) (K) (((m : Nat) : Int)) (((n : Nat) : Int)) (q)]) := by
  refine Ct.of (by decide) (Nat.le_of_ble_eq_true rfl) (fun G hG => ?_)
  show G 0 [(0, .ref (ad (o))), (1, iV (((r : Nat) : Int))), (2, iV (((c : Nat) : Int)))] [] ([tbC0 cI cL cZ ad (o) (X) (Y) (K) (((m : Nat) : Int)) (((n : Nat) : Int)) (q), tbC1 cI cL cZ ad (o) (X) (Y) (K) (((m : Nat) : Int)) (((n : Nat) : Int)) (q), tbC2 cI cL cZ ad (o) (X) (Y) (K) (((m : Nat) : Int)) (((n : Nat) : Int)) (q), tbC3 cI cL cZ ad (o) (X) (Y) (K) (((m : Nat) : Int)) (((n : Nat) : Int)) (q)])
  refine g_aload_n (pc := 0) hG 0 rfl dX9_number_0 ?_
  refine g_get (pc := 1) hG fl9_9 0 rfl rfl dX9_number_1 ?_
  refine g_iload_n (pc := 4) hG 1 rfl dX9_number_4 ?_
  refine g_iconst (pc := 5) hG dX9_number_5 ?_
  refine g_imul (pc := 6) hG dX9_number_6 ?_
  refine g_iload_n (pc := 7) hG 2 rfl dX9_number_7 ?_
  refine g_iadd (pc := 8) hG dX9_number_8 ?_
  refine g_iaload (pc := 9) hG 1 ((r * 3) + c) rfl rfl (by omega) (by omega) (by decide) dX9_number_9 ?_
  exact g_ireturn (pc := 10) hG ⟨rfl, rfl⟩ dX9_number_10
set_option maxHeartbeats 4000000 in
set_option maxRecDepth 100000 in
theorem c_X9_copyNumbers {l : Launch} {D : va_G} {cI cL cZ cX cG : ClassId} (ad : Nat → Nat) (o : Nat) (o2 : Nat) (X : Nat → Int) (Y : Nat → Int) (K : Nat → Bool) (m : Nat) (n : Nat) (q : Int) (f : Nat → Int) (r : Nat) (hr : r < 24) (hX : ∀ j, j < 3 → InI (X (r * 3 + j))) : Ct l D (gT cI cL cZ cX cG) yX9_copyNumbers cX9_copyNumbers 4 none ({ frames := 1, cells := 0, slots := 0, locals := 22 }) [.ref (ad (o)), iV (((r : Nat) : Int)), .ref (ad (o2))] ([tbC0 cI cL cZ ad (o) (X) (Y) (K) (((m : Nat) : Int)) (((n : Nat) : Int)) (q), tbC1 cI cL cZ ad (o) (X) (Y) (K) (((m : Nat) : Int)) (((n : Nat) : Int)) (q), tbC2 cI cL cZ ad (o) (X) (Y) (K) (((m : Nat) : Int)) (((n : Nat) : Int)) (q), tbC3 cI cL cZ ad (o) (X) (Y) (K) (((m : Nat) : Int)) (((n : Nat) : Int)) (q), l3C0 cI cL cZ ad (o2) (f)]) (fun vv_ ww_ => ∃ (f2 : Nat → Int), (∀ j, j < 3 → f2 j = X (r * 3 + j)) ∧ vv_ = none ∧ ww_ = [tbC0 cI cL cZ ad (o) (X) (Y) (K) (((m : Nat) : Int)) (((n : Nat) : Int)) (q), tbC1 cI cL cZ ad (o) (X) (Y) (K) (((m : Nat) : Int)) (((n : Nat) : Int)) (q), tbC2 cI cL cZ ad (o) (X) (Y) (K) (((m : Nat) : Int)) (((n : Nat) : Int)) (q), tbC3 cI cL cZ ad (o) (X) (Y) (K) (((m : Nat) : Int)) (((n : Nat) : Int)) (q), l3C0 cI cL cZ ad (o2) (f2)]) := by
  refine Ct.of (by decide) (Nat.le_of_ble_eq_true rfl) (fun G hG => ?_)
  show G 0 [(0, .ref (ad (o))), (1, iV (((r : Nat) : Int))), (2, .ref (ad (o2)))] [] ([tbC0 cI cL cZ ad (o) (X) (Y) (K) (((m : Nat) : Int)) (((n : Nat) : Int)) (q), tbC1 cI cL cZ ad (o) (X) (Y) (K) (((m : Nat) : Int)) (((n : Nat) : Int)) (q), tbC2 cI cL cZ ad (o) (X) (Y) (K) (((m : Nat) : Int)) (((n : Nat) : Int)) (q), tbC3 cI cL cZ ad (o) (X) (Y) (K) (((m : Nat) : Int)) (((n : Nat) : Int)) (q), l3C0 cI cL cZ ad (o2) (f)])
  refine g_iconst (pc := 0) hG dX9_copyNumbers_0 ?_
  refine g_istore_n (pc := 1) hG (by decide) (lv' := [(3, iV (0)), (0, .ref (ad (o))), (1, iV (((r : Nat) : Int))), (2, .ref (ad (o2)))]) rfl dX9_copyNumbers_1 ?_
  have L2 : ∀ (fu2 : Nat) (c : Nat) (f9 : Nat → Int), 3 - c < fu2 → (c ≤ 3) → (∀ j, j < c → f9 j = X (r * 3 + j)) → G 2 [(0, .ref (ad (o))), (1, iV (((r : Nat) : Int))), (2, .ref (ad (o2))), (3, iV (((c : Nat) : Int)))] [] ([tbC0 cI cL cZ ad (o) (X) (Y) (K) (((m : Nat) : Int)) (((n : Nat) : Int)) (q), tbC1 cI cL cZ ad (o) (X) (Y) (K) (((m : Nat) : Int)) (((n : Nat) : Int)) (q), tbC2 cI cL cZ ad (o) (X) (Y) (K) (((m : Nat) : Int)) (((n : Nat) : Int)) (q), tbC3 cI cL cZ ad (o) (X) (Y) (K) (((m : Nat) : Int)) (((n : Nat) : Int)) (q), l3C0 cI cL cZ ad (o2) (f9)]) := by
    intro fu2
    induction fu2 with
    | zero => intro c f9 hm; exact absurd hm (Nat.not_lt_zero _)
    | succ fu2 ih2 =>
      intro c f9 hm2 hc hf
      refine g_iload_n (pc := 2) hG 3 rfl dX9_copyNumbers_2 ?_
      refine g_iconst (pc := 3) hG dX9_copyNumbers_3 ?_
      refine g_icmp_ge (pc := 4) hG (by omega) (by omega) (tgt := 23) (by decide) dX9_copyNumbers_4 (fun h4 => ?_) (fun h4 => ?_)
      · exact g_return (pc := 23) hG ⟨f9, fun j h => hf j (by omega), rfl, rfl⟩ dX9_copyNumbers_23
      · refine g_aload_n (pc := 7) hG 2 rfl dX9_copyNumbers_7 ?_
        refine g_iload_n (pc := 8) hG 3 rfl dX9_copyNumbers_8 ?_
        refine g_aload_n (pc := 9) hG 0 rfl dX9_copyNumbers_9 ?_
        refine g_iload_n (pc := 10) hG 1 rfl dX9_copyNumbers_10 ?_
        refine g_iload_n (pc := 11) hG 3 rfl dX9_copyNumbers_11 ?_
        refine g_callV (pc := 12) hG (As := [iV (((r : Nat) : Int)), iV (((c : Nat) : Int))]) (rest := [iV (((c : Nat) : Int)), .ref (ad (o2))]) (c_X9_number (l := l) (D := D) (cI := cI) (cL := cL) (cZ := cZ) (cX := cX) (cG := cG) ad o X Y K m n q r c (by omega) (by omega)) (Sp.sel [0, 1, 2, 3] rfl (by decide)) cv9_36 ⟨rfl, rfl⟩ ⟨Nat.le_of_ble_eq_true rfl, Nat.le_of_ble_eq_true rfl⟩ 0 rfl rfl rfl rfl (Nat.le_of_ble_eq_true rfl) dX9_copyNumbers_12 (fun v w1 h => ?_)
        obtain ⟨rfl, rfl⟩ := h
        show G 15 [(0, .ref (ad (o))), (1, iV (((r : Nat) : Int))), (2, .ref (ad (o2))), (3, iV (((c : Nat) : Int)))] [iV (X (r * 3 + c)), iV (((c : Nat) : Int)), .ref (ad (o2))] ([tbC0 cI cL cZ ad (o) (X) (Y) (K) (((m : Nat) : Int)) (((n : Nat) : Int)) (q), tbC1 cI cL cZ ad (o) (X) (Y) (K) (((m : Nat) : Int)) (((n : Nat) : Int)) (q), tbC2 cI cL cZ ad (o) (X) (Y) (K) (((m : Nat) : Int)) (((n : Nat) : Int)) (q), tbC3 cI cL cZ ad (o) (X) (Y) (K) (((m : Nat) : Int)) (((n : Nat) : Int)) (q), l3C0 cI cL cZ ad (o2) (f9)])
        refine g_i2l (pc := 15) hG (by exact hX c (by omega)) dX9_copyNumbers_15 ?_
        refine g_lastore (pc := 16) hG 4 c rfl rfl (by omega) (by omega) (by decide) (ws' := [tbC0 cI cL cZ ad (o) (X) (Y) (K) (((m : Nat) : Int)) (((n : Nat) : Int)) (q), tbC1 cI cL cZ ad (o) (X) (Y) (K) (((m : Nat) : Int)) (((n : Nat) : Int)) (q), tbC2 cI cL cZ ad (o) (X) (Y) (K) (((m : Nat) : Int)) (((n : Nat) : Int)) (q), tbC3 cI cL cZ ad (o) (X) (Y) (K) (((m : Nat) : Int)) (((n : Nat) : Int)) (q), l3C0 cI cL cZ ad (o2) (upZ f9 c (X (r * 3 + c)))]) rfl dX9_copyNumbers_16 ?_
        refine g_iinc (pc := 17) hG 3 rfl (by decide) (lv' := [(3, iV ((((c : Nat) : Int)) + 1)), (0, .ref (ad (o))), (1, iV (((r : Nat) : Int))), (2, .ref (ad (o2)))]) rfl dX9_copyNumbers_17 ?_
        refine g_goto (pc := 20) hG (tgt := 2) (by decide) dX9_copyNumbers_20 ?_
        exact g_lv (pc := 2) hG [1, 2, 3, 0] rfl (ih2 (c + 1) (upZ f9 c (X (r * 3 + c))) (by omega) (by omega) (fill_step hf (by omega)))
  exact g_lv (pc := 2) hG [1, 2, 3, 0] rfl (L2 _ 0 f (Nat.lt_succ_self _) (by omega) (fun j h => absurd h (Nat.not_lt_zero _)))
set_option maxHeartbeats 4000000 in
set_option maxRecDepth 100000 in
theorem c_X9_isWithin {l : Launch} {D : va_G} {cI cL cZ cX cG : ClassId} (a : Int) (b : Int) (ha : InI a) (hb : 0 ≤ b ∧ b ≤ 1000) : Ct l D (gT cI cL cZ cX cG) yX9_isWithin cX9_isWithin 2 (some .boolean) ({ frames := 0, cells := 0, slots := 0, locals := 0 }) [iV (a), iV (b)] ([]) (fun vv_ ww_ => vv_ = some (bV (decide (-b ≤ a ∧ a ≤ b))) ∧ ww_ = []) := by
  refine Ct.of (by decide) (Nat.le_of_ble_eq_true rfl) (fun G hG => ?_)
  show G 0 [(0, iV (a)), (1, iV (b))] [] ([])
  refine g_iload_n (pc := 0) hG 0 rfl dX9_isWithin_0 ?_
  refine g_iload_n (pc := 1) hG 1 rfl dX9_isWithin_1 ?_
  refine g_ineg (pc := 2) hG dX9_isWithin_2 ?_
  have J16 : ∀ (j16s0 : Bool), (((a < -b) ∧ j16s0 = false) ∨ ((¬ a < -b) ∧ (b < a) ∧ j16s0 = false) ∨ ((¬ a < -b) ∧ (¬ b < a) ∧ j16s0 = true)) → G 16 [(0, iV (a)), (1, iV (b))] [bV (j16s0)] ([]) := by
    intro j16s0 k16
    exact g_zreturn (pc := 16) hG (j16s0) rfl ⟨sB (by grind), rfl⟩ dX9_isWithin_16
  refine g_icmp_lt (pc := 3) hG (by omega) (by omega) (tgt := 15) (by decide) dX9_isWithin_3 (fun h3 => ?_) (fun h3 => ?_)
  · refine g_iconst (pc := 15) hG dX9_isWithin_15 ?_
    exact g_lv (pc := 16) hG [0, 1] rfl (J16 false (Or.inl ⟨h3, rfl⟩))
  · refine g_iload_n (pc := 6) hG 0 rfl dX9_isWithin_6 ?_
    refine g_iload_n (pc := 7) hG 1 rfl dX9_isWithin_7 ?_
    refine g_icmp_gt (pc := 8) hG (by omega) (by omega) (tgt := 15) (by decide) dX9_isWithin_8 (fun h8 => ?_) (fun h8 => ?_)
    · refine g_iconst (pc := 15) hG dX9_isWithin_15 ?_
      exact g_lv (pc := 16) hG [0, 1] rfl (J16 false (Or.inr (Or.inl ⟨h3, h8, rfl⟩)))
    · refine g_iconst (pc := 11) hG dX9_isWithin_11 ?_
      refine g_goto (pc := 12) hG (tgt := 16) (by decide) dX9_isWithin_12 ?_
      exact g_lv (pc := 16) hG [0, 1] rfl (J16 true (Or.inr (Or.inr (⟨h3, h8, rfl⟩))))
set_option maxHeartbeats 4000000 in
set_option maxRecDepth 100000 in
theorem c_X9_add {l : Launch} {D : va_G} {cI cL cZ cX cG : ClassId} (ad : Nat → Nat) (o : Nat) (X : Nat → Int) (Y : Nat → Int) (K : Nat → Bool) (m : Nat) (n : Nat) (q : Nat) (t : Int) (a : Int) (b : Int) (c : Int) (hm : 1 ≤ m ∧ m ≤ 3) (hn : n ≤ 24) (hq : q ≤ 24) (ht : InI t) (ha : InI a) (hb : InI b) (hc : InI c) : Ct l D (gT cI cL cZ cX cG) yX9_add cX9_add 9 (some .int) ({ frames := 1, cells := 0, slots := 0, locals := 21 }) [.ref (ad (o)), iV (t), iV (a), iV (b), iV (c)] ([tbC0 cI cL cZ ad (o) (X) (Y) (K) (((m : Nat) : Int)) (((n : Nat) : Int)) (((q : Nat) : Int)), tbC1 cI cL cZ ad (o) (X) (Y) (K) (((m : Nat) : Int)) (((n : Nat) : Int)) (((q : Nat) : Int)), tbC2 cI cL cZ ad (o) (X) (Y) (K) (((m : Nat) : Int)) (((n : Nat) : Int)) (((q : Nat) : Int)), tbC3 cI cL cZ ad (o) (X) (Y) (K) (((m : Nat) : Int)) (((n : Nat) : Int)) (((q : Nat) : Int))]) (fun vv_ ww_ => ∃ (v2 : Int), ∃ (X2 : Nat → Int), ∃ (Y2 : Nat → Int), ∃ (K2 : Nat → Bool), ∃ (n2 : Nat), ∃ (q2 : Nat), (AddR X Y K m n q t a b c v2 X2 Y2 K2 n2 q2) ∧ vv_ = some (iV (v2)) ∧ ww_ = [tbC0 cI cL cZ ad (o) (X2) (Y2) (K2) (((m : Nat) : Int)) (((n2 : Nat) : Int)) (((q2 : Nat) : Int)), tbC1 cI cL cZ ad (o) (X2) (Y2) (K2) (((m : Nat) : Int)) (((n2 : Nat) : Int)) (((q2 : Nat) : Int)), tbC2 cI cL cZ ad (o) (X2) (Y2) (K2) (((m : Nat) : Int)) (((n2 : Nat) : Int)) (((q2 : Nat) : Int)), tbC3 cI cL cZ ad (o) (X2) (Y2) (K2) (((m : Nat) : Int)) (((n2 : Nat) : Int)) (((q2 : Nat) : Int))]) := by
  refine Ct.of (by decide) (Nat.le_of_ble_eq_true rfl) (fun G hG => ?_)
  show G 0 [(0, .ref (ad (o))), (1, iV (t)), (2, iV (a)), (3, iV (b)), (4, iV (c))] [] ([tbC0 cI cL cZ ad (o) (X) (Y) (K) (((m : Nat) : Int)) (((n : Nat) : Int)) (((q : Nat) : Int)), tbC1 cI cL cZ ad (o) (X) (Y) (K) (((m : Nat) : Int)) (((n : Nat) : Int)) (((q : Nat) : Int)), tbC2 cI cL cZ ad (o) (X) (Y) (K) (((m : Nat) : Int)) (((n : Nat) : Int)) (((q : Nat) : Int)), tbC3 cI cL cZ ad (o) (X) (Y) (K) (((m : Nat) : Int)) (((n : Nat) : Int)) (((q : Nat) : Int))])
  refine g_aload_n (pc := 0) hG 0 rfl dX9_add_0 ?_
  refine g_get (pc := 1) hG fl9_22 0 rfl rfl dX9_add_1 ?_
  refine g_iconst (pc := 4) hG dX9_add_4 ?_
  have J13 : ∀ (j13s0 : Int), (((((m : Nat) : Int) ≤ 1) ∧ j13s0 = 0) ∨ ((¬ ((m : Nat) : Int) ≤ 1) ∧ j13s0 = b)) → G 13 [(0, .ref (ad (o))), (1, iV (t)), (2, iV (a)), (3, iV (b)), (4, iV (c))] [iV (j13s0)] ([tbC0 cI cL cZ ad (o) (X) (Y) (K) (((m : Nat) : Int)) (((n : Nat) : Int)) (((q : Nat) : Int)), tbC1 cI cL cZ ad (o) (X) (Y) (K) (((m : Nat) : Int)) (((n : Nat) : Int)) (((q : Nat) : Int)), tbC2 cI cL cZ ad (o) (X) (Y) (K) (((m : Nat) : Int)) (((n : Nat) : Int)) (((q : Nat) : Int)), tbC3 cI cL cZ ad (o) (X) (Y) (K) (((m : Nat) : Int)) (((n : Nat) : Int)) (((q : Nat) : Int))]) := by
    intro j13s0 k13
    refine g_istore (pc := 13) hG (by decide) (lv' := [(5, iV (j13s0)), (0, .ref (ad (o))), (1, iV (t)), (2, iV (a)), (3, iV (b)), (4, iV (c))]) rfl dX9_add_13 ?_
    refine g_aload_n (pc := 15) hG 1 rfl dX9_add_15 ?_
    refine g_get (pc := 16) hG fl9_22 0 rfl rfl dX9_add_16 ?_
    refine g_iconst (pc := 19) hG dX9_add_19 ?_
    have J29 : ∀ (j29s0 : Int), (((((m : Nat) : Int) ≤ 2) ∧ j29s0 = 0) ∨ ((¬ ((m : Nat) : Int) ≤ 2) ∧ j29s0 = c)) → G 29 [(0, .ref (ad (o))), (1, iV (t)), (2, iV (a)), (3, iV (b)), (4, iV (c)), (5, iV (j13s0))] [iV (j29s0)] ([tbC0 cI cL cZ ad (o) (X) (Y) (K) (((m : Nat) : Int)) (((n : Nat) : Int)) (((q : Nat) : Int)), tbC1 cI cL cZ ad (o) (X) (Y) (K) (((m : Nat) : Int)) (((n : Nat) : Int)) (((q : Nat) : Int)), tbC2 cI cL cZ ad (o) (X) (Y) (K) (((m : Nat) : Int)) (((n : Nat) : Int)) (((q : Nat) : Int)), tbC3 cI cL cZ ad (o) (X) (Y) (K) (((m : Nat) : Int)) (((n : Nat) : Int)) (((q : Nat) : Int))]) := by
      intro j29s0 k29
      refine g_istore (pc := 29) hG (by decide) (lv' := [(6, iV (j29s0)), (0, .ref (ad (o))), (1, iV (t)), (2, iV (a)), (3, iV (b)), (4, iV (c)), (5, iV (j13s0))]) rfl dX9_add_29 ?_
      refine g_iload_n (pc := 31) hG 2 rfl dX9_add_31 ?_
      refine g_bipush (pc := 32) hG dX9_add_32 (by decide) ?_
      refine g_callP (pc := 34) hG (As := [iV (t), iV (99)]) (rest := []) (c_X9_isWithin (l := l) (D := D) (cI := cI) (cL := cL) (cZ := cZ) (cX := cX) (cG := cG) t 99 (by omega) (by omega)) cs9_40 ⟨rfl, rfl⟩ ⟨Nat.le_of_ble_eq_true rfl, Nat.le_of_ble_eq_true rfl⟩ rfl rfl (Nat.le_of_ble_eq_true rfl) dX9_add_34 (fun v h => ?_)
      obtain ⟨rfl, -⟩ := h
      show G 37 [(6, iV (j29s0)), (0, .ref (ad (o))), (1, iV (t)), (2, iV (a)), (3, iV (b)), (4, iV (c)), (5, iV (j13s0))] [bV (decide (-99 ≤ t ∧ t ≤ 99))] ([tbC0 cI cL cZ ad (o) (X) (Y) (K) (((m : Nat) : Int)) (((n : Nat) : Int)) (((q : Nat) : Int)), tbC1 cI cL cZ ad (o) (X) (Y) (K) (((m : Nat) : Int)) (((n : Nat) : Int)) (((q : Nat) : Int)), tbC2 cI cL cZ ad (o) (X) (Y) (K) (((m : Nat) : Int)) (((n : Nat) : Int)) (((q : Nat) : Int)), tbC3 cI cL cZ ad (o) (X) (Y) (K) (((m : Nat) : Int)) (((n : Nat) : Int)) (((q : Nat) : Int))])
      have J74 : ∀ (j74s0 : Bool), ((((decide (-99 ≤ t ∧ t ≤ 99)) = false) ∧ j74s0 = false) ∨ (((decide (-99 ≤ t ∧ t ≤ 99)) = true) ∧ ((decide (-9 ≤ a ∧ a ≤ 9)) = false) ∧ j74s0 = false) ∨ (((decide (-99 ≤ t ∧ t ≤ 99)) = true) ∧ ((decide (-9 ≤ a ∧ a ≤ 9)) = true) ∧ ((decide (-9 ≤ j13s0 ∧ j13s0 ≤ 9)) = false) ∧ j74s0 = false) ∨ (((decide (-99 ≤ t ∧ t ≤ 99)) = true) ∧ ((decide (-9 ≤ a ∧ a ≤ 9)) = true) ∧ ((decide (-9 ≤ j13s0 ∧ j13s0 ≤ 9)) = true) ∧ ((decide (-9 ≤ j29s0 ∧ j29s0 ≤ 9)) = false) ∧ j74s0 = false) ∨ (((decide (-99 ≤ t ∧ t ≤ 99)) = true) ∧ ((decide (-9 ≤ a ∧ a ≤ 9)) = true) ∧ ((decide (-9 ≤ j13s0 ∧ j13s0 ≤ 9)) = true) ∧ ((decide (-9 ≤ j29s0 ∧ j29s0 ≤ 9)) = true) ∧ j74s0 = true)) → G 74 [(0, .ref (ad (o))), (1, iV (t)), (2, iV (a)), (3, iV (b)), (4, iV (c)), (5, iV (j13s0)), (6, iV (j29s0))] [bV (j74s0)] ([tbC0 cI cL cZ ad (o) (X) (Y) (K) (((m : Nat) : Int)) (((n : Nat) : Int)) (((q : Nat) : Int)), tbC1 cI cL cZ ad (o) (X) (Y) (K) (((m : Nat) : Int)) (((n : Nat) : Int)) (((q : Nat) : Int)), tbC2 cI cL cZ ad (o) (X) (Y) (K) (((m : Nat) : Int)) (((n : Nat) : Int)) (((q : Nat) : Int)), tbC3 cI cL cZ ad (o) (X) (Y) (K) (((m : Nat) : Int)) (((n : Nat) : Int)) (((q : Nat) : Int))]) := by
        intro j74s0 k74
        refine g_istore (pc := 74) hG (by decide) (lv' := [(7, bV (j74s0)), (0, .ref (ad (o))), (1, iV (t)), (2, iV (a)), (3, iV (b)), (4, iV (c)), (5, iV (j13s0)), (6, iV (j29s0))]) rfl dX9_add_74 ?_
        refine g_aload_n (pc := 76) hG 1 rfl dX9_add_76 ?_
        refine g_get (pc := 77) hG fl9_26 0 rfl rfl dX9_add_77 ?_
        refine g_bipush (pc := 80) hG dX9_add_80 (by decide) ?_
        have J90 : ∀ (_ : Unit), (((24 ≤ ((n : Nat) : Int))) ∨ ((¬ 24 ≤ ((n : Nat) : Int)) ∧ (j74s0 = false))) → G 90 [(0, .ref (ad (o))), (1, iV (t)), (2, iV (a)), (3, iV (b)), (4, iV (c)), (5, iV (j13s0)), (6, iV (j29s0)), (7, bV (j74s0))] [] ([tbC0 cI cL cZ ad (o) (X) (Y) (K) (((m : Nat) : Int)) (((n : Nat) : Int)) (((q : Nat) : Int)), tbC1 cI cL cZ ad (o) (X) (Y) (K) (((m : Nat) : Int)) (((n : Nat) : Int)) (((q : Nat) : Int)), tbC2 cI cL cZ ad (o) (X) (Y) (K) (((m : Nat) : Int)) (((n : Nat) : Int)) (((q : Nat) : Int)), tbC3 cI cL cZ ad (o) (X) (Y) (K) (((m : Nat) : Int)) (((n : Nat) : Int)) (((q : Nat) : Int))]) := by
          intro _ k90
          refine g_iconst (pc := 90) hG dX9_add_90 ?_
          exact g_ireturn (pc := 91) hG ⟨-1, X, Y, K, n, q, AddR.no (by grind), rfl, rfl⟩ dX9_add_91
        refine g_icmp_ge (pc := 82) hG (by omega) (by omega) (tgt := 90) (by decide) dX9_add_82 (fun h82 => ?_) (fun h82 => ?_)
        · exact g_lv (pc := 90) hG [1, 2, 3, 4, 5, 6, 7, 0] rfl (J90 () (Or.inl (h82)))
        · refine g_iload (pc := 85) hG 0 rfl dX9_add_85 ?_
          refine g_ifb_ne (pc := 87) hG (tgt := 92) (by decide) dX9_add_87 (fun h87 => ?_) (fun h87 => ?_)
          · refine g_aload_n (pc := 92) hG 1 rfl dX9_add_92 ?_
            refine g_get (pc := 93) hG fl9_26 0 rfl rfl dX9_add_93 ?_
            refine g_iconst (pc := 96) hG dX9_add_96 ?_
            refine g_imul (pc := 97) hG dX9_add_97 ?_
            refine g_istore (pc := 98) hG (by decide) (lv' := [(8, iV (((n * 3 : Nat) : Int))), (7, bV (j74s0)), (0, .ref (ad (o))), (1, iV (t)), (2, iV (a)), (3, iV (b)), (4, iV (c)), (5, iV (j13s0)), (6, iV (j29s0))]) rfl dX9_add_98 ?_
            refine g_aload_n (pc := 100) hG 2 rfl dX9_add_100 ?_
            refine g_get (pc := 101) hG fl9_9 0 rfl rfl dX9_add_101 ?_
            refine g_iload (pc := 104) hG 0 rfl dX9_add_104 ?_
            refine g_iload_n (pc := 106) hG 4 rfl dX9_add_106 ?_
            refine g_iastore (pc := 107) hG 1 (n * 3) rfl rfl (by omega) (by omega) (by decide) (ws' := [tbC0 cI cL cZ ad (o) (upZ X (n * 3) a) (Y) (K) (((m : Nat) : Int)) (((n : Nat) : Int)) (((q : Nat) : Int)), tbC1 cI cL cZ ad (o) (upZ X (n * 3) a) (Y) (K) (((m : Nat) : Int)) (((n : Nat) : Int)) (((q : Nat) : Int)), tbC2 cI cL cZ ad (o) (upZ X (n * 3) a) (Y) (K) (((m : Nat) : Int)) (((n : Nat) : Int)) (((q : Nat) : Int)), tbC3 cI cL cZ ad (o) (upZ X (n * 3) a) (Y) (K) (((m : Nat) : Int)) (((n : Nat) : Int)) (((q : Nat) : Int))]) rfl dX9_add_107 ?_
            refine g_aload_n (pc := 108) hG 2 rfl dX9_add_108 ?_
            refine g_get (pc := 109) hG fl9_9 0 rfl rfl dX9_add_109 ?_
            refine g_iload (pc := 112) hG 0 rfl dX9_add_112 ?_
            refine g_iconst (pc := 114) hG dX9_add_114 ?_
            refine g_iadd (pc := 115) hG dX9_add_115 ?_
            refine g_iload (pc := 116) hG 7 rfl dX9_add_116 ?_
            refine g_iastore (pc := 118) hG 1 ((n * 3) + 1) rfl rfl (by omega) (by omega) (by decide) (ws' := [tbC0 cI cL cZ ad (o) (upZ (upZ X (n * 3) a) ((n * 3) + 1) j13s0) (Y) (K) (((m : Nat) : Int)) (((n : Nat) : Int)) (((q : Nat) : Int)), tbC1 cI cL cZ ad (o) (upZ (upZ X (n * 3) a) ((n * 3) + 1) j13s0) (Y) (K) (((m : Nat) : Int)) (((n : Nat) : Int)) (((q : Nat) : Int)), tbC2 cI cL cZ ad (o) (upZ (upZ X (n * 3) a) ((n * 3) + 1) j13s0) (Y) (K) (((m : Nat) : Int)) (((n : Nat) : Int)) (((q : Nat) : Int)), tbC3 cI cL cZ ad (o) (upZ (upZ X (n * 3) a) ((n * 3) + 1) j13s0) (Y) (K) (((m : Nat) : Int)) (((n : Nat) : Int)) (((q : Nat) : Int))]) rfl dX9_add_118 ?_
            refine g_aload_n (pc := 119) hG 2 rfl dX9_add_119 ?_
            refine g_get (pc := 120) hG fl9_9 0 rfl rfl dX9_add_120 ?_
            refine g_iload (pc := 123) hG 0 rfl dX9_add_123 ?_
            refine g_iconst (pc := 125) hG dX9_add_125 ?_
            refine g_iadd (pc := 126) hG dX9_add_126 ?_
            refine g_iload (pc := 127) hG 8 rfl dX9_add_127 ?_
            refine g_iastore (pc := 129) hG 1 ((n * 3) + 2) rfl rfl (by omega) (by omega) (by decide) (ws' := [tbC0 cI cL cZ ad (o) (upZ (upZ (upZ X (n * 3) a) ((n * 3) + 1) j13s0) ((n * 3) + 2) j29s0) (Y) (K) (((m : Nat) : Int)) (((n : Nat) : Int)) (((q : Nat) : Int)), tbC1 cI cL cZ ad (o) (upZ (upZ (upZ X (n * 3) a) ((n * 3) + 1) j13s0) ((n * 3) + 2) j29s0) (Y) (K) (((m : Nat) : Int)) (((n : Nat) : Int)) (((q : Nat) : Int)), tbC2 cI cL cZ ad (o) (upZ (upZ (upZ X (n * 3) a) ((n * 3) + 1) j13s0) ((n * 3) + 2) j29s0) (Y) (K) (((m : Nat) : Int)) (((n : Nat) : Int)) (((q : Nat) : Int)), tbC3 cI cL cZ ad (o) (upZ (upZ (upZ X (n * 3) a) ((n * 3) + 1) j13s0) ((n * 3) + 2) j29s0) (Y) (K) (((m : Nat) : Int)) (((n : Nat) : Int)) (((q : Nat) : Int))]) rfl dX9_add_129 ?_
            refine g_aload_n (pc := 130) hG 2 rfl dX9_add_130 ?_
            refine g_get (pc := 131) hG fl9_15 0 rfl rfl dX9_add_131 ?_
            refine g_aload_n (pc := 134) hG 2 rfl dX9_add_134 ?_
            refine g_get (pc := 135) hG fl9_26 0 rfl rfl dX9_add_135 ?_
            refine g_iload_n (pc := 138) hG 3 rfl dX9_add_138 ?_
            refine g_iastore (pc := 139) hG 2 n rfl rfl (by omega) (by omega) (by decide) (ws' := [tbC0 cI cL cZ ad (o) (upZ (upZ (upZ X (n * 3) a) ((n * 3) + 1) j13s0) ((n * 3) + 2) j29s0) (upZ Y n t) (K) (((m : Nat) : Int)) (((n : Nat) : Int)) (((q : Nat) : Int)), tbC1 cI cL cZ ad (o) (upZ (upZ (upZ X (n * 3) a) ((n * 3) + 1) j13s0) ((n * 3) + 2) j29s0) (upZ Y n t) (K) (((m : Nat) : Int)) (((n : Nat) : Int)) (((q : Nat) : Int)), tbC2 cI cL cZ ad (o) (upZ (upZ (upZ X (n * 3) a) ((n * 3) + 1) j13s0) ((n * 3) + 2) j29s0) (upZ Y n t) (K) (((m : Nat) : Int)) (((n : Nat) : Int)) (((q : Nat) : Int)), tbC3 cI cL cZ ad (o) (upZ (upZ (upZ X (n * 3) a) ((n * 3) + 1) j13s0) ((n * 3) + 2) j29s0) (upZ Y n t) (K) (((m : Nat) : Int)) (((n : Nat) : Int)) (((q : Nat) : Int))]) rfl dX9_add_139 ?_
            refine g_aload_n (pc := 140) hG 2 rfl dX9_add_140 ?_
            refine g_get (pc := 141) hG fl9_18 0 rfl rfl dX9_add_141 ?_
            refine g_aload_n (pc := 144) hG 2 rfl dX9_add_144 ?_
            refine g_get (pc := 145) hG fl9_26 0 rfl rfl dX9_add_145 ?_
            refine g_iconst (pc := 148) hG dX9_add_148 ?_
            refine g_bastore (pc := 149) hG (v := true) 3 n rfl rfl rfl (by omega) (by omega) (by decide) (ws' := [tbC0 cI cL cZ ad (o) (upZ (upZ (upZ X (n * 3) a) ((n * 3) + 1) j13s0) ((n * 3) + 2) j29s0) (upZ Y n t) (upB K n true) (((m : Nat) : Int)) (((n : Nat) : Int)) (((q : Nat) : Int)), tbC1 cI cL cZ ad (o) (upZ (upZ (upZ X (n * 3) a) ((n * 3) + 1) j13s0) ((n * 3) + 2) j29s0) (upZ Y n t) (upB K n true) (((m : Nat) : Int)) (((n : Nat) : Int)) (((q : Nat) : Int)), tbC2 cI cL cZ ad (o) (upZ (upZ (upZ X (n * 3) a) ((n * 3) + 1) j13s0) ((n * 3) + 2) j29s0) (upZ Y n t) (upB K n true) (((m : Nat) : Int)) (((n : Nat) : Int)) (((q : Nat) : Int)), tbC3 cI cL cZ ad (o) (upZ (upZ (upZ X (n * 3) a) ((n * 3) + 1) j13s0) ((n * 3) + 2) j29s0) (upZ Y n t) (upB K n true) (((m : Nat) : Int)) (((n : Nat) : Int)) (((q : Nat) : Int))]) rfl dX9_add_149 ?_
            refine g_aload_n (pc := 150) hG 2 rfl dX9_add_150 ?_
            refine g_dup (pc := 151) hG rfl dX9_add_151 ?_
            refine g_get (pc := 152) hG fl9_26 0 rfl rfl dX9_add_152 ?_
            refine g_iconst (pc := 155) hG dX9_add_155 ?_
            refine g_iadd (pc := 156) hG dX9_add_156 ?_
            refine g_put (pc := 157) hG fp9_26 0 rfl rfl rfl (Nat.le_of_ble_eq_true rfl) (ws' := [tbC0 cI cL cZ ad (o) (upZ (upZ (upZ X (n * 3) a) ((n * 3) + 1) j13s0) ((n * 3) + 2) j29s0) (upZ Y n t) (upB K n true) (((m : Nat) : Int)) (((n + 1 : Nat) : Int)) (((q : Nat) : Int)), tbC1 cI cL cZ ad (o) (upZ (upZ (upZ X (n * 3) a) ((n * 3) + 1) j13s0) ((n * 3) + 2) j29s0) (upZ Y n t) (upB K n true) (((m : Nat) : Int)) (((n + 1 : Nat) : Int)) (((q : Nat) : Int)), tbC2 cI cL cZ ad (o) (upZ (upZ (upZ X (n * 3) a) ((n * 3) + 1) j13s0) ((n * 3) + 2) j29s0) (upZ Y n t) (upB K n true) (((m : Nat) : Int)) (((n + 1 : Nat) : Int)) (((q : Nat) : Int)), tbC3 cI cL cZ ad (o) (upZ (upZ (upZ X (n * 3) a) ((n * 3) + 1) j13s0) ((n * 3) + 2) j29s0) (upZ Y n t) (upB K n true) (((m : Nat) : Int)) (((n + 1 : Nat) : Int)) (((q : Nat) : Int))]) rfl dX9_add_157 ?_
            refine g_aload_n (pc := 160) hG 2 rfl dX9_add_160 ?_
            refine g_dup (pc := 161) hG rfl dX9_add_161 ?_
            refine g_get (pc := 162) hG fl9_29 0 rfl rfl dX9_add_162 ?_
            refine g_iconst (pc := 165) hG dX9_add_165 ?_
            refine g_iadd (pc := 166) hG dX9_add_166 ?_
            refine g_put (pc := 167) hG fp9_29 0 rfl rfl rfl (Nat.le_of_ble_eq_true rfl) (ws' := [tbC0 cI cL cZ ad (o) (upZ (upZ (upZ X (n * 3) a) ((n * 3) + 1) j13s0) ((n * 3) + 2) j29s0) (upZ Y n t) (upB K n true) (((m : Nat) : Int)) (((n + 1 : Nat) : Int)) (((q + 1 : Nat) : Int)), tbC1 cI cL cZ ad (o) (upZ (upZ (upZ X (n * 3) a) ((n * 3) + 1) j13s0) ((n * 3) + 2) j29s0) (upZ Y n t) (upB K n true) (((m : Nat) : Int)) (((n + 1 : Nat) : Int)) (((q + 1 : Nat) : Int)), tbC2 cI cL cZ ad (o) (upZ (upZ (upZ X (n * 3) a) ((n * 3) + 1) j13s0) ((n * 3) + 2) j29s0) (upZ Y n t) (upB K n true) (((m : Nat) : Int)) (((n + 1 : Nat) : Int)) (((q + 1 : Nat) : Int)), tbC3 cI cL cZ ad (o) (upZ (upZ (upZ X (n * 3) a) ((n * 3) + 1) j13s0) ((n * 3) + 2) j29s0) (upZ Y n t) (upB K n true) (((m : Nat) : Int)) (((n + 1 : Nat) : Int)) (((q + 1 : Nat) : Int))]) rfl dX9_add_167 ?_
            refine g_aload_n (pc := 170) hG 2 rfl dX9_add_170 ?_
            refine g_get (pc := 171) hG fl9_26 0 rfl rfl dX9_add_171 ?_
            refine g_iconst (pc := 174) hG dX9_add_174 ?_
            refine g_isub (pc := 175) hG dX9_add_175 ?_
            exact g_ireturn (pc := 176) hG ⟨((n : Nat) : Int), upZ (upZ (upZ X (n * 3) a) ((n * 3) + 1) j13s0) ((n * 3) + 2) j29s0, upZ Y n t, upB K n true, n + 1, q + 1, AddR.yes k13 k29 (by grind) (by omega) h87, sI (by omega), rfl⟩ dX9_add_176
          · exact g_lv (pc := 90) hG [1, 2, 3, 4, 5, 6, 7, 0] rfl (J90 () (Or.inr (⟨h82, h87⟩)))
      refine g_ifb_eq (pc := 37) hG (tgt := 73) (by decide) dX9_add_37 (fun h37 => ?_) (fun h37 => ?_)
      · refine g_iconst (pc := 73) hG dX9_add_73 ?_
        exact g_lv (pc := 74) hG [1, 2, 3, 4, 5, 6, 0] rfl (J74 false (Or.inl ⟨h37, rfl⟩))
      · refine g_iload_n (pc := 40) hG 3 rfl dX9_add_40 ?_
        refine g_bipush (pc := 41) hG dX9_add_41 (by decide) ?_
        refine g_callP (pc := 43) hG (As := [iV (a), iV (9)]) (rest := []) (c_X9_isWithin (l := l) (D := D) (cI := cI) (cL := cL) (cZ := cZ) (cX := cX) (cG := cG) a 9 (by omega) (by omega)) cs9_40 ⟨rfl, rfl⟩ ⟨Nat.le_of_ble_eq_true rfl, Nat.le_of_ble_eq_true rfl⟩ rfl rfl (Nat.le_of_ble_eq_true rfl) dX9_add_43 (fun v h => ?_)
        obtain ⟨rfl, -⟩ := h
        show G 46 [(6, iV (j29s0)), (0, .ref (ad (o))), (1, iV (t)), (2, iV (a)), (3, iV (b)), (4, iV (c)), (5, iV (j13s0))] [bV (decide (-9 ≤ a ∧ a ≤ 9))] ([tbC0 cI cL cZ ad (o) (X) (Y) (K) (((m : Nat) : Int)) (((n : Nat) : Int)) (((q : Nat) : Int)), tbC1 cI cL cZ ad (o) (X) (Y) (K) (((m : Nat) : Int)) (((n : Nat) : Int)) (((q : Nat) : Int)), tbC2 cI cL cZ ad (o) (X) (Y) (K) (((m : Nat) : Int)) (((n : Nat) : Int)) (((q : Nat) : Int)), tbC3 cI cL cZ ad (o) (X) (Y) (K) (((m : Nat) : Int)) (((n : Nat) : Int)) (((q : Nat) : Int))])
        refine g_ifb_eq (pc := 46) hG (tgt := 73) (by decide) dX9_add_46 (fun h46 => ?_) (fun h46 => ?_)
        · refine g_iconst (pc := 73) hG dX9_add_73 ?_
          exact g_lv (pc := 74) hG [1, 2, 3, 4, 5, 6, 0] rfl (J74 false (Or.inr (Or.inl ⟨h37, h46, rfl⟩)))
        · refine g_iload (pc := 49) hG 6 rfl dX9_add_49 ?_
          refine g_bipush (pc := 51) hG dX9_add_51 (by decide) ?_
          refine g_callP (pc := 53) hG (As := [iV (j13s0), iV (9)]) (rest := []) (c_X9_isWithin (l := l) (D := D) (cI := cI) (cL := cL) (cZ := cZ) (cX := cX) (cG := cG) j13s0 9 (by omega) (by omega)) cs9_40 ⟨rfl, rfl⟩ ⟨Nat.le_of_ble_eq_true rfl, Nat.le_of_ble_eq_true rfl⟩ rfl rfl (Nat.le_of_ble_eq_true rfl) dX9_add_53 (fun v h => ?_)
          obtain ⟨rfl, -⟩ := h
          show G 56 [(6, iV (j29s0)), (0, .ref (ad (o))), (1, iV (t)), (2, iV (a)), (3, iV (b)), (4, iV (c)), (5, iV (j13s0))] [bV (decide (-9 ≤ j13s0 ∧ j13s0 ≤ 9))] ([tbC0 cI cL cZ ad (o) (X) (Y) (K) (((m : Nat) : Int)) (((n : Nat) : Int)) (((q : Nat) : Int)), tbC1 cI cL cZ ad (o) (X) (Y) (K) (((m : Nat) : Int)) (((n : Nat) : Int)) (((q : Nat) : Int)), tbC2 cI cL cZ ad (o) (X) (Y) (K) (((m : Nat) : Int)) (((n : Nat) : Int)) (((q : Nat) : Int)), tbC3 cI cL cZ ad (o) (X) (Y) (K) (((m : Nat) : Int)) (((n : Nat) : Int)) (((q : Nat) : Int))])
          refine g_ifb_eq (pc := 56) hG (tgt := 73) (by decide) dX9_add_56 (fun h56 => ?_) (fun h56 => ?_)
          · refine g_iconst (pc := 73) hG dX9_add_73 ?_
            exact g_lv (pc := 74) hG [1, 2, 3, 4, 5, 6, 0] rfl (J74 false (Or.inr (Or.inr (Or.inl ⟨h37, h46, h56, rfl⟩))))
          · refine g_iload (pc := 59) hG 0 rfl dX9_add_59 ?_
            refine g_bipush (pc := 61) hG dX9_add_61 (by decide) ?_
            refine g_callP (pc := 63) hG (As := [iV (j29s0), iV (9)]) (rest := []) (c_X9_isWithin (l := l) (D := D) (cI := cI) (cL := cL) (cZ := cZ) (cX := cX) (cG := cG) j29s0 9 (by omega) (by omega)) cs9_40 ⟨rfl, rfl⟩ ⟨Nat.le_of_ble_eq_true rfl, Nat.le_of_ble_eq_true rfl⟩ rfl rfl (Nat.le_of_ble_eq_true rfl) dX9_add_63 (fun v h => ?_)
            obtain ⟨rfl, -⟩ := h
            show G 66 [(6, iV (j29s0)), (0, .ref (ad (o))), (1, iV (t)), (2, iV (a)), (3, iV (b)), (4, iV (c)), (5, iV (j13s0))] [bV (decide (-9 ≤ j29s0 ∧ j29s0 ≤ 9))] ([tbC0 cI cL cZ ad (o) (X) (Y) (K) (((m : Nat) : Int)) (((n : Nat) : Int)) (((q : Nat) : Int)), tbC1 cI cL cZ ad (o) (X) (Y) (K) (((m : Nat) : Int)) (((n : Nat) : Int)) (((q : Nat) : Int)), tbC2 cI cL cZ ad (o) (X) (Y) (K) (((m : Nat) : Int)) (((n : Nat) : Int)) (((q : Nat) : Int)), tbC3 cI cL cZ ad (o) (X) (Y) (K) (((m : Nat) : Int)) (((n : Nat) : Int)) (((q : Nat) : Int))])
            refine g_ifb_eq (pc := 66) hG (tgt := 73) (by decide) dX9_add_66 (fun h66 => ?_) (fun h66 => ?_)
            · refine g_iconst (pc := 73) hG dX9_add_73 ?_
              exact g_lv (pc := 74) hG [1, 2, 3, 4, 5, 6, 0] rfl (J74 false (Or.inr (Or.inr (Or.inr (Or.inl ⟨h37, h46, h56, h66, rfl⟩)))))
            · refine g_iconst (pc := 69) hG dX9_add_69 ?_
              refine g_goto (pc := 70) hG (tgt := 74) (by decide) dX9_add_70 ?_
              exact g_lv (pc := 74) hG [1, 2, 3, 4, 5, 6, 0] rfl (J74 true (Or.inr (Or.inr (Or.inr (Or.inr (⟨h37, h46, h56, h66, rfl⟩))))))
    refine g_icmp_le (pc := 20) hG (by omega) (by omega) (tgt := 28) (by decide) dX9_add_20 (fun h20 => ?_) (fun h20 => ?_)
    · refine g_iconst (pc := 28) hG dX9_add_28 ?_
      exact g_lv (pc := 29) hG [1, 2, 3, 4, 5, 0] rfl (J29 0 (Or.inl ⟨h20, rfl⟩))
    · refine g_iload (pc := 23) hG 5 rfl dX9_add_23 ?_
      refine g_goto (pc := 25) hG (tgt := 29) (by decide) dX9_add_25 ?_
      exact g_lv (pc := 29) hG [1, 2, 3, 4, 5, 0] rfl (J29 c (Or.inr (⟨h20, rfl⟩)))
  refine g_icmp_le (pc := 5) hG (by omega) (by omega) (tgt := 12) (by decide) dX9_add_5 (fun h5 => ?_) (fun h5 => ?_)
  · refine g_iconst (pc := 12) hG dX9_add_12 ?_
    exact g_lv (pc := 13) hG [0, 1, 2, 3, 4] rfl (J13 0 (Or.inl ⟨h5, rfl⟩))
  · refine g_iload_n (pc := 8) hG 3 rfl dX9_add_8 ?_
    refine g_goto (pc := 9) hG (tgt := 13) (by decide) dX9_add_9 ?_
    exact g_lv (pc := 13) hG [0, 1, 2, 3, 4] rfl (J13 b (Or.inr (⟨h5, rfl⟩)))
set_option maxHeartbeats 4000000 in
set_option maxRecDepth 100000 in
theorem c_X8_clear {l : Launch} {D : va_G} {cI cL cZ cX cG : ClassId} (ad : Nat → Nat) (o : Nat) (P : Nat → Int) (R : Nat → Int) (ts : Int) (rk : Int)  : Ct l D (gT cI cL cZ cX cG) yX8_clear cX8_clear 2 none ({ frames := 0, cells := 0, slots := 0, locals := 0 }) [.ref (ad (o))] ([sqoC0 cI cL cZ ad (o) (ts) (rk), l9C0 cI cL cZ ad (o + 1) (P), l3C0 cI cL cZ ad (o + 2) (R)]) (fun vv_ ww_ => ∃ (P2 : Nat → Int), ∃ (R2 : Nat → Int), (∀ j, j < 9 → P2 j = 0) ∧ (∀ j, j < 3 → R2 j = 0) ∧ vv_ = none ∧ ww_ = [sqoC0 cI cL cZ ad (o) (0) (rk), l9C0 cI cL cZ ad (o + 1) (P2), l3C0 cI cL cZ ad (o + 2) (R2)]) := by
  refine Ct.of (by decide) (Nat.le_of_ble_eq_true rfl) (fun G hG => ?_)
  show G 0 [(0, .ref (ad (o)))] [] ([sqoC0 cI cL cZ ad (o) (ts) (rk), l9C0 cI cL cZ ad (o + 1) (P), l3C0 cI cL cZ ad (o + 2) (R)])
  refine g_iconst (pc := 0) hG dX8_clear_0 ?_
  refine g_istore_n (pc := 1) hG (by decide) (lv' := [(1, iV (0)), (0, .ref (ad (o)))]) rfl dX8_clear_1 ?_
  have L2 : ∀ (fu2 : Nat) (c : Nat) (p9 : Nat → Int), 9 - c < fu2 → (c ≤ 9) → (∀ j, j < c → p9 j = 0) → G 2 [(0, .ref (ad (o))), (1, iV (((c : Nat) : Int)))] [] ([sqoC0 cI cL cZ ad (o) (ts) (rk), l9C0 cI cL cZ ad (o + 1) (p9), l3C0 cI cL cZ ad (o + 2) (R)]) := by
    intro fu2
    induction fu2 with
    | zero => intro c p9 hm; exact absurd hm (Nat.not_lt_zero _)
    | succ fu2 ih2 =>
      intro c p9 hm2 hc hp
      refine g_iload_n (pc := 2) hG 1 rfl dX8_clear_2 ?_
      refine g_aload_n (pc := 3) hG 0 rfl dX8_clear_3 ?_
      refine g_get (pc := 4) hG fl8_9 0 rfl rfl dX8_clear_4 ?_
      refine g_arraylength (pc := 7) hG 1 1 rfl rfl (z := 9) rfl dX8_clear_7 ?_
      refine g_icmp_ge (pc := 8) hG (by omega) (by omega) (tgt := 24) (by decide) dX8_clear_8 (fun h8 => ?_) (fun h8 => ?_)
      · refine g_iconst (pc := 24) hG dX8_clear_24 ?_
        refine g_istore_n (pc := 25) hG (by decide) (lv' := [(1, iV (0)), (0, .ref (ad (o)))]) rfl dX8_clear_25 ?_
        have L26 : ∀ (fu26 : Nat) (c2 : Nat) (r9 : Nat → Int), 3 - c2 < fu26 → (c2 ≤ 3) → (∀ j, j < c2 → r9 j = 0) → G 26 [(0, .ref (ad (o))), (1, iV (((c2 : Nat) : Int)))] [] ([sqoC0 cI cL cZ ad (o) (ts) (rk), l9C0 cI cL cZ ad (o + 1) (p9), l3C0 cI cL cZ ad (o + 2) (r9)]) := by
          intro fu26
          induction fu26 with
          | zero => intro c2 r9 hm; exact absurd hm (Nat.not_lt_zero _)
          | succ fu26 ih26 =>
            intro c2 r9 hm26 hc2 hr
            refine g_iload_n (pc := 26) hG 1 rfl dX8_clear_26 ?_
            refine g_iconst (pc := 27) hG dX8_clear_27 ?_
            refine g_icmp_ge (pc := 28) hG (by omega) (by omega) (tgt := 44) (by decide) dX8_clear_28 (fun h28 => ?_) (fun h28 => ?_)
            · refine g_aload_n (pc := 44) hG 0 rfl dX8_clear_44 ?_
              refine g_lconst (z := 0) (pc := 45) hG dX8_clear_45 (by decide) ?_
              refine g_put (pc := 46) hG fp8_24 0 rfl rfl rfl (Nat.le_of_ble_eq_true rfl) (ws' := [sqoC0 cI cL cZ ad (o) (0) (rk), l9C0 cI cL cZ ad (o + 1) (p9), l3C0 cI cL cZ ad (o + 2) (r9)]) rfl dX8_clear_46 ?_
              exact g_return (pc := 49) hG ⟨p9, r9, fun j h => hp j (by omega), fun j h => hr j (by omega), rfl, rfl⟩ dX8_clear_49
            · refine g_aload_n (pc := 31) hG 0 rfl dX8_clear_31 ?_
              refine g_get (pc := 32) hG fl8_15 0 rfl rfl dX8_clear_32 ?_
              refine g_iload_n (pc := 35) hG 1 rfl dX8_clear_35 ?_
              refine g_lconst (z := 0) (pc := 36) hG dX8_clear_36 (by decide) ?_
              refine g_lastore (pc := 37) hG 2 c2 rfl rfl (by omega) (by omega) (by decide) (ws' := [sqoC0 cI cL cZ ad (o) (ts) (rk), l9C0 cI cL cZ ad (o + 1) (p9), l3C0 cI cL cZ ad (o + 2) (upZ r9 c2 0)]) rfl dX8_clear_37 ?_
              refine g_iinc (pc := 38) hG 1 rfl (by decide) (lv' := [(1, iV ((((c2 : Nat) : Int)) + 1)), (0, .ref (ad (o)))]) rfl dX8_clear_38 ?_
              refine g_goto (pc := 41) hG (tgt := 26) (by decide) dX8_clear_41 ?_
              exact g_lv (pc := 26) hG [1, 0] rfl (ih26 (c2 + 1) (upZ r9 c2 0) (by omega) (by omega) (fill_step (g := fun _ => 0) hr rfl))
        exact g_lv (pc := 26) hG [1, 0] rfl (L26 _ 0 R (Nat.lt_succ_self _) (by omega) (fun j h => absurd h (Nat.not_lt_zero _)))
      · refine g_aload_n (pc := 11) hG 0 rfl dX8_clear_11 ?_
        refine g_get (pc := 12) hG fl8_9 0 rfl rfl dX8_clear_12 ?_
        refine g_iload_n (pc := 15) hG 1 rfl dX8_clear_15 ?_
        refine g_lconst (z := 0) (pc := 16) hG dX8_clear_16 (by decide) ?_
        refine g_lastore (pc := 17) hG 1 c rfl rfl (by omega) (by omega) (by decide) (ws' := [sqoC0 cI cL cZ ad (o) (ts) (rk), l9C0 cI cL cZ ad (o + 1) (upZ p9 c 0), l3C0 cI cL cZ ad (o + 2) (R)]) rfl dX8_clear_17 ?_
        refine g_iinc (pc := 18) hG 1 rfl (by decide) (lv' := [(1, iV ((((c : Nat) : Int)) + 1)), (0, .ref (ad (o)))]) rfl dX8_clear_18 ?_
        refine g_goto (pc := 21) hG (tgt := 2) (by decide) dX8_clear_21 ?_
        exact g_lv (pc := 2) hG [1, 0] rfl (ih2 (c + 1) (upZ p9 c 0) (by omega) (by omega) (fill_step (g := fun _ => 0) hp rfl))
  exact g_lv (pc := 2) hG [1, 0] rfl (L2 _ 0 P (Nat.lt_succ_self _) (by omega) (fun j h => absurd h (Nat.not_lt_zero _)))
set_option maxHeartbeats 4000000 in
set_option maxRecDepth 100000 in
theorem c_X8_add {l : Launch} {D : va_G} {cI cL cZ cX cG : ClassId} (ad : Nat → Nat) (o : Nat) (o2 : Nat) (P : Nat → Int) (R : Nat → Int) (ts : Int) (rk : Int) (X : Nat → Int) (Y : Nat → Int) (K : Nat → Bool) (m : Nat) (n : Nat) (q : Int) (r : Nat) (hr : r < 24) (hX : ∀ j, j < 3 → InI (X (r * 3 + j))) (hY : InI (Y r)) : Ct l D (gT cI cL cZ cX cG) yX8_add cX8_add 9 none ({ frames := 1, cells := 0, slots := 0, locals := 22 }) [.ref (ad (o)), .ref (ad (o2)), iV (((r : Nat) : Int))] ([sqoC0 cI cL cZ ad (o) (ts) (rk), l9C0 cI cL cZ ad (o + 1) (P), l3C0 cI cL cZ ad (o + 2) (R), tbC0 cI cL cZ ad (o2) (X) (Y) (K) (((m : Nat) : Int)) (((n : Nat) : Int)) (q), tbC1 cI cL cZ ad (o2) (X) (Y) (K) (((m : Nat) : Int)) (((n : Nat) : Int)) (q), tbC2 cI cL cZ ad (o2) (X) (Y) (K) (((m : Nat) : Int)) (((n : Nat) : Int)) (q), tbC3 cI cL cZ ad (o2) (X) (Y) (K) (((m : Nat) : Int)) (((n : Nat) : Int)) (q)]) (fun vv_ ww_ => ∃ (P2 : Nat → Int), ∃ (R2 : Nat → Int), ∃ (t2 : Int), (∀ i j, i < 3 → j < 3 → P2 (i * 3 + j) = P (i * 3 + j) + X (r * 3 + i) * X (r * 3 + j)) ∧ (∀ i, i < 3 → R2 i = R i + X (r * 3 + i) * Y r) ∧ (t2 = ts + Y r * Y r) ∧ vv_ = none ∧ ww_ = [sqoC0 cI cL cZ ad (o) (t2) (rk), l9C0 cI cL cZ ad (o + 1) (P2), l3C0 cI cL cZ ad (o + 2) (R2), tbC0 cI cL cZ ad (o2) (X) (Y) (K) (((m : Nat) : Int)) (((n : Nat) : Int)) (q), tbC1 cI cL cZ ad (o2) (X) (Y) (K) (((m : Nat) : Int)) (((n : Nat) : Int)) (q), tbC2 cI cL cZ ad (o2) (X) (Y) (K) (((m : Nat) : Int)) (((n : Nat) : Int)) (q), tbC3 cI cL cZ ad (o2) (X) (Y) (K) (((m : Nat) : Int)) (((n : Nat) : Int)) (q)]) := by
  refine Ct.of (by decide) (Nat.le_of_ble_eq_true rfl) (fun G hG => ?_)
  show G 0 [(0, .ref (ad (o))), (1, .ref (ad (o2))), (2, iV (((r : Nat) : Int)))] [] ([sqoC0 cI cL cZ ad (o) (ts) (rk), l9C0 cI cL cZ ad (o + 1) (P), l3C0 cI cL cZ ad (o + 2) (R), tbC0 cI cL cZ ad (o2) (X) (Y) (K) (((m : Nat) : Int)) (((n : Nat) : Int)) (q), tbC1 cI cL cZ ad (o2) (X) (Y) (K) (((m : Nat) : Int)) (((n : Nat) : Int)) (q), tbC2 cI cL cZ ad (o2) (X) (Y) (K) (((m : Nat) : Int)) (((n : Nat) : Int)) (q), tbC3 cI cL cZ ad (o2) (X) (Y) (K) (((m : Nat) : Int)) (((n : Nat) : Int)) (q)])
  refine g_aload_n (pc := 0) hG 1 rfl dX8_add_0 ?_
  refine g_get (pc := 1) hG fl8_28 3 rfl rfl dX8_add_1 ?_
  refine g_iload_n (pc := 4) hG 2 rfl dX8_add_4 ?_
  refine g_iaload (pc := 5) hG 5 r rfl rfl (by omega) (by omega) (by decide) dX8_add_5 ?_
  refine g_i2l (pc := 6) hG (by exact hY) dX8_add_6 ?_
  refine g_lstore_n (pc := 7) hG (by decide) (lv' := [(3, lV (Y r)), (0, .ref (ad (o))), (1, .ref (ad (o2))), (2, iV (((r : Nat) : Int)))]) rfl dX8_add_7 ?_
  refine g_iconst (pc := 8) hG dX8_add_8 ?_
  refine g_istore (pc := 9) hG (by decide) (lv' := [(5, iV (0)), (3, lV (Y r)), (0, .ref (ad (o))), (1, .ref (ad (o2))), (2, iV (((r : Nat) : Int)))]) rfl dX8_add_9 ?_
  have L11 : ∀ (fu11 : Nat) (i : Nat) (p9 : Nat → Int) (r9 : Nat → Int), 3 - i < fu11 → (i ≤ 3) → (GAdd P p9 X r i 0) → (∀ j, j < 3 → r9 j = if j < i then R j + X (r * 3 + j) * Y r else R j) → G 11 [(0, .ref (ad (o))), (1, .ref (ad (o2))), (2, iV (((r : Nat) : Int))), (3, lV (Y r)), (5, iV (((i : Nat) : Int)))] [] ([sqoC0 cI cL cZ ad (o) (ts) (rk), l9C0 cI cL cZ ad (o + 1) (p9), l3C0 cI cL cZ ad (o + 2) (r9), tbC0 cI cL cZ ad (o2) (X) (Y) (K) (((m : Nat) : Int)) (((n : Nat) : Int)) (q), tbC1 cI cL cZ ad (o2) (X) (Y) (K) (((m : Nat) : Int)) (((n : Nat) : Int)) (q), tbC2 cI cL cZ ad (o2) (X) (Y) (K) (((m : Nat) : Int)) (((n : Nat) : Int)) (q), tbC3 cI cL cZ ad (o2) (X) (Y) (K) (((m : Nat) : Int)) (((n : Nat) : Int)) (q)]) := by
    intro fu11
    induction fu11 with
    | zero => intro i p9 r9 hm; exact absurd hm (Nat.not_lt_zero _)
    | succ fu11 ih11 =>
      intro i p9 r9 hm11 hi hp hrr
      refine g_iload (pc := 11) hG 4 rfl dX8_add_11 ?_
      refine g_iconst (pc := 13) hG dX8_add_13 ?_
      refine g_icmp_ge (pc := 14) hG (by omega) (by omega) (tgt := 88) (by decide) dX8_add_14 (fun h14 => ?_) (fun h14 => ?_)
      · refine g_aload_n (pc := 88) hG 0 rfl dX8_add_88 ?_
        refine g_dup (pc := 89) hG rfl dX8_add_89 ?_
        refine g_get (pc := 90) hG fl8_24 0 rfl rfl dX8_add_90 ?_
        refine g_lload_n (pc := 93) hG 3 rfl dX8_add_93 ?_
        refine g_lload_n (pc := 94) hG 3 rfl dX8_add_94 ?_
        refine g_lmul (pc := 95) hG dX8_add_95 ?_
        refine g_ladd (pc := 96) hG dX8_add_96 ?_
        refine g_nmL (pc := 97) hG (fun x97 ex97 => ?_)
        refine g_put (pc := 97) hG fp8_24 0 rfl rfl rfl (Nat.le_of_ble_eq_true rfl) (ws' := [sqoC0 cI cL cZ ad (o) (x97) (rk), l9C0 cI cL cZ ad (o + 1) (p9), l3C0 cI cL cZ ad (o + 2) (r9), tbC0 cI cL cZ ad (o2) (X) (Y) (K) (((m : Nat) : Int)) (((n : Nat) : Int)) (q), tbC1 cI cL cZ ad (o2) (X) (Y) (K) (((m : Nat) : Int)) (((n : Nat) : Int)) (q), tbC2 cI cL cZ ad (o2) (X) (Y) (K) (((m : Nat) : Int)) (((n : Nat) : Int)) (q), tbC3 cI cL cZ ad (o2) (X) (Y) (K) (((m : Nat) : Int)) (((n : Nat) : Int)) (q)]) rfl dX8_add_97 ?_
        exact g_return (pc := 100) hG ⟨p9, r9, x97, hp.out (by omega), fun i h => by rw [hrr i h, if_pos (by omega)], by omega, rfl, rfl⟩ dX8_add_100
      · refine g_aload_n (pc := 17) hG 1 rfl dX8_add_17 ?_
        refine g_iload_n (pc := 18) hG 2 rfl dX8_add_18 ?_
        refine g_iload (pc := 19) hG 4 rfl dX8_add_19 ?_
        refine g_callV (pc := 21) hG (As := [iV (((r : Nat) : Int)), iV (((i : Nat) : Int))]) (rest := []) (c_X9_number (l := l) (D := D) (cI := cI) (cL := cL) (cZ := cZ) (cX := cX) (cG := cG) ad o2 X Y K m n q r i (by omega) (by omega)) (Sp.sel [3, 4, 5, 6] rfl (by decide)) cv8_34 ⟨rfl, rfl⟩ ⟨Nat.le_of_ble_eq_true rfl, Nat.le_of_ble_eq_true rfl⟩ 3 rfl rfl rfl rfl (Nat.le_of_ble_eq_true rfl) dX8_add_21 (fun v w1 h => ?_)
        obtain ⟨rfl, rfl⟩ := h
        show G 24 [(0, .ref (ad (o))), (1, .ref (ad (o2))), (2, iV (((r : Nat) : Int))), (3, lV (Y r)), (5, iV (((i : Nat) : Int)))] [iV (X (r * 3 + i))] ([sqoC0 cI cL cZ ad (o) (ts) (rk), l9C0 cI cL cZ ad (o + 1) (p9), l3C0 cI cL cZ ad (o + 2) (r9), tbC0 cI cL cZ ad (o2) (X) (Y) (K) (((m : Nat) : Int)) (((n : Nat) : Int)) (q), tbC1 cI cL cZ ad (o2) (X) (Y) (K) (((m : Nat) : Int)) (((n : Nat) : Int)) (q), tbC2 cI cL cZ ad (o2) (X) (Y) (K) (((m : Nat) : Int)) (((n : Nat) : Int)) (q), tbC3 cI cL cZ ad (o2) (X) (Y) (K) (((m : Nat) : Int)) (((n : Nat) : Int)) (q)])
        refine g_i2l (pc := 24) hG (by exact hX i (by omega)) dX8_add_24 ?_
        refine g_lstore (pc := 25) hG (by decide) (lv' := [(6, lV (X (r * 3 + i))), (0, .ref (ad (o))), (1, .ref (ad (o2))), (2, iV (((r : Nat) : Int))), (3, lV (Y r)), (5, iV (((i : Nat) : Int)))]) rfl dX8_add_25 ?_
        refine g_iconst (pc := 27) hG dX8_add_27 ?_
        refine g_istore (pc := 28) hG (by decide) (lv' := [(8, iV (0)), (6, lV (X (r * 3 + i))), (0, .ref (ad (o))), (1, .ref (ad (o2))), (2, iV (((r : Nat) : Int))), (3, lV (Y r)), (5, iV (((i : Nat) : Int)))]) rfl dX8_add_28 ?_
        have L30 : ∀ (fu30 : Nat) (j : Nat) (p8 : Nat → Int), 3 - j < fu30 → (j ≤ 3) → (GAdd P p8 X r i j) → G 30 [(0, .ref (ad (o))), (1, .ref (ad (o2))), (2, iV (((r : Nat) : Int))), (3, lV (Y r)), (5, iV (((i : Nat) : Int))), (6, lV (X (r * 3 + i))), (8, iV (((j : Nat) : Int)))] [] ([sqoC0 cI cL cZ ad (o) (ts) (rk), l9C0 cI cL cZ ad (o + 1) (p8), l3C0 cI cL cZ ad (o + 2) (r9), tbC0 cI cL cZ ad (o2) (X) (Y) (K) (((m : Nat) : Int)) (((n : Nat) : Int)) (q), tbC1 cI cL cZ ad (o2) (X) (Y) (K) (((m : Nat) : Int)) (((n : Nat) : Int)) (q), tbC2 cI cL cZ ad (o2) (X) (Y) (K) (((m : Nat) : Int)) (((n : Nat) : Int)) (q), tbC3 cI cL cZ ad (o2) (X) (Y) (K) (((m : Nat) : Int)) (((n : Nat) : Int)) (q)]) := by
          intro fu30
          induction fu30 with
          | zero => intro j p8 hm; exact absurd hm (Nat.not_lt_zero _)
          | succ fu30 ih30 =>
            intro j p8 hm30 hj hp2
            refine g_iload (pc := 30) hG 6 rfl dX8_add_30 ?_
            refine g_iconst (pc := 32) hG dX8_add_32 ?_
            refine g_icmp_ge (pc := 33) hG (by omega) (by omega) (tgt := 68) (by decide) dX8_add_33 (fun h33 => ?_) (fun h33 => ?_)
            · refine g_aload_n (pc := 68) hG 0 rfl dX8_add_68 ?_
              refine g_get (pc := 69) hG fl8_15 0 rfl rfl dX8_add_69 ?_
              refine g_iload (pc := 72) hG 4 rfl dX8_add_72 ?_
              refine g_dup2_11 (pc := 74) hG rfl rfl dX8_add_74 ?_
              refine g_laload (pc := 75) hG 2 i rfl rfl (by omega) (by omega) (by decide) dX8_add_75 ?_
              refine g_lload (pc := 76) hG 5 rfl dX8_add_76 ?_
              refine g_lload_n (pc := 78) hG 3 rfl dX8_add_78 ?_
              refine g_lmul (pc := 79) hG dX8_add_79 ?_
              refine g_ladd (pc := 80) hG dX8_add_80 ?_
              refine g_nmL (pc := 81) hG (fun x81 ex81 => ?_)
              refine g_lastore (pc := 81) hG 2 i rfl rfl (by omega) (by omega) (by decide) (ws' := [sqoC0 cI cL cZ ad (o) (ts) (rk), l9C0 cI cL cZ ad (o + 1) (p8), l3C0 cI cL cZ ad (o + 2) (upZ r9 i x81), tbC0 cI cL cZ ad (o2) (X) (Y) (K) (((m : Nat) : Int)) (((n : Nat) : Int)) (q), tbC1 cI cL cZ ad (o2) (X) (Y) (K) (((m : Nat) : Int)) (((n : Nat) : Int)) (q), tbC2 cI cL cZ ad (o2) (X) (Y) (K) (((m : Nat) : Int)) (((n : Nat) : Int)) (q), tbC3 cI cL cZ ad (o2) (X) (Y) (K) (((m : Nat) : Int)) (((n : Nat) : Int)) (q)]) rfl dX8_add_81 ?_
              refine g_iinc (pc := 82) hG 4 rfl (by decide) (lv' := [(5, iV ((((i : Nat) : Int)) + 1)), (0, .ref (ad (o))), (1, .ref (ad (o2))), (2, iV (((r : Nat) : Int))), (3, lV (Y r)), (6, lV (X (r * 3 + i))), (8, iV (((j : Nat) : Int)))]) rfl dX8_add_82 ?_
              refine g_goto (pc := 85) hG (tgt := 11) (by decide) dX8_add_85 ?_
              exact g_lv (pc := 11) hG [1, 2, 3, 4, 0] rfl (ih11 (i + 1) p8 (upZ r9 i x81) (by omega) (by omega) (hp2.next (by omega)) (radd_step hrr (by omega) (by omega)))
            · refine g_aload_n (pc := 36) hG 0 rfl dX8_add_36 ?_
              refine g_get (pc := 37) hG fl8_9 0 rfl rfl dX8_add_37 ?_
              refine g_iload (pc := 40) hG 4 rfl dX8_add_40 ?_
              refine g_iconst (pc := 42) hG dX8_add_42 ?_
              refine g_imul (pc := 43) hG dX8_add_43 ?_
              refine g_iload (pc := 44) hG 6 rfl dX8_add_44 ?_
              refine g_iadd (pc := 46) hG dX8_add_46 ?_
              refine g_dup2_11 (pc := 47) hG rfl rfl dX8_add_47 ?_
              refine g_laload (pc := 48) hG 1 ((i * 3) + j) rfl rfl (by omega) (by omega) (by decide) dX8_add_48 ?_
              refine g_lload (pc := 49) hG 5 rfl dX8_add_49 ?_
              refine g_aload_n (pc := 51) hG 1 rfl dX8_add_51 ?_
              refine g_iload_n (pc := 52) hG 2 rfl dX8_add_52 ?_
              refine g_iload (pc := 53) hG 6 rfl dX8_add_53 ?_
              refine g_callV (pc := 55) hG (As := [iV (((r : Nat) : Int)), iV (((j : Nat) : Int))]) (rest := [lV (X (r * 3 + i)), lV (p8 ((i * 3) + j)), iV (((((i : Nat) : Int)) * 3) + (((j : Nat) : Int))), .ref (ad (o + 1))]) (c_X9_number (l := l) (D := D) (cI := cI) (cL := cL) (cZ := cZ) (cX := cX) (cG := cG) ad o2 X Y K m n q r j (by omega) (by omega)) (Sp.sel [3, 4, 5, 6] rfl (by decide)) cv8_34 ⟨rfl, rfl⟩ ⟨Nat.le_of_ble_eq_true rfl, Nat.le_of_ble_eq_true rfl⟩ 3 rfl rfl rfl rfl (Nat.le_of_ble_eq_true rfl) dX8_add_55 (fun v w1 h => ?_)
              obtain ⟨rfl, rfl⟩ := h
              show G 58 [(0, .ref (ad (o))), (1, .ref (ad (o2))), (2, iV (((r : Nat) : Int))), (3, lV (Y r)), (5, iV (((i : Nat) : Int))), (6, lV (X (r * 3 + i))), (8, iV (((j : Nat) : Int)))] [iV (X (r * 3 + j)), lV (X (r * 3 + i)), lV (p8 ((i * 3) + j)), iV (((((i : Nat) : Int)) * 3) + (((j : Nat) : Int))), .ref (ad (o + 1))] ([sqoC0 cI cL cZ ad (o) (ts) (rk), l9C0 cI cL cZ ad (o + 1) (p8), l3C0 cI cL cZ ad (o + 2) (r9), tbC0 cI cL cZ ad (o2) (X) (Y) (K) (((m : Nat) : Int)) (((n : Nat) : Int)) (q), tbC1 cI cL cZ ad (o2) (X) (Y) (K) (((m : Nat) : Int)) (((n : Nat) : Int)) (q), tbC2 cI cL cZ ad (o2) (X) (Y) (K) (((m : Nat) : Int)) (((n : Nat) : Int)) (q), tbC3 cI cL cZ ad (o2) (X) (Y) (K) (((m : Nat) : Int)) (((n : Nat) : Int)) (q)])
              refine g_i2l (pc := 58) hG (by exact hX j (by omega)) dX8_add_58 ?_
              refine g_lmul (pc := 59) hG dX8_add_59 ?_
              refine g_ladd (pc := 60) hG dX8_add_60 ?_
              refine g_nmL (pc := 61) hG (fun x61 ex61 => ?_)
              refine g_lastore (pc := 61) hG 1 ((i * 3) + j) rfl rfl (by omega) (by omega) (by decide) (ws' := [sqoC0 cI cL cZ ad (o) (ts) (rk), l9C0 cI cL cZ ad (o + 1) (upZ p8 ((i * 3) + j) x61), l3C0 cI cL cZ ad (o + 2) (r9), tbC0 cI cL cZ ad (o2) (X) (Y) (K) (((m : Nat) : Int)) (((n : Nat) : Int)) (q), tbC1 cI cL cZ ad (o2) (X) (Y) (K) (((m : Nat) : Int)) (((n : Nat) : Int)) (q), tbC2 cI cL cZ ad (o2) (X) (Y) (K) (((m : Nat) : Int)) (((n : Nat) : Int)) (q), tbC3 cI cL cZ ad (o2) (X) (Y) (K) (((m : Nat) : Int)) (((n : Nat) : Int)) (q)]) rfl dX8_add_61 ?_
              refine g_iinc (pc := 62) hG 6 rfl (by decide) (lv' := [(8, iV ((((j : Nat) : Int)) + 1)), (0, .ref (ad (o))), (1, .ref (ad (o2))), (2, iV (((r : Nat) : Int))), (3, lV (Y r)), (5, iV (((i : Nat) : Int))), (6, lV (X (r * 3 + i)))]) rfl dX8_add_62 ?_
              refine g_goto (pc := 65) hG (tgt := 30) (by decide) dX8_add_65 ?_
              exact g_lv (pc := 30) hG [1, 2, 3, 4, 5, 6, 0] rfl (ih30 (j + 1) (upZ p8 ((i * 3) + j) x61) (by omega) (by omega) (hp2.step (by omega) (by omega) ex61))
        exact g_lv (pc := 30) hG [2, 3, 4, 5, 6, 1, 0] rfl (L30 _ 0 p9 (Nat.lt_succ_self _) (by omega) (hp))
  exact g_lv (pc := 11) hG [2, 3, 4, 1, 0] rfl (L11 _ 0 P R (Nat.lt_succ_self _) (by omega) (GAdd.init) (fun j _ => by simp))
