abbrev mdoC0 (cI cL cZ : ClassId) (ad : Nat → Nat) (o : Nat) (m : Int) (n : Int) (yy : Int) (k : Int) (dn : Int) (on : Int) (tw : Int) (bt : Int) (bl : Int) (bd : Int) (na : Int) (dt : Int) (tl : Int) (ul : Int) (th : Int) (uh : Int) (hd : Bool) (cn : Int) : Nat × va_E := (ad o, ob 10 [iV m, iV n, .ref (ad (o + 1)), .ref (ad (o + 26)), .ref (ad (o + 27)), .ref (ad (o + 28)), .ref (ad (o + 29)), .ref (ad (o + 33)), lV yy, .ref (ad (o + 34)), iV k, .ref (ad (o + 35)), .ref (ad (o + 39)), .ref (ad (o + 40)), lV dn, .ref (ad (o + 41)), iV on, iV tw, .ref (ad (o + 42)), .ref (ad (o + 43)), .ref (ad (o + 44)), lV bt, lV bl, .ref (ad (o + 45)), lV bd, .ref (ad (o + 46)), .ref (ad (o + 47)), iV na, .ref (ad (o + 48)), .ref (ad (o + 49)), lV dt, lV tl, lV ul, lV th, lV uh, bV hd, .ref (ad (o + 50)), .ref (ad (o + 51)), iV cn])
abbrev mxC0 (cI cL cZ cX cG : ClassId) (ad : Nat → Nat) (o : Nat) (X : Nat → Nat → Int) : Nat × va_E := (ad o, aR cX 24 (fun i9 => ad (o + 1 + i9)))
abbrev mxC1 (cI cL cZ cX cG : ClassId) (ad : Nat → Nat) (o : Nat) (X : Nat → Nat → Int) : Nat × va_E := (ad (o + 1), aI cI 3 (X 0))
abbrev mxC2 (cI cL cZ cX cG : ClassId) (ad : Nat → Nat) (o : Nat) (X : Nat → Nat → Int) : Nat × va_E := (ad (o + 2), aI cI 3 (X 1))
abbrev mxC3 (cI cL cZ cX cG : ClassId) (ad : Nat → Nat) (o : Nat) (X : Nat → Nat → Int) : Nat × va_E := (ad (o + 3), aI cI 3 (X 2))
abbrev mxC4 (cI cL cZ cX cG : ClassId) (ad : Nat → Nat) (o : Nat) (X : Nat → Nat → Int) : Nat × va_E := (ad (o + 4), aI cI 3 (X 3))
abbrev mxC5 (cI cL cZ cX cG : ClassId) (ad : Nat → Nat) (o : Nat) (X : Nat → Nat → Int) : Nat × va_E := (ad (o + 5), aI cI 3 (X 4))
abbrev mxC6 (cI cL cZ cX cG : ClassId) (ad : Nat → Nat) (o : Nat) (X : Nat → Nat → Int) : Nat × va_E := (ad (o + 6), aI cI 3 (X 5))
abbrev mxC7 (cI cL cZ cX cG : ClassId) (ad : Nat → Nat) (o : Nat) (X : Nat → Nat → Int) : Nat × va_E := (ad (o + 7), aI cI 3 (X 6))
abbrev mxC8 (cI cL cZ cX cG : ClassId) (ad : Nat → Nat) (o : Nat) (X : Nat → Nat → Int) : Nat × va_E := (ad (o + 8), aI cI 3 (X 7))
abbrev mxC9 (cI cL cZ cX cG : ClassId) (ad : Nat → Nat) (o : Nat) (X : Nat → Nat → Int) : Nat × va_E := (ad (o + 9), aI cI 3 (X 8))
abbrev mxC10 (cI cL cZ cX cG : ClassId) (ad : Nat → Nat) (o : Nat) (X : Nat → Nat → Int) : Nat × va_E := (ad (o + 10), aI cI 3 (X 9))
abbrev mxC11 (cI cL cZ cX cG : ClassId) (ad : Nat → Nat) (o : Nat) (X : Nat → Nat → Int) : Nat × va_E := (ad (o + 11), aI cI 3 (X 10))
abbrev mxC12 (cI cL cZ cX cG : ClassId) (ad : Nat → Nat) (o : Nat) (X : Nat → Nat → Int) : Nat × va_E := (ad (o + 12), aI cI 3 (X 11))
abbrev mxC13 (cI cL cZ cX cG : ClassId) (ad : Nat → Nat) (o : Nat) (X : Nat → Nat → Int) : Nat × va_E := (ad (o + 13), aI cI 3 (X 12))
abbrev mxC14 (cI cL cZ cX cG : ClassId) (ad : Nat → Nat) (o : Nat) (X : Nat → Nat → Int) : Nat × va_E := (ad (o + 14), aI cI 3 (X 13))
abbrev mxC15 (cI cL cZ cX cG : ClassId) (ad : Nat → Nat) (o : Nat) (X : Nat → Nat → Int) : Nat × va_E := (ad (o + 15), aI cI 3 (X 14))
abbrev mxC16 (cI cL cZ cX cG : ClassId) (ad : Nat → Nat) (o : Nat) (X : Nat → Nat → Int) : Nat × va_E := (ad (o + 16), aI cI 3 (X 15))
abbrev mxC17 (cI cL cZ cX cG : ClassId) (ad : Nat → Nat) (o : Nat) (X : Nat → Nat → Int) : Nat × va_E := (ad (o + 17), aI cI 3 (X 16))
abbrev mxC18 (cI cL cZ cX cG : ClassId) (ad : Nat → Nat) (o : Nat) (X : Nat → Nat → Int) : Nat × va_E := (ad (o + 18), aI cI 3 (X 17))
abbrev mxC19 (cI cL cZ cX cG : ClassId) (ad : Nat → Nat) (o : Nat) (X : Nat → Nat → Int) : Nat × va_E := (ad (o + 19), aI cI 3 (X 18))
abbrev mxC20 (cI cL cZ cX cG : ClassId) (ad : Nat → Nat) (o : Nat) (X : Nat → Nat → Int) : Nat × va_E := (ad (o + 20), aI cI 3 (X 19))
abbrev mxC21 (cI cL cZ cX cG : ClassId) (ad : Nat → Nat) (o : Nat) (X : Nat → Nat → Int) : Nat × va_E := (ad (o + 21), aI cI 3 (X 20))
abbrev mxC22 (cI cL cZ cX cG : ClassId) (ad : Nat → Nat) (o : Nat) (X : Nat → Nat → Int) : Nat × va_E := (ad (o + 22), aI cI 3 (X 21))
abbrev mxC23 (cI cL cZ cX cG : ClassId) (ad : Nat → Nat) (o : Nat) (X : Nat → Nat → Int) : Nat × va_E := (ad (o + 23), aI cI 3 (X 22))
abbrev mxC24 (cI cL cZ cX cG : ClassId) (ad : Nat → Nat) (o : Nat) (X : Nat → Nat → Int) : Nat × va_E := (ad (o + 24), aI cI 3 (X 23))
abbrev mgC0 (cI cL cZ cX cG : ClassId) (ad : Nat → Nat) (o : Nat) (M : Nat → Nat → Int) : Nat × va_E := (ad o, aR cG 3 (fun i9 => ad (o + 1 + i9)))
abbrev mgC1 (cI cL cZ cX cG : ClassId) (ad : Nat → Nat) (o : Nat) (M : Nat → Nat → Int) : Nat × va_E := (ad (o + 1), aL cL 3 (M 0))
abbrev mgC2 (cI cL cZ cX cG : ClassId) (ad : Nat → Nat) (o : Nat) (M : Nat → Nat → Int) : Nat × va_E := (ad (o + 2), aL cL 3 (M 1))
abbrev mgC3 (cI cL cZ cX cG : ClassId) (ad : Nat → Nat) (o : Nat) (M : Nat → Nat → Int) : Nat × va_E := (ad (o + 3), aL cL 3 (M 2))
abbrev i24C0 (cI cL cZ : ClassId) (ad : Nat → Nat) (o : Nat) (f : Nat → Int) : Nat × va_E := (ad o, aI cI 24 f)
abbrev z24C0 (cI cL cZ : ClassId) (ad : Nat → Nat) (o : Nat) (f : Nat → Bool) : Nat × va_E := (ad o, aZ cZ 24 f)
abbrev i3C0 (cI cL cZ : ClassId) (ad : Nat → Nat) (o : Nat) (f : Nat → Int) : Nat × va_E := (ad o, aI cI 3 f)
abbrev l64C0 (cI cL cZ : ClassId) (ad : Nat → Nat) (o : Nat) (f : Nat → Int) : Nat × va_E := (ad o, aL cL 64 f)
set_option maxHeartbeats 4000000 in
set_option maxRecDepth 100000 in
theorem c_X11_isNumber {l : Launch} {D : va_G} {cI cL cZ cX cG : ClassId} (v : Int) (hv : InI v) : Ct l D (gT cI cL cZ cX cG) yX11_isNumber cX11_isNumber 1 (some .boolean) ({ frames := 0, cells := 0, slots := 0, locals := 0 }) [iV (v)] ([]) (fun vv_ ww_ => vv_ = some (bV (decide (-9 ≤ v ∧ v ≤ 9))) ∧ ww_ = []) := by
  refine Ct.of (by decide) (Nat.le_of_ble_eq_true rfl) (fun G hG => ?_)
  show G 0 [(0, iV (v))] [] ([])
  refine g_iload_n (pc := 0) hG 0 rfl dX11_isNumber_0 ?_
  refine g_bipush (pc := 1) hG dX11_isNumber_1 (by decide) ?_
  have J17 : ∀ (j17s0 : Bool), (((v < -9) ∧ j17s0 = false) ∨ ((¬ v < -9) ∧ (9 < v) ∧ j17s0 = false) ∨ ((¬ v < -9) ∧ (¬ 9 < v) ∧ j17s0 = true)) → G 17 [(0, iV (v))] [bV (j17s0)] ([]) := by
    intro j17s0 k17
    exact g_zreturn (pc := 17) hG (j17s0) rfl ⟨sB (by grind), rfl⟩ dX11_isNumber_17
  refine g_icmp_lt (pc := 3) hG (by omega) (by omega) (tgt := 16) (by decide) dX11_isNumber_3 (fun h3 => ?_) (fun h3 => ?_)
  · refine g_iconst (pc := 16) hG dX11_isNumber_16 ?_
    exact g_lv (pc := 17) hG [0] rfl (J17 false (Or.inl ⟨h3, rfl⟩))
  · refine g_iload_n (pc := 6) hG 0 rfl dX11_isNumber_6 ?_
    refine g_bipush (pc := 7) hG dX11_isNumber_7 (by decide) ?_
    refine g_icmp_gt (pc := 9) hG (by omega) (by omega) (tgt := 16) (by decide) dX11_isNumber_9 (fun h9 => ?_) (fun h9 => ?_)
    · refine g_iconst (pc := 16) hG dX11_isNumber_16 ?_
      exact g_lv (pc := 17) hG [0] rfl (J17 false (Or.inr (Or.inl ⟨h3, h9, rfl⟩)))
    · refine g_iconst (pc := 12) hG dX11_isNumber_12 ?_
      refine g_goto (pc := 13) hG (tgt := 17) (by decide) dX11_isNumber_13 ?_
      exact g_lv (pc := 17) hG [0] rfl (J17 true (Or.inr (Or.inr (⟨h3, h9, rfl⟩))))
set_option maxHeartbeats 4000000 in
set_option maxRecDepth 100000 in
theorem c_X11_isRow {l : Launch} {D : va_G} {cI cL cZ cX cG : ClassId} (ad : Nat → Nat) (m : Nat) (n : Nat) (yy : Int) (k : Int) (dn : Int) (on : Int) (tw : Int) (bt : Int) (bl : Int) (bd : Int) (na : Int) (dt : Int) (tl : Int) (ul : Int) (th : Int) (uh : Int) (hd : Bool) (cn : Int) (r : Int) (hn : n ≤ 24) (hr : InI r) : Ct l D (gT cI cL cZ cX cG) yX11_isRow cX11_isRow 2 (some .boolean) ({ frames := 0, cells := 0, slots := 0, locals := 0 }) [.ref (ad (0)), iV (r)] ([mdoC0 cI cL cZ ad (0) (((m : Nat) : Int)) (((n : Nat) : Int)) (yy) (k) (dn) (on) (tw) (bt) (bl) (bd) (na) (dt) (tl) (ul) (th) (uh) (hd) (cn)]) (fun vv_ ww_ => vv_ = some (bV (decide (0 ≤ r ∧ r < ((n : Nat) : Int)))) ∧ ww_ = [mdoC0 cI cL cZ ad (0) (((m : Nat) : Int)) (((n : Nat) : Int)) (yy) (k) (dn) (on) (tw) (bt) (bl) (bd) (na) (dt) (tl) (ul) (th) (uh) (hd) (cn)]) := by
  refine Ct.of (by decide) (Nat.le_of_ble_eq_true rfl) (fun G hG => ?_)
  show G 0 [(0, .ref (ad (0))), (1, iV (r))] [] ([mdoC0 cI cL cZ ad (0) (((m : Nat) : Int)) (((n : Nat) : Int)) (yy) (k) (dn) (on) (tw) (bt) (bl) (bd) (na) (dt) (tl) (ul) (th) (uh) (hd) (cn)])
  refine g_iload_n (pc := 0) hG 1 rfl dX11_isRow_0 ?_
  have J17 : ∀ (j17s0 : Bool), (((r < 0) ∧ j17s0 = false) ∨ ((¬ r < 0) ∧ (((n : Nat) : Int) ≤ r) ∧ j17s0 = false) ∨ ((¬ r < 0) ∧ (¬ ((n : Nat) : Int) ≤ r) ∧ j17s0 = true)) → G 17 [(0, .ref (ad (0))), (1, iV (r))] [bV (j17s0)] ([mdoC0 cI cL cZ ad (0) (((m : Nat) : Int)) (((n : Nat) : Int)) (yy) (k) (dn) (on) (tw) (bt) (bl) (bd) (na) (dt) (tl) (ul) (th) (uh) (hd) (cn)]) := by
    intro j17s0 k17
    exact g_zreturn (pc := 17) hG (j17s0) rfl ⟨sB (by grind), rfl⟩ dX11_isRow_17
  refine g_if_lt (pc := 1) hG (by omega) (tgt := 16) (by decide) dX11_isRow_1 (fun h1 => ?_) (fun h1 => ?_)
  · refine g_iconst (pc := 16) hG dX11_isRow_16 ?_
    exact g_lv (pc := 17) hG [0, 1] rfl (J17 false (Or.inl ⟨h1, rfl⟩))
  · refine g_iload_n (pc := 4) hG 1 rfl dX11_isRow_4 ?_
    refine g_aload_n (pc := 5) hG 0 rfl dX11_isRow_5 ?_
    refine g_get (pc := 6) hG fl11_94 0 rfl rfl dX11_isRow_6 ?_
    refine g_icmp_ge (pc := 9) hG (by omega) (by omega) (tgt := 16) (by decide) dX11_isRow_9 (fun h9 => ?_) (fun h9 => ?_)
    · refine g_iconst (pc := 16) hG dX11_isRow_16 ?_
      exact g_lv (pc := 17) hG [0, 1] rfl (J17 false (Or.inr (Or.inl ⟨h1, h9, rfl⟩)))
    · refine g_iconst (pc := 12) hG dX11_isRow_12 ?_
      refine g_goto (pc := 13) hG (tgt := 17) (by decide) dX11_isRow_13 ?_
      exact g_lv (pc := 17) hG [0, 1] rfl (J17 true (Or.inr (Or.inr (⟨h1, h9, rfl⟩))))
set_option maxHeartbeats 4000000 in
set_option maxRecDepth 100000 in
theorem c_X11_isColumn {l : Launch} {D : va_G} {cI cL cZ cX cG : ClassId} (ad : Nat → Nat) (m : Nat) (n : Nat) (yy : Int) (k : Int) (dn : Int) (on : Int) (tw : Int) (bt : Int) (bl : Int) (bd : Int) (na : Int) (dt : Int) (tl : Int) (ul : Int) (th : Int) (uh : Int) (hd : Bool) (cn : Int) (c : Int) (hm : m ≤ 3) (hc : InI c) : Ct l D (gT cI cL cZ cX cG) yX11_isColumn cX11_isColumn 2 (some .boolean) ({ frames := 0, cells := 0, slots := 0, locals := 0 }) [.ref (ad (0)), iV (c)] ([mdoC0 cI cL cZ ad (0) (((m : Nat) : Int)) (((n : Nat) : Int)) (yy) (k) (dn) (on) (tw) (bt) (bl) (bd) (na) (dt) (tl) (ul) (th) (uh) (hd) (cn)]) (fun vv_ ww_ => vv_ = some (bV (decide (0 ≤ c ∧ c < ((m : Nat) : Int)))) ∧ ww_ = [mdoC0 cI cL cZ ad (0) (((m : Nat) : Int)) (((n : Nat) : Int)) (yy) (k) (dn) (on) (tw) (bt) (bl) (bd) (na) (dt) (tl) (ul) (th) (uh) (hd) (cn)]) := by
  refine Ct.of (by decide) (Nat.le_of_ble_eq_true rfl) (fun G hG => ?_)
  show G 0 [(0, .ref (ad (0))), (1, iV (c))] [] ([mdoC0 cI cL cZ ad (0) (((m : Nat) : Int)) (((n : Nat) : Int)) (yy) (k) (dn) (on) (tw) (bt) (bl) (bd) (na) (dt) (tl) (ul) (th) (uh) (hd) (cn)])
  refine g_iload_n (pc := 0) hG 1 rfl dX11_isColumn_0 ?_
  have J17 : ∀ (j17s0 : Bool), (((c < 0) ∧ j17s0 = false) ∨ ((¬ c < 0) ∧ (((m : Nat) : Int) ≤ c) ∧ j17s0 = false) ∨ ((¬ c < 0) ∧ (¬ ((m : Nat) : Int) ≤ c) ∧ j17s0 = true)) → G 17 [(0, .ref (ad (0))), (1, iV (c))] [bV (j17s0)] ([mdoC0 cI cL cZ ad (0) (((m : Nat) : Int)) (((n : Nat) : Int)) (yy) (k) (dn) (on) (tw) (bt) (bl) (bd) (na) (dt) (tl) (ul) (th) (uh) (hd) (cn)]) := by
    intro j17s0 k17
    exact g_zreturn (pc := 17) hG (j17s0) rfl ⟨sB (by grind), rfl⟩ dX11_isColumn_17
  refine g_if_lt (pc := 1) hG (by omega) (tgt := 16) (by decide) dX11_isColumn_1 (fun h1 => ?_) (fun h1 => ?_)
  · refine g_iconst (pc := 16) hG dX11_isColumn_16 ?_
    exact g_lv (pc := 17) hG [0, 1] rfl (J17 false (Or.inl ⟨h1, rfl⟩))
  · refine g_iload_n (pc := 4) hG 1 rfl dX11_isColumn_4 ?_
    refine g_aload_n (pc := 5) hG 0 rfl dX11_isColumn_5 ?_
    refine g_get (pc := 6) hG fl11_7 0 rfl rfl dX11_isColumn_6 ?_
    refine g_icmp_ge (pc := 9) hG (by omega) (by omega) (tgt := 16) (by decide) dX11_isColumn_9 (fun h9 => ?_) (fun h9 => ?_)
    · refine g_iconst (pc := 16) hG dX11_isColumn_16 ?_
      exact g_lv (pc := 17) hG [0, 1] rfl (J17 false (Or.inr (Or.inl ⟨h1, h9, rfl⟩)))
    · refine g_iconst (pc := 12) hG dX11_isColumn_12 ?_
      refine g_goto (pc := 13) hG (tgt := 17) (by decide) dX11_isColumn_13 ?_
      exact g_lv (pc := 17) hG [0, 1] rfl (J17 true (Or.inr (Or.inr (⟨h1, h9, rfl⟩))))
set_option maxHeartbeats 4000000 in
set_option maxRecDepth 100000 in
theorem c_X11_start {l : Launch} {D : va_G} {cI cL cZ cX cG : ClassId} (ad : Nat → Nat) (m : Nat) (n : Nat) (yy : Int) (k : Int) (dn : Int) (on : Int) (tw : Int) (bt : Int) (bl : Int) (bd : Int) (na : Int) (dt : Int) (tl : Int) (ul : Int) (th : Int) (uh : Int) (hd : Bool) (cn : Int) (c : Int) (hc : InI c) : Ct l D (gT cI cL cZ cX cG) yX11_start cX11_start 2 (some .boolean) ({ frames := 0, cells := 0, slots := 0, locals := 0 }) [.ref (ad (0)), iV (c)] ([mdoC0 cI cL cZ ad (0) (((m : Nat) : Int)) (((n : Nat) : Int)) (yy) (k) (dn) (on) (tw) (bt) (bl) (bd) (na) (dt) (tl) (ul) (th) (uh) (hd) (cn)]) (fun vv_ ww_ => ∃ (v : Bool), ∃ (m2 : Nat), ∃ (n2 : Nat), ((¬ (1 ≤ c ∧ c ≤ 3) ∧ v = false ∧ m2 = m ∧ n2 = n) ∨ ((1 ≤ c ∧ c ≤ 3) ∧ v = true ∧ m2 = c.toNat ∧ n2 = 0)) ∧ vv_ = some (bV (v)) ∧ ww_ = [mdoC0 cI cL cZ ad (0) (((m2 : Nat) : Int)) (((n2 : Nat) : Int)) (yy) (k) (dn) (on) (tw) (bt) (bl) (bd) (na) (dt) (tl) (ul) (th) (uh) (hd) (cn)]) := by
  refine Ct.of (by decide) (Nat.le_of_ble_eq_true rfl) (fun G hG => ?_)
  show G 0 [(0, .ref (ad (0))), (1, iV (c))] [] ([mdoC0 cI cL cZ ad (0) (((m : Nat) : Int)) (((n : Nat) : Int)) (yy) (k) (dn) (on) (tw) (bt) (bl) (bd) (na) (dt) (tl) (ul) (th) (uh) (hd) (cn)])
  refine g_iload_n (pc := 0) hG 1 rfl dX11_start_0 ?_
  refine g_iconst (pc := 1) hG dX11_start_1 ?_
  have J10 : ∀ (_ : Unit), (((c < 1)) ∨ ((¬ c < 1) ∧ (¬ c ≤ 3))) → G 10 [(0, .ref (ad (0))), (1, iV (c))] [] ([mdoC0 cI cL cZ ad (0) (((m : Nat) : Int)) (((n : Nat) : Int)) (yy) (k) (dn) (on) (tw) (bt) (bl) (bd) (na) (dt) (tl) (ul) (th) (uh) (hd) (cn)]) := by
    intro _ k10
    refine g_iconst (pc := 10) hG dX11_start_10 ?_
    exact g_zreturn (pc := 11) hG (false) rfl ⟨false, m, n, Or.inl ⟨by omega, rfl, rfl, rfl⟩, rfl, rfl⟩ dX11_start_11
  refine g_icmp_lt (pc := 2) hG (by omega) (by omega) (tgt := 10) (by decide) dX11_start_2 (fun h2 => ?_) (fun h2 => ?_)
  · exact g_lv (pc := 10) hG [0, 1] rfl (J10 () (Or.inl (h2)))
  · refine g_iload_n (pc := 5) hG 1 rfl dX11_start_5 ?_
    refine g_iconst (pc := 6) hG dX11_start_6 ?_
    refine g_icmp_le (pc := 7) hG (by omega) (by omega) (tgt := 12) (by decide) dX11_start_7 (fun h7 => ?_) (fun h7 => ?_)
    · refine g_aload_n (pc := 12) hG 0 rfl dX11_start_12 ?_
      refine g_iload_n (pc := 13) hG 1 rfl dX11_start_13 ?_
      refine g_st (pc := 14) hG (st' := [iV (((c.toNat : Nat) : Int)), .ref (ad (0))]) (congrArg (fun z9 => [iV z9, .ref (ad (0))]) (show c = ((c.toNat : Nat) : Int) by omega)) ?_
      refine g_put (pc := 14) hG fp11_7 0 rfl rfl rfl (Nat.le_of_ble_eq_true rfl) (ws' := [mdoC0 cI cL cZ ad (0) (((c.toNat : Nat) : Int)) (((n : Nat) : Int)) (yy) (k) (dn) (on) (tw) (bt) (bl) (bd) (na) (dt) (tl) (ul) (th) (uh) (hd) (cn)]) rfl dX11_start_14 ?_
      refine g_aload_n (pc := 17) hG 0 rfl dX11_start_17 ?_
      refine g_iconst (pc := 18) hG dX11_start_18 ?_
      refine g_put (pc := 19) hG fp11_94 0 rfl rfl rfl (Nat.le_of_ble_eq_true rfl) (ws' := [mdoC0 cI cL cZ ad (0) (((c.toNat : Nat) : Int)) (0) (yy) (k) (dn) (on) (tw) (bt) (bl) (bd) (na) (dt) (tl) (ul) (th) (uh) (hd) (cn)]) rfl dX11_start_19 ?_
      refine g_iconst (pc := 22) hG dX11_start_22 ?_
      exact g_zreturn (pc := 23) hG (true) rfl ⟨true, c.toNat, 0, Or.inr ⟨by omega, rfl, rfl, rfl⟩, rfl, rfl⟩ dX11_start_23
    · exact g_lv (pc := 10) hG [0, 1] rfl (J10 () (Or.inr (⟨h2, h7⟩)))
set_option maxHeartbeats 4000000 in
set_option maxRecDepth 100000 in
theorem c_X11_row {l : Launch} {D : va_G} {cI cL cZ cX cG : ClassId} (ad : Nat → Nat) (m : Nat) (n : Nat) (yy : Int) (k : Int) (dn : Int) (on : Int) (tw : Int) (bt : Int) (bl : Int) (bd : Int) (na : Int) (dt : Int) (tl : Int) (ul : Int) (th : Int) (uh : Int) (hd : Bool) (cn : Int) (X : Nat → Nat → Int) (Y : Nat → Int) (K : Nat → Bool) (t : Int) (a : Int) (b : Int) (c : Int) (hn : n ≤ 24) (hm : m ≤ 3) (ht : InI t) (ha : InI a) (hb : InI b) (hc : InI c) : Ct l D (gT cI cL cZ cX cG) yX11_row cX11_row 6 (some .int) ({ frames := 1, cells := 0, slots := 0, locals := 20 }) [.ref (ad (0)), iV (t), iV (a), iV (b), iV (c)] ([mdoC0 cI cL cZ ad (0) (((m : Nat) : Int)) (((n : Nat) : Int)) (yy) (k) (dn) (on) (tw) (bt) (bl) (bd) (na) (dt) (tl) (ul) (th) (uh) (hd) (cn), i24C0 cI cL cZ ad (26) (Y), z24C0 cI cL cZ ad (27) (K), mxC0 cI cL cZ cX cG ad (1) (X), mxC1 cI cL cZ cX cG ad (1) (X), mxC2 cI cL cZ cX cG ad (1) (X), mxC3 cI cL cZ cX cG ad (1) (X), mxC4 cI cL cZ cX cG ad (1) (X), mxC5 cI cL cZ cX cG ad (1) (X), mxC6 cI cL cZ cX cG ad (1) (X), mxC7 cI cL cZ cX cG ad (1) (X), mxC8 cI cL cZ cX cG ad (1) (X), mxC9 cI cL cZ cX cG ad (1) (X), mxC10 cI cL cZ cX cG ad (1) (X), mxC11 cI cL cZ cX cG ad (1) (X), mxC12 cI cL cZ cX cG ad (1) (X), mxC13 cI cL cZ cX cG ad (1) (X), mxC14 cI cL cZ cX cG ad (1) (X), mxC15 cI cL cZ cX cG ad (1) (X), mxC16 cI cL cZ cX cG ad (1) (X), mxC17 cI cL cZ cX cG ad (1) (X), mxC18 cI cL cZ cX cG ad (1) (X), mxC19 cI cL cZ cX cG ad (1) (X), mxC20 cI cL cZ cX cG ad (1) (X), mxC21 cI cL cZ cX cG ad (1) (X), mxC22 cI cL cZ cX cG ad (1) (X), mxC23 cI cL cZ cX cG ad (1) (X), mxC24 cI cL cZ cX cG ad (1) (X)]) (fun vv_ ww_ => ∃ (v : Int), ∃ (X2 : Nat → Nat → Int), ∃ (Y2 : Nat → Int), ∃ (K2 : Nat → Bool), ∃ (n2 : Nat), (MAddR X Y K m n t a b c v X2 Y2 K2 n2) ∧ vv_ = some (iV (v)) ∧ ww_ = [mdoC0 cI cL cZ ad (0) (((m : Nat) : Int)) (((n2 : Nat) : Int)) (yy) (k) (dn) (on) (tw) (bt) (bl) (bd) (na) (dt) (tl) (ul) (th) (uh) (hd) (cn), i24C0 cI cL cZ ad (26) (Y2), z24C0 cI cL cZ ad (27) (K2), mxC0 cI cL cZ cX cG ad (1) (X2), mxC1 cI cL cZ cX cG ad (1) (X2), mxC2 cI cL cZ cX cG ad (1) (X2), mxC3 cI cL cZ cX cG ad (1) (X2), mxC4 cI cL cZ cX cG ad (1) (X2), mxC5 cI cL cZ cX cG ad (1) (X2), mxC6 cI cL cZ cX cG ad (1) (X2), mxC7 cI cL cZ cX cG ad (1) (X2), mxC8 cI cL cZ cX cG ad (1) (X2), mxC9 cI cL cZ cX cG ad (1) (X2), mxC10 cI cL cZ cX cG ad (1) (X2), mxC11 cI cL cZ cX cG ad (1) (X2), mxC12 cI cL cZ cX cG ad (1) (X2), mxC13 cI cL cZ cX cG ad (1) (X2), mxC14 cI cL cZ cX cG ad (1) (X2), mxC15 cI cL cZ cX cG ad (1) (X2), mxC16 cI cL cZ cX cG ad (1) (X2), mxC17 cI cL cZ cX cG ad (1) (X2), mxC18 cI cL cZ cX cG ad (1) (X2), mxC19 cI cL cZ cX cG ad (1) (X2), mxC20 cI cL cZ cX cG ad (1) (X2), mxC21 cI cL cZ cX cG ad (1) (X2), mxC22 cI cL cZ cX cG ad (1) (X2), mxC23 cI cL cZ cX cG ad (1) (X2), mxC24 cI cL cZ cX cG ad (1) (X2)]) := by
  refine Ct.of (by decide) (Nat.le_of_ble_eq_true rfl) (fun G hG => ?_)
  show G 0 [(0, .ref (ad (0))), (1, iV (t)), (2, iV (a)), (3, iV (b)), (4, iV (c))] [] ([mdoC0 cI cL cZ ad (0) (((m : Nat) : Int)) (((n : Nat) : Int)) (yy) (k) (dn) (on) (tw) (bt) (bl) (bd) (na) (dt) (tl) (ul) (th) (uh) (hd) (cn), i24C0 cI cL cZ ad (26) (Y), z24C0 cI cL cZ ad (27) (K), mxC0 cI cL cZ cX cG ad (1) (X), mxC1 cI cL cZ cX cG ad (1) (X), mxC2 cI cL cZ cX cG ad (1) (X), mxC3 cI cL cZ cX cG ad (1) (X), mxC4 cI cL cZ cX cG ad (1) (X), mxC5 cI cL cZ cX cG ad (1) (X), mxC6 cI cL cZ cX cG ad (1) (X), mxC7 cI cL cZ cX cG ad (1) (X), mxC8 cI cL cZ cX cG ad (1) (X), mxC9 cI cL cZ cX cG ad (1) (X), mxC10 cI cL cZ cX cG ad (1) (X), mxC11 cI cL cZ cX cG ad (1) (X), mxC12 cI cL cZ cX cG ad (1) (X), mxC13 cI cL cZ cX cG ad (1) (X), mxC14 cI cL cZ cX cG ad (1) (X), mxC15 cI cL cZ cX cG ad (1) (X), mxC16 cI cL cZ cX cG ad (1) (X), mxC17 cI cL cZ cX cG ad (1) (X), mxC18 cI cL cZ cX cG ad (1) (X), mxC19 cI cL cZ cX cG ad (1) (X), mxC20 cI cL cZ cX cG ad (1) (X), mxC21 cI cL cZ cX cG ad (1) (X), mxC22 cI cL cZ cX cG ad (1) (X), mxC23 cI cL cZ cX cG ad (1) (X), mxC24 cI cL cZ cX cG ad (1) (X)])
  refine g_iload_n (pc := 0) hG 1 rfl dX11_row_0 ?_
  refine g_bipush (pc := 1) hG dX11_row_1 (by decide) ?_
  have J55 : ∀ (j55s0 : Bool), (((t < -99) ∧ j55s0 = false) ∨ ((¬ t < -99) ∧ (99 < t) ∧ j55s0 = false) ∨ ((¬ t < -99) ∧ (¬ 99 < t) ∧ ((decide (-9 ≤ a ∧ a ≤ 9)) = false) ∧ j55s0 = false) ∨ ((¬ t < -99) ∧ (¬ 99 < t) ∧ ((decide (-9 ≤ a ∧ a ≤ 9)) = true) ∧ (((m : Nat) : Int) < 2) ∧ (((m : Nat) : Int) < 3) ∧ j55s0 = true) ∨ ((¬ t < -99) ∧ (¬ 99 < t) ∧ ((decide (-9 ≤ a ∧ a ≤ 9)) = true) ∧ (((m : Nat) : Int) < 2) ∧ (¬ ((m : Nat) : Int) < 3) ∧ ((decide (-9 ≤ c ∧ c ≤ 9)) = false) ∧ j55s0 = false) ∨ ((¬ t < -99) ∧ (¬ 99 < t) ∧ ((decide (-9 ≤ a ∧ a ≤ 9)) = true) ∧ (((m : Nat) : Int) < 2) ∧ (¬ ((m : Nat) : Int) < 3) ∧ ((decide (-9 ≤ c ∧ c ≤ 9)) = true) ∧ j55s0 = true) ∨ ((¬ t < -99) ∧ (¬ 99 < t) ∧ ((decide (-9 ≤ a ∧ a ≤ 9)) = true) ∧ (¬ ((m : Nat) : Int) < 2) ∧ ((decide (-9 ≤ b ∧ b ≤ 9)) = false) ∧ j55s0 = false) ∨ ((¬ t < -99) ∧ (¬ 99 < t) ∧ ((decide (-9 ≤ a ∧ a ≤ 9)) = true) ∧ (¬ ((m : Nat) : Int) < 2) ∧ ((decide (-9 ≤ b ∧ b ≤ 9)) = true) ∧ (((m : Nat) : Int) < 3) ∧ j55s0 = true) ∨ ((¬ t < -99) ∧ (¬ 99 < t) ∧ ((decide (-9 ≤ a ∧ a ≤ 9)) = true) ∧ (¬ ((m : Nat) : Int) < 2) ∧ ((decide (-9 ≤ b ∧ b ≤ 9)) = true) ∧ (¬ ((m : Nat) : Int) < 3) ∧ ((decide (-9 ≤ c ∧ c ≤ 9)) = false) ∧ j55s0 = false) ∨ ((¬ t < -99) ∧ (¬ 99 < t) ∧ ((decide (-9 ≤ a ∧ a ≤ 9)) = true) ∧ (¬ ((m : Nat) : Int) < 2) ∧ ((decide (-9 ≤ b ∧ b ≤ 9)) = true) ∧ (¬ ((m : Nat) : Int) < 3) ∧ ((decide (-9 ≤ c ∧ c ≤ 9)) = true) ∧ j55s0 = true)) → G 55 [(0, .ref (ad (0))), (1, iV (t)), (2, iV (a)), (3, iV (b)), (4, iV (c))] [bV (j55s0)] ([mdoC0 cI cL cZ ad (0) (((m : Nat) : Int)) (((n : Nat) : Int)) (yy) (k) (dn) (on) (tw) (bt) (bl) (bd) (na) (dt) (tl) (ul) (th) (uh) (hd) (cn), i24C0 cI cL cZ ad (26) (Y), z24C0 cI cL cZ ad (27) (K), mxC0 cI cL cZ cX cG ad (1) (X), mxC1 cI cL cZ cX cG ad (1) (X), mxC2 cI cL cZ cX cG ad (1) (X), mxC3 cI cL cZ cX cG ad (1) (X), mxC4 cI cL cZ cX cG ad (1) (X), mxC5 cI cL cZ cX cG ad (1) (X), mxC6 cI cL cZ cX cG ad (1) (X), mxC7 cI cL cZ cX cG ad (1) (X), mxC8 cI cL cZ cX cG ad (1) (X), mxC9 cI cL cZ cX cG ad (1) (X), mxC10 cI cL cZ cX cG ad (1) (X), mxC11 cI cL cZ cX cG ad (1) (X), mxC12 cI cL cZ cX cG ad (1) (X), mxC13 cI cL cZ cX cG ad (1) (X), mxC14 cI cL cZ cX cG ad (1) (X), mxC15 cI cL cZ cX cG ad (1) (X), mxC16 cI cL cZ cX cG ad (1) (X), mxC17 cI cL cZ cX cG ad (1) (X), mxC18 cI cL cZ cX cG ad (1) (X), mxC19 cI cL cZ cX cG ad (1) (X), mxC20 cI cL cZ cX cG ad (1) (X), mxC21 cI cL cZ cX cG ad (1) (X), mxC22 cI cL cZ cX cG ad (1) (X), mxC23 cI cL cZ cX cG ad (1) (X), mxC24 cI cL cZ cX cG ad (1) (X)]) := by
    intro j55s0 k55
    refine g_istore (pc := 55) hG (by decide) (lv' := [(5, bV (j55s0)), (0, .ref (ad (0))), (1, iV (t)), (2, iV (a)), (3, iV (b)), (4, iV (c))]) rfl dX11_row_55 ?_
    have hgd : j55s0 = true ↔ ((-99 ≤ t ∧ t ≤ 99) ∧ (-9 ≤ a ∧ a ≤ 9) ∧ (m < 2 ∨ (-9 ≤ b ∧ b ≤ 9)) ∧ (m < 3 ∨ (-9 ≤ c ∧ c ≤ 9))) := by cases j55s0 <;> simp only [decide_eq_true_eq, decide_eq_false_iff_not, Bool.false_eq_true, Bool.true_eq_false, reduceCtorEq, and_false, and_true, or_false, false_or, false_iff, true_iff, iff_true, iff_false] at k55 ⊢ <;> omega
    refine g_aload_n (pc := 57) hG 1 rfl dX11_row_57 ?_
    refine g_get (pc := 58) hG fl11_94 0 rfl rfl dX11_row_58 ?_
    refine g_bipush (pc := 61) hG dX11_row_61 (by decide) ?_
    have J71 : ∀ (_ : Unit), (((((n : Nat) : Int) = 24)) ∨ ((¬ ((n : Nat) : Int) = 24) ∧ (j55s0 = false))) → G 71 [(0, .ref (ad (0))), (1, iV (t)), (2, iV (a)), (3, iV (b)), (4, iV (c)), (5, bV (j55s0))] [] ([mdoC0 cI cL cZ ad (0) (((m : Nat) : Int)) (((n : Nat) : Int)) (yy) (k) (dn) (on) (tw) (bt) (bl) (bd) (na) (dt) (tl) (ul) (th) (uh) (hd) (cn), i24C0 cI cL cZ ad (26) (Y), z24C0 cI cL cZ ad (27) (K), mxC0 cI cL cZ cX cG ad (1) (X), mxC1 cI cL cZ cX cG ad (1) (X), mxC2 cI cL cZ cX cG ad (1) (X), mxC3 cI cL cZ cX cG ad (1) (X), mxC4 cI cL cZ cX cG ad (1) (X), mxC5 cI cL cZ cX cG ad (1) (X), mxC6 cI cL cZ cX cG ad (1) (X), mxC7 cI cL cZ cX cG ad (1) (X), mxC8 cI cL cZ cX cG ad (1) (X), mxC9 cI cL cZ cX cG ad (1) (X), mxC10 cI cL cZ cX cG ad (1) (X), mxC11 cI cL cZ cX cG ad (1) (X), mxC12 cI cL cZ cX cG ad (1) (X), mxC13 cI cL cZ cX cG ad (1) (X), mxC14 cI cL cZ cX cG ad (1) (X), mxC15 cI cL cZ cX cG ad (1) (X), mxC16 cI cL cZ cX cG ad (1) (X), mxC17 cI cL cZ cX cG ad (1) (X), mxC18 cI cL cZ cX cG ad (1) (X), mxC19 cI cL cZ cX cG ad (1) (X), mxC20 cI cL cZ cX cG ad (1) (X), mxC21 cI cL cZ cX cG ad (1) (X), mxC22 cI cL cZ cX cG ad (1) (X), mxC23 cI cL cZ cX cG ad (1) (X), mxC24 cI cL cZ cX cG ad (1) (X)]) := by
      intro _ k71
      refine g_iconst (pc := 71) hG dX11_row_71 ?_
      exact g_ireturn (pc := 72) hG ⟨-1, X, Y, K, n, Or.inl ⟨by first | (rcases k71 with h | h; exact fun q => absurd q.1 (by omega); exact fun q => absurd (hgd.mpr q.2) (by rw [h.2]; simp)) | omega, rfl, rfl, rfl, rfl, rfl⟩, rfl, rfl⟩ dX11_row_72
    refine g_icmp_eq (pc := 63) hG (by omega) (by omega) (tgt := 71) (by decide) dX11_row_63 (fun h63 => ?_) (fun h63 => ?_)
    · exact g_lv (pc := 71) hG [1, 2, 3, 4, 5, 0] rfl (J71 () (Or.inl (h63)))
    · refine g_iload (pc := 66) hG 0 rfl dX11_row_66 ?_
      refine g_ifb_ne (pc := 68) hG (tgt := 73) (by decide) dX11_row_68 (fun h68 => ?_) (fun h68 => ?_)
      · refine g_aload_n (pc := 73) hG 1 rfl dX11_row_73 ?_
        refine g_get (pc := 74) hG fl11_15 0 rfl rfl dX11_row_74 ?_
        refine g_aload_n (pc := 77) hG 1 rfl dX11_row_77 ?_
        refine g_get (pc := 78) hG fl11_94 0 rfl rfl dX11_row_78 ?_
        refine g_aaload (pc := 81) hG 3 3 n rfl rfl (by omega) (by omega) (by decide) dX11_row_81 ?_
        refine g_iconst (pc := 82) hG dX11_row_82 ?_
        refine g_iload_n (pc := 83) hG 3 rfl dX11_row_83 ?_
        refine g_iastore (pc := 84) hG (4 + n) 0 (rw_at [mdoC0 cI cL cZ ad (0) (((m : Nat) : Int)) (((n : Nat) : Int)) (yy) (k) (dn) (on) (tw) (bt) (bl) (bd) (na) (dt) (tl) (ul) (th) (uh) (hd) (cn), i24C0 cI cL cZ ad (26) (Y), z24C0 cI cL cZ ad (27) (K), mxC0 cI cL cZ cX cG ad (1) (X)] _ 24 (fun i9 => (ad (2 + i9), aI cI 3 (X i9))) (by omega)) rfl (by omega) (by omega) (by decide) (ws' := [mdoC0 cI cL cZ ad (0) (((m : Nat) : Int)) (((n : Nat) : Int)) (yy) (k) (dn) (on) (tw) (bt) (bl) (bd) (na) (dt) (tl) (ul) (th) (uh) (hd) (cn), i24C0 cI cL cZ ad (26) (Y), z24C0 cI cL cZ ad (27) (K), mxC0 cI cL cZ cX cG ad (1) (up2 X n 0 a), mxC1 cI cL cZ cX cG ad (1) (up2 X n 0 a), mxC2 cI cL cZ cX cG ad (1) (up2 X n 0 a), mxC3 cI cL cZ cX cG ad (1) (up2 X n 0 a), mxC4 cI cL cZ cX cG ad (1) (up2 X n 0 a), mxC5 cI cL cZ cX cG ad (1) (up2 X n 0 a), mxC6 cI cL cZ cX cG ad (1) (up2 X n 0 a), mxC7 cI cL cZ cX cG ad (1) (up2 X n 0 a), mxC8 cI cL cZ cX cG ad (1) (up2 X n 0 a), mxC9 cI cL cZ cX cG ad (1) (up2 X n 0 a), mxC10 cI cL cZ cX cG ad (1) (up2 X n 0 a), mxC11 cI cL cZ cX cG ad (1) (up2 X n 0 a), mxC12 cI cL cZ cX cG ad (1) (up2 X n 0 a), mxC13 cI cL cZ cX cG ad (1) (up2 X n 0 a), mxC14 cI cL cZ cX cG ad (1) (up2 X n 0 a), mxC15 cI cL cZ cX cG ad (1) (up2 X n 0 a), mxC16 cI cL cZ cX cG ad (1) (up2 X n 0 a), mxC17 cI cL cZ cX cG ad (1) (up2 X n 0 a), mxC18 cI cL cZ cX cG ad (1) (up2 X n 0 a), mxC19 cI cL cZ cX cG ad (1) (up2 X n 0 a), mxC20 cI cL cZ cX cG ad (1) (up2 X n 0 a), mxC21 cI cL cZ cX cG ad (1) (up2 X n 0 a), mxC22 cI cL cZ cX cG ad (1) (up2 X n 0 a), mxC23 cI cL cZ cX cG ad (1) (up2 X n 0 a), mxC24 cI cL cZ cX cG ad (1) (up2 X n 0 a)]) (rw_setI [mdoC0 cI cL cZ ad (0) (((m : Nat) : Int)) (((n : Nat) : Int)) (yy) (k) (dn) (on) (tw) (bt) (bl) (bd) (na) (dt) (tl) (ul) (th) (uh) (hd) (cn), i24C0 cI cL cZ ad (26) (Y), z24C0 cI cL cZ ad (27) (K), mxC0 cI cL cZ cX cG ad (1) (X)] _ (X := X) (n := 24) (k := n) (by omega)) dX11_row_84 ?_
        refine g_aload_n (pc := 85) hG 1 rfl dX11_row_85 ?_
        refine g_get (pc := 86) hG fl11_15 0 rfl rfl dX11_row_86 ?_
        refine g_aload_n (pc := 89) hG 1 rfl dX11_row_89 ?_
        refine g_get (pc := 90) hG fl11_94 0 rfl rfl dX11_row_90 ?_
        refine g_aaload (pc := 93) hG 3 3 n rfl rfl (by omega) (by omega) (by decide) dX11_row_93 ?_
        refine g_iconst (pc := 94) hG dX11_row_94 ?_
        refine g_aload_n (pc := 95) hG 1 rfl dX11_row_95 ?_
        refine g_get (pc := 96) hG fl11_7 0 rfl rfl dX11_row_96 ?_
        refine g_iconst (pc := 99) hG dX11_row_99 ?_
        have J108 : ∀ (j108s0 : Int), (((2 ≤ ((m : Nat) : Int)) ∧ j108s0 = b) ∨ ((¬ 2 ≤ ((m : Nat) : Int)) ∧ j108s0 = 0)) → G 108 [(0, .ref (ad (0))), (1, iV (t)), (2, iV (a)), (3, iV (b)), (4, iV (c)), (5, bV (j55s0))] [iV (j108s0), iV (1), .ref (ad (2 + n))] ([mdoC0 cI cL cZ ad (0) (((m : Nat) : Int)) (((n : Nat) : Int)) (yy) (k) (dn) (on) (tw) (bt) (bl) (bd) (na) (dt) (tl) (ul) (th) (uh) (hd) (cn), i24C0 cI cL cZ ad (26) (Y), z24C0 cI cL cZ ad (27) (K), mxC0 cI cL cZ cX cG ad (1) (up2 X n 0 a), mxC1 cI cL cZ cX cG ad (1) (up2 X n 0 a), mxC2 cI cL cZ cX cG ad (1) (up2 X n 0 a), mxC3 cI cL cZ cX cG ad (1) (up2 X n 0 a), mxC4 cI cL cZ cX cG ad (1) (up2 X n 0 a), mxC5 cI cL cZ cX cG ad (1) (up2 X n 0 a), mxC6 cI cL cZ cX cG ad (1) (up2 X n 0 a), mxC7 cI cL cZ cX cG ad (1) (up2 X n 0 a), mxC8 cI cL cZ cX cG ad (1) (up2 X n 0 a), mxC9 cI cL cZ cX cG ad (1) (up2 X n 0 a), mxC10 cI cL cZ cX cG ad (1) (up2 X n 0 a), mxC11 cI cL cZ cX cG ad (1) (up2 X n 0 a), mxC12 cI cL cZ cX cG ad (1) (up2 X n 0 a), mxC13 cI cL cZ cX cG ad (1) (up2 X n 0 a), mxC14 cI cL cZ cX cG ad (1) (up2 X n 0 a), mxC15 cI cL cZ cX cG ad (1) (up2 X n 0 a), mxC16 cI cL cZ cX cG ad (1) (up2 X n 0 a), mxC17 cI cL cZ cX cG ad (1) (up2 X n 0 a), mxC18 cI cL cZ cX cG ad (1) (up2 X n 0 a), mxC19 cI cL cZ cX cG ad (1) (up2 X n 0 a), mxC20 cI cL cZ cX cG ad (1) (up2 X n 0 a), mxC21 cI cL cZ cX cG ad (1) (up2 X n 0 a), mxC22 cI cL cZ cX cG ad (1) (up2 X n 0 a), mxC23 cI cL cZ cX cG ad (1) (up2 X n 0 a), mxC24 cI cL cZ cX cG ad (1) (up2 X n 0 a)]) := by
          intro j108s0 k108
          refine g_iastore (pc := 108) hG (4 + n) 1 (rw_at [mdoC0 cI cL cZ ad (0) (((m : Nat) : Int)) (((n : Nat) : Int)) (yy) (k) (dn) (on) (tw) (bt) (bl) (bd) (na) (dt) (tl) (ul) (th) (uh) (hd) (cn), i24C0 cI cL cZ ad (26) (Y), z24C0 cI cL cZ ad (27) (K), mxC0 cI cL cZ cX cG ad (1) (up2 X n 0 a)] _ 24 (fun i9 => (ad (2 + i9), aI cI 3 ((up2 X n 0 a) i9))) (by omega)) rfl (by omega) (by omega) (by decide) (ws' := [mdoC0 cI cL cZ ad (0) (((m : Nat) : Int)) (((n : Nat) : Int)) (yy) (k) (dn) (on) (tw) (bt) (bl) (bd) (na) (dt) (tl) (ul) (th) (uh) (hd) (cn), i24C0 cI cL cZ ad (26) (Y), z24C0 cI cL cZ ad (27) (K), mxC0 cI cL cZ cX cG ad (1) (up2 (up2 X n 0 a) n 1 j108s0), mxC1 cI cL cZ cX cG ad (1) (up2 (up2 X n 0 a) n 1 j108s0), mxC2 cI cL cZ cX cG ad (1) (up2 (up2 X n 0 a) n 1 j108s0), mxC3 cI cL cZ cX cG ad (1) (up2 (up2 X n 0 a) n 1 j108s0), mxC4 cI cL cZ cX cG ad (1) (up2 (up2 X n 0 a) n 1 j108s0), mxC5 cI cL cZ cX cG ad (1) (up2 (up2 X n 0 a) n 1 j108s0), mxC6 cI cL cZ cX cG ad (1) (up2 (up2 X n 0 a) n 1 j108s0), mxC7 cI cL cZ cX cG ad (1) (up2 (up2 X n 0 a) n 1 j108s0), mxC8 cI cL cZ cX cG ad (1) (up2 (up2 X n 0 a) n 1 j108s0), mxC9 cI cL cZ cX cG ad (1) (up2 (up2 X n 0 a) n 1 j108s0), mxC10 cI cL cZ cX cG ad (1) (up2 (up2 X n 0 a) n 1 j108s0), mxC11 cI cL cZ cX cG ad (1) (up2 (up2 X n 0 a) n 1 j108s0), mxC12 cI cL cZ cX cG ad (1) (up2 (up2 X n 0 a) n 1 j108s0), mxC13 cI cL cZ cX cG ad (1) (up2 (up2 X n 0 a) n 1 j108s0), mxC14 cI cL cZ cX cG ad (1) (up2 (up2 X n 0 a) n 1 j108s0), mxC15 cI cL cZ cX cG ad (1) (up2 (up2 X n 0 a) n 1 j108s0), mxC16 cI cL cZ cX cG ad (1) (up2 (up2 X n 0 a) n 1 j108s0), mxC17 cI cL cZ cX cG ad (1) (up2 (up2 X n 0 a) n 1 j108s0), mxC18 cI cL cZ cX cG ad (1) (up2 (up2 X n 0 a) n 1 j108s0), mxC19 cI cL cZ cX cG ad (1) (up2 (up2 X n 0 a) n 1 j108s0), mxC20 cI cL cZ cX cG ad (1) (up2 (up2 X n 0 a) n 1 j108s0), mxC21 cI cL cZ cX cG ad (1) (up2 (up2 X n 0 a) n 1 j108s0), mxC22 cI cL cZ cX cG ad (1) (up2 (up2 X n 0 a) n 1 j108s0), mxC23 cI cL cZ cX cG ad (1) (up2 (up2 X n 0 a) n 1 j108s0), mxC24 cI cL cZ cX cG ad (1) (up2 (up2 X n 0 a) n 1 j108s0)]) (rw_setI [mdoC0 cI cL cZ ad (0) (((m : Nat) : Int)) (((n : Nat) : Int)) (yy) (k) (dn) (on) (tw) (bt) (bl) (bd) (na) (dt) (tl) (ul) (th) (uh) (hd) (cn), i24C0 cI cL cZ ad (26) (Y), z24C0 cI cL cZ ad (27) (K), mxC0 cI cL cZ cX cG ad (1) (up2 X n 0 a)] _ (X := up2 X n 0 a) (n := 24) (k := n) (by omega)) dX11_row_108 ?_
          refine g_aload_n (pc := 109) hG 0 rfl dX11_row_109 ?_
          refine g_get (pc := 110) hG fl11_15 0 rfl rfl dX11_row_110 ?_
          refine g_aload_n (pc := 113) hG 0 rfl dX11_row_113 ?_
          refine g_get (pc := 114) hG fl11_94 0 rfl rfl dX11_row_114 ?_
          refine g_aaload (pc := 117) hG 3 3 n rfl rfl (by omega) (by omega) (by decide) dX11_row_117 ?_
          refine g_iconst (pc := 118) hG dX11_row_118 ?_
          refine g_aload_n (pc := 119) hG 0 rfl dX11_row_119 ?_
          refine g_get (pc := 120) hG fl11_7 0 rfl rfl dX11_row_120 ?_
          refine g_iconst (pc := 123) hG dX11_row_123 ?_
          have J133 : ∀ (j133s0 : Int), (((3 ≤ ((m : Nat) : Int)) ∧ j133s0 = c) ∨ ((¬ 3 ≤ ((m : Nat) : Int)) ∧ j133s0 = 0)) → G 133 [(0, .ref (ad (0))), (1, iV (t)), (2, iV (a)), (3, iV (b)), (4, iV (c)), (5, bV (j55s0))] [iV (j133s0), iV (2), .ref (ad (2 + n))] ([mdoC0 cI cL cZ ad (0) (((m : Nat) : Int)) (((n : Nat) : Int)) (yy) (k) (dn) (on) (tw) (bt) (bl) (bd) (na) (dt) (tl) (ul) (th) (uh) (hd) (cn), i24C0 cI cL cZ ad (26) (Y), z24C0 cI cL cZ ad (27) (K), mxC0 cI cL cZ cX cG ad (1) (up2 (up2 X n 0 a) n 1 j108s0), mxC1 cI cL cZ cX cG ad (1) (up2 (up2 X n 0 a) n 1 j108s0), mxC2 cI cL cZ cX cG ad (1) (up2 (up2 X n 0 a) n 1 j108s0), mxC3 cI cL cZ cX cG ad (1) (up2 (up2 X n 0 a) n 1 j108s0), mxC4 cI cL cZ cX cG ad (1) (up2 (up2 X n 0 a) n 1 j108s0), mxC5 cI cL cZ cX cG ad (1) (up2 (up2 X n 0 a) n 1 j108s0), mxC6 cI cL cZ cX cG ad (1) (up2 (up2 X n 0 a) n 1 j108s0), mxC7 cI cL cZ cX cG ad (1) (up2 (up2 X n 0 a) n 1 j108s0), mxC8 cI cL cZ cX cG ad (1) (up2 (up2 X n 0 a) n 1 j108s0), mxC9 cI cL cZ cX cG ad (1) (up2 (up2 X n 0 a) n 1 j108s0), mxC10 cI cL cZ cX cG ad (1) (up2 (up2 X n 0 a) n 1 j108s0), mxC11 cI cL cZ cX cG ad (1) (up2 (up2 X n 0 a) n 1 j108s0), mxC12 cI cL cZ cX cG ad (1) (up2 (up2 X n 0 a) n 1 j108s0), mxC13 cI cL cZ cX cG ad (1) (up2 (up2 X n 0 a) n 1 j108s0), mxC14 cI cL cZ cX cG ad (1) (up2 (up2 X n 0 a) n 1 j108s0), mxC15 cI cL cZ cX cG ad (1) (up2 (up2 X n 0 a) n 1 j108s0), mxC16 cI cL cZ cX cG ad (1) (up2 (up2 X n 0 a) n 1 j108s0), mxC17 cI cL cZ cX cG ad (1) (up2 (up2 X n 0 a) n 1 j108s0), mxC18 cI cL cZ cX cG ad (1) (up2 (up2 X n 0 a) n 1 j108s0), mxC19 cI cL cZ cX cG ad (1) (up2 (up2 X n 0 a) n 1 j108s0), mxC20 cI cL cZ cX cG ad (1) (up2 (up2 X n 0 a) n 1 j108s0), mxC21 cI cL cZ cX cG ad (1) (up2 (up2 X n 0 a) n 1 j108s0), mxC22 cI cL cZ cX cG ad (1) (up2 (up2 X n 0 a) n 1 j108s0), mxC23 cI cL cZ cX cG ad (1) (up2 (up2 X n 0 a) n 1 j108s0), mxC24 cI cL cZ cX cG ad (1) (up2 (up2 X n 0 a) n 1 j108s0)]) := by
            intro j133s0 k133
            refine g_iastore (pc := 133) hG (4 + n) 2 (rw_at [mdoC0 cI cL cZ ad (0) (((m : Nat) : Int)) (((n : Nat) : Int)) (yy) (k) (dn) (on) (tw) (bt) (bl) (bd) (na) (dt) (tl) (ul) (th) (uh) (hd) (cn), i24C0 cI cL cZ ad (26) (Y), z24C0 cI cL cZ ad (27) (K), mxC0 cI cL cZ cX cG ad (1) (up2 (up2 X n 0 a) n 1 j108s0)] _ 24 (fun i9 => (ad (2 + i9), aI cI 3 ((up2 (up2 X n 0 a) n 1 j108s0) i9))) (by omega)) rfl (by omega) (by omega) (by decide) (ws' := [mdoC0 cI cL cZ ad (0) (((m : Nat) : Int)) (((n : Nat) : Int)) (yy) (k) (dn) (on) (tw) (bt) (bl) (bd) (na) (dt) (tl) (ul) (th) (uh) (hd) (cn), i24C0 cI cL cZ ad (26) (Y), z24C0 cI cL cZ ad (27) (K), mxC0 cI cL cZ cX cG ad (1) (up2 (up2 (up2 X n 0 a) n 1 j108s0) n 2 j133s0), mxC1 cI cL cZ cX cG ad (1) (up2 (up2 (up2 X n 0 a) n 1 j108s0) n 2 j133s0), mxC2 cI cL cZ cX cG ad (1) (up2 (up2 (up2 X n 0 a) n 1 j108s0) n 2 j133s0), mxC3 cI cL cZ cX cG ad (1) (up2 (up2 (up2 X n 0 a) n 1 j108s0) n 2 j133s0), mxC4 cI cL cZ cX cG ad (1) (up2 (up2 (up2 X n 0 a) n 1 j108s0) n 2 j133s0), mxC5 cI cL cZ cX cG ad (1) (up2 (up2 (up2 X n 0 a) n 1 j108s0) n 2 j133s0), mxC6 cI cL cZ cX cG ad (1) (up2 (up2 (up2 X n 0 a) n 1 j108s0) n 2 j133s0), mxC7 cI cL cZ cX cG ad (1) (up2 (up2 (up2 X n 0 a) n 1 j108s0) n 2 j133s0), mxC8 cI cL cZ cX cG ad (1) (up2 (up2 (up2 X n 0 a) n 1 j108s0) n 2 j133s0), mxC9 cI cL cZ cX cG ad (1) (up2 (up2 (up2 X n 0 a) n 1 j108s0) n 2 j133s0), mxC10 cI cL cZ cX cG ad (1) (up2 (up2 (up2 X n 0 a) n 1 j108s0) n 2 j133s0), mxC11 cI cL cZ cX cG ad (1) (up2 (up2 (up2 X n 0 a) n 1 j108s0) n 2 j133s0), mxC12 cI cL cZ cX cG ad (1) (up2 (up2 (up2 X n 0 a) n 1 j108s0) n 2 j133s0), mxC13 cI cL cZ cX cG ad (1) (up2 (up2 (up2 X n 0 a) n 1 j108s0) n 2 j133s0), mxC14 cI cL cZ cX cG ad (1) (up2 (up2 (up2 X n 0 a) n 1 j108s0) n 2 j133s0), mxC15 cI cL cZ cX cG ad (1) (up2 (up2 (up2 X n 0 a) n 1 j108s0) n 2 j133s0), mxC16 cI cL cZ cX cG ad (1) (up2 (up2 (up2 X n 0 a) n 1 j108s0) n 2 j133s0), mxC17 cI cL cZ cX cG ad (1) (up2 (up2 (up2 X n 0 a) n 1 j108s0) n 2 j133s0), mxC18 cI cL cZ cX cG ad (1) (up2 (up2 (up2 X n 0 a) n 1 j108s0) n 2 j133s0), mxC19 cI cL cZ cX cG ad (1) (up2 (up2 (up2 X n 0 a) n 1 j108s0) n 2 j133s0), mxC20 cI cL cZ cX cG ad (1) (up2 (up2 (up2 X n 0 a) n 1 j108s0) n 2 j133s0), mxC21 cI cL cZ cX cG ad (1) (up2 (up2 (up2 X n 0 a) n 1 j108s0) n 2 j133s0), mxC22 cI cL cZ cX cG ad (1) (up2 (up2 (up2 X n 0 a) n 1 j108s0) n 2 j133s0), mxC23 cI cL cZ cX cG ad (1) (up2 (up2 (up2 X n 0 a) n 1 j108s0) n 2 j133s0), mxC24 cI cL cZ cX cG ad (1) (up2 (up2 (up2 X n 0 a) n 1 j108s0) n 2 j133s0)]) (rw_setI [mdoC0 cI cL cZ ad (0) (((m : Nat) : Int)) (((n : Nat) : Int)) (yy) (k) (dn) (on) (tw) (bt) (bl) (bd) (na) (dt) (tl) (ul) (th) (uh) (hd) (cn), i24C0 cI cL cZ ad (26) (Y), z24C0 cI cL cZ ad (27) (K), mxC0 cI cL cZ cX cG ad (1) (up2 (up2 X n 0 a) n 1 j108s0)] _ (X := up2 (up2 X n 0 a) n 1 j108s0) (n := 24) (k := n) (by omega)) dX11_row_133 ?_
            refine g_aload_n (pc := 134) hG 0 rfl dX11_row_134 ?_
            refine g_get (pc := 135) hG fl11_18 0 rfl rfl dX11_row_135 ?_
            refine g_aload_n (pc := 138) hG 0 rfl dX11_row_138 ?_
            refine g_get (pc := 139) hG fl11_94 0 rfl rfl dX11_row_139 ?_
            refine g_iload_n (pc := 142) hG 1 rfl dX11_row_142 ?_
            refine g_iastore (pc := 143) hG 1 n rfl rfl (by omega) (by omega) (by decide) (ws' := [mdoC0 cI cL cZ ad (0) (((m : Nat) : Int)) (((n : Nat) : Int)) (yy) (k) (dn) (on) (tw) (bt) (bl) (bd) (na) (dt) (tl) (ul) (th) (uh) (hd) (cn), i24C0 cI cL cZ ad (26) (upZ Y n t), z24C0 cI cL cZ ad (27) (K), mxC0 cI cL cZ cX cG ad (1) (up2 (up2 (up2 X n 0 a) n 1 j108s0) n 2 j133s0), mxC1 cI cL cZ cX cG ad (1) (up2 (up2 (up2 X n 0 a) n 1 j108s0) n 2 j133s0), mxC2 cI cL cZ cX cG ad (1) (up2 (up2 (up2 X n 0 a) n 1 j108s0) n 2 j133s0), mxC3 cI cL cZ cX cG ad (1) (up2 (up2 (up2 X n 0 a) n 1 j108s0) n 2 j133s0), mxC4 cI cL cZ cX cG ad (1) (up2 (up2 (up2 X n 0 a) n 1 j108s0) n 2 j133s0), mxC5 cI cL cZ cX cG ad (1) (up2 (up2 (up2 X n 0 a) n 1 j108s0) n 2 j133s0), mxC6 cI cL cZ cX cG ad (1) (up2 (up2 (up2 X n 0 a) n 1 j108s0) n 2 j133s0), mxC7 cI cL cZ cX cG ad (1) (up2 (up2 (up2 X n 0 a) n 1 j108s0) n 2 j133s0), mxC8 cI cL cZ cX cG ad (1) (up2 (up2 (up2 X n 0 a) n 1 j108s0) n 2 j133s0), mxC9 cI cL cZ cX cG ad (1) (up2 (up2 (up2 X n 0 a) n 1 j108s0) n 2 j133s0), mxC10 cI cL cZ cX cG ad (1) (up2 (up2 (up2 X n 0 a) n 1 j108s0) n 2 j133s0), mxC11 cI cL cZ cX cG ad (1) (up2 (up2 (up2 X n 0 a) n 1 j108s0) n 2 j133s0), mxC12 cI cL cZ cX cG ad (1) (up2 (up2 (up2 X n 0 a) n 1 j108s0) n 2 j133s0), mxC13 cI cL cZ cX cG ad (1) (up2 (up2 (up2 X n 0 a) n 1 j108s0) n 2 j133s0), mxC14 cI cL cZ cX cG ad (1) (up2 (up2 (up2 X n 0 a) n 1 j108s0) n 2 j133s0), mxC15 cI cL cZ cX cG ad (1) (up2 (up2 (up2 X n 0 a) n 1 j108s0) n 2 j133s0), mxC16 cI cL cZ cX cG ad (1) (up2 (up2 (up2 X n 0 a) n 1 j108s0) n 2 j133s0), mxC17 cI cL cZ cX cG ad (1) (up2 (up2 (up2 X n 0 a) n 1 j108s0) n 2 j133s0), mxC18 cI cL cZ cX cG ad (1) (up2 (up2 (up2 X n 0 a) n 1 j108s0) n 2 j133s0), mxC19 cI cL cZ cX cG ad (1) (up2 (up2 (up2 X n 0 a) n 1 j108s0) n 2 j133s0), mxC20 cI cL cZ cX cG ad (1) (up2 (up2 (up2 X n 0 a) n 1 j108s0) n 2 j133s0), mxC21 cI cL cZ cX cG ad (1) (up2 (up2 (up2 X n 0 a) n 1 j108s0) n 2 j133s0), mxC22 cI cL cZ cX cG ad (1) (up2 (up2 (up2 X n 0 a) n 1 j108s0) n 2 j133s0), mxC23 cI cL cZ cX cG ad (1) (up2 (up2 (up2 X n 0 a) n 1 j108s0) n 2 j133s0), mxC24 cI cL cZ cX cG ad (1) (up2 (up2 (up2 X n 0 a) n 1 j108s0) n 2 j133s0)]) rfl dX11_row_143 ?_
            refine g_aload_n (pc := 144) hG 0 rfl dX11_row_144 ?_
            refine g_get (pc := 145) hG fl11_22 0 rfl rfl dX11_row_145 ?_
            refine g_aload_n (pc := 148) hG 0 rfl dX11_row_148 ?_
            refine g_get (pc := 149) hG fl11_94 0 rfl rfl dX11_row_149 ?_
            refine g_iconst (pc := 152) hG dX11_row_152 ?_
            refine g_bastore (pc := 153) hG (v := true) 2 n rfl rfl rfl (by omega) (by omega) (by decide) (ws' := [mdoC0 cI cL cZ ad (0) (((m : Nat) : Int)) (((n : Nat) : Int)) (yy) (k) (dn) (on) (tw) (bt) (bl) (bd) (na) (dt) (tl) (ul) (th) (uh) (hd) (cn), i24C0 cI cL cZ ad (26) (upZ Y n t), z24C0 cI cL cZ ad (27) (upB K n true), mxC0 cI cL cZ cX cG ad (1) (up2 (up2 (up2 X n 0 a) n 1 j108s0) n 2 j133s0), mxC1 cI cL cZ cX cG ad (1) (up2 (up2 (up2 X n 0 a) n 1 j108s0) n 2 j133s0), mxC2 cI cL cZ cX cG ad (1) (up2 (up2 (up2 X n 0 a) n 1 j108s0) n 2 j133s0), mxC3 cI cL cZ cX cG ad (1) (up2 (up2 (up2 X n 0 a) n 1 j108s0) n 2 j133s0), mxC4 cI cL cZ cX cG ad (1) (up2 (up2 (up2 X n 0 a) n 1 j108s0) n 2 j133s0), mxC5 cI cL cZ cX cG ad (1) (up2 (up2 (up2 X n 0 a) n 1 j108s0) n 2 j133s0), mxC6 cI cL cZ cX cG ad (1) (up2 (up2 (up2 X n 0 a) n 1 j108s0) n 2 j133s0), mxC7 cI cL cZ cX cG ad (1) (up2 (up2 (up2 X n 0 a) n 1 j108s0) n 2 j133s0), mxC8 cI cL cZ cX cG ad (1) (up2 (up2 (up2 X n 0 a) n 1 j108s0) n 2 j133s0), mxC9 cI cL cZ cX cG ad (1) (up2 (up2 (up2 X n 0 a) n 1 j108s0) n 2 j133s0), mxC10 cI cL cZ cX cG ad (1) (up2 (up2 (up2 X n 0 a) n 1 j108s0) n 2 j133s0), mxC11 cI cL cZ cX cG ad (1) (up2 (up2 (up2 X n 0 a) n 1 j108s0) n 2 j133s0), mxC12 cI cL cZ cX cG ad (1) (up2 (up2 (up2 X n 0 a) n 1 j108s0) n 2 j133s0), mxC13 cI cL cZ cX cG ad (1) (up2 (up2 (up2 X n 0 a) n 1 j108s0) n 2 j133s0), mxC14 cI cL cZ cX cG ad (1) (up2 (up2 (up2 X n 0 a) n 1 j108s0) n 2 j133s0), mxC15 cI cL cZ cX cG ad (1) (up2 (up2 (up2 X n 0 a) n 1 j108s0) n 2 j133s0), mxC16 cI cL cZ cX cG ad (1) (up2 (up2 (up2 X n 0 a) n 1 j108s0) n 2 j133s0), mxC17 cI cL cZ cX cG ad (1) (up2 (up2 (up2 X n 0 a) n 1 j108s0) n 2 j133s0), mxC18 cI cL cZ cX cG ad (1) (up2 (up2 (up2 X n 0 a) n 1 j108s0) n 2 j133s0), mxC19 cI cL cZ cX cG ad (1) (up2 (up2 (up2 X n 0 a) n 1 j108s0) n 2 j133s0), mxC20 cI cL cZ cX cG ad (1) (up2 (up2 (up2 X n 0 a) n 1 j108s0) n 2 j133s0), mxC21 cI cL cZ cX cG ad (1) (up2 (up2 (up2 X n 0 a) n 1 j108s0) n 2 j133s0), mxC22 cI cL cZ cX cG ad (1) (up2 (up2 (up2 X n 0 a) n 1 j108s0) n 2 j133s0), mxC23 cI cL cZ cX cG ad (1) (up2 (up2 (up2 X n 0 a) n 1 j108s0) n 2 j133s0), mxC24 cI cL cZ cX cG ad (1) (up2 (up2 (up2 X n 0 a) n 1 j108s0) n 2 j133s0)]) rfl dX11_row_153 ?_
            refine g_aload_n (pc := 154) hG 0 rfl dX11_row_154 ?_
            refine g_dup (pc := 155) hG rfl dX11_row_155 ?_
            refine g_get (pc := 156) hG fl11_94 0 rfl rfl dX11_row_156 ?_
            refine g_iconst (pc := 159) hG dX11_row_159 ?_
            refine g_iadd (pc := 160) hG dX11_row_160 ?_
            refine g_put (pc := 161) hG fp11_94 0 rfl rfl rfl (Nat.le_of_ble_eq_true rfl) (ws' := [mdoC0 cI cL cZ ad (0) (((m : Nat) : Int)) (((n + 1 : Nat) : Int)) (yy) (k) (dn) (on) (tw) (bt) (bl) (bd) (na) (dt) (tl) (ul) (th) (uh) (hd) (cn), i24C0 cI cL cZ ad (26) (upZ Y n t), z24C0 cI cL cZ ad (27) (upB K n true), mxC0 cI cL cZ cX cG ad (1) (up2 (up2 (up2 X n 0 a) n 1 j108s0) n 2 j133s0), mxC1 cI cL cZ cX cG ad (1) (up2 (up2 (up2 X n 0 a) n 1 j108s0) n 2 j133s0), mxC2 cI cL cZ cX cG ad (1) (up2 (up2 (up2 X n 0 a) n 1 j108s0) n 2 j133s0), mxC3 cI cL cZ cX cG ad (1) (up2 (up2 (up2 X n 0 a) n 1 j108s0) n 2 j133s0), mxC4 cI cL cZ cX cG ad (1) (up2 (up2 (up2 X n 0 a) n 1 j108s0) n 2 j133s0), mxC5 cI cL cZ cX cG ad (1) (up2 (up2 (up2 X n 0 a) n 1 j108s0) n 2 j133s0), mxC6 cI cL cZ cX cG ad (1) (up2 (up2 (up2 X n 0 a) n 1 j108s0) n 2 j133s0), mxC7 cI cL cZ cX cG ad (1) (up2 (up2 (up2 X n 0 a) n 1 j108s0) n 2 j133s0), mxC8 cI cL cZ cX cG ad (1) (up2 (up2 (up2 X n 0 a) n 1 j108s0) n 2 j133s0), mxC9 cI cL cZ cX cG ad (1) (up2 (up2 (up2 X n 0 a) n 1 j108s0) n 2 j133s0), mxC10 cI cL cZ cX cG ad (1) (up2 (up2 (up2 X n 0 a) n 1 j108s0) n 2 j133s0), mxC11 cI cL cZ cX cG ad (1) (up2 (up2 (up2 X n 0 a) n 1 j108s0) n 2 j133s0), mxC12 cI cL cZ cX cG ad (1) (up2 (up2 (up2 X n 0 a) n 1 j108s0) n 2 j133s0), mxC13 cI cL cZ cX cG ad (1) (up2 (up2 (up2 X n 0 a) n 1 j108s0) n 2 j133s0), mxC14 cI cL cZ cX cG ad (1) (up2 (up2 (up2 X n 0 a) n 1 j108s0) n 2 j133s0), mxC15 cI cL cZ cX cG ad (1) (up2 (up2 (up2 X n 0 a) n 1 j108s0) n 2 j133s0), mxC16 cI cL cZ cX cG ad (1) (up2 (up2 (up2 X n 0 a) n 1 j108s0) n 2 j133s0), mxC17 cI cL cZ cX cG ad (1) (up2 (up2 (up2 X n 0 a) n 1 j108s0) n 2 j133s0), mxC18 cI cL cZ cX cG ad (1) (up2 (up2 (up2 X n 0 a) n 1 j108s0) n 2 j133s0), mxC19 cI cL cZ cX cG ad (1) (up2 (up2 (up2 X n 0 a) n 1 j108s0) n 2 j133s0), mxC20 cI cL cZ cX cG ad (1) (up2 (up2 (up2 X n 0 a) n 1 j108s0) n 2 j133s0), mxC21 cI cL cZ cX cG ad (1) (up2 (up2 (up2 X n 0 a) n 1 j108s0) n 2 j133s0), mxC22 cI cL cZ cX cG ad (1) (up2 (up2 (up2 X n 0 a) n 1 j108s0) n 2 j133s0), mxC23 cI cL cZ cX cG ad (1) (up2 (up2 (up2 X n 0 a) n 1 j108s0) n 2 j133s0), mxC24 cI cL cZ cX cG ad (1) (up2 (up2 (up2 X n 0 a) n 1 j108s0) n 2 j133s0)]) rfl dX11_row_161 ?_
            refine g_aload_n (pc := 164) hG 0 rfl dX11_row_164 ?_
            refine g_get (pc := 165) hG fl11_94 0 rfl rfl dX11_row_165 ?_
            refine g_iconst (pc := 168) hG dX11_row_168 ?_
            refine g_isub (pc := 169) hG dX11_row_169 ?_
            exact g_ireturn (pc := 170) hG ⟨(((n + 1 : Nat) : Int)) - 1, up2 (up2 (up2 X n 0 a) n 1 j108s0) n 2 j133s0, upZ Y n t, upB K n true, n + 1, Or.inr ⟨⟨by omega, hgd.mp h68⟩, by omega, by rw [show j108s0 = (if m < 2 then 0 else b) by rcases k108 with ⟨h, e⟩ | ⟨h, e⟩ <;> rw [e] <;> (first | rw [if_neg (by omega)] | rw [if_pos (by omega)]), show j133s0 = (if m < 3 then 0 else c) by rcases k133 with ⟨h, e⟩ | ⟨h, e⟩ <;> rw [e] <;> (first | rw [if_neg (by omega)] | rw [if_pos (by omega)])], rfl, rfl, rfl⟩, rfl, rfl⟩ dX11_row_170
          refine g_icmp_ge (pc := 124) hG (by omega) (by omega) (tgt := 131) (by decide) dX11_row_124 (fun h124 => ?_) (fun h124 => ?_)
          · refine g_iload (pc := 131) hG 4 rfl dX11_row_131 ?_
            exact g_lv (pc := 133) hG [0, 1, 2, 3, 4, 5] rfl (J133 c (Or.inl ⟨h124, rfl⟩))
          · refine g_iconst (pc := 127) hG dX11_row_127 ?_
            refine g_goto (pc := 128) hG (tgt := 133) (by decide) dX11_row_128 ?_
            exact g_lv (pc := 133) hG [0, 1, 2, 3, 4, 5] rfl (J133 0 (Or.inr (⟨h124, rfl⟩)))
        refine g_icmp_ge (pc := 100) hG (by omega) (by omega) (tgt := 107) (by decide) dX11_row_100 (fun h100 => ?_) (fun h100 => ?_)
        · refine g_iload_n (pc := 107) hG 4 rfl dX11_row_107 ?_
          exact g_lv (pc := 108) hG [1, 2, 3, 4, 5, 0] rfl (J108 b (Or.inl ⟨h100, rfl⟩))
        · refine g_iconst (pc := 103) hG dX11_row_103 ?_
          refine g_goto (pc := 104) hG (tgt := 108) (by decide) dX11_row_104 ?_
          exact g_lv (pc := 108) hG [1, 2, 3, 4, 5, 0] rfl (J108 0 (Or.inr (⟨h100, rfl⟩)))
      · exact g_lv (pc := 71) hG [1, 2, 3, 4, 5, 0] rfl (J71 () (Or.inr (⟨h63, h68⟩)))
  refine g_icmp_lt (pc := 3) hG (by omega) (by omega) (tgt := 54) (by decide) dX11_row_3 (fun h3 => ?_) (fun h3 => ?_)
  · refine g_iconst (pc := 54) hG dX11_row_54 ?_
    exact g_lv (pc := 55) hG [0, 1, 2, 3, 4] rfl (J55 false (Or.inl ⟨h3, rfl⟩))
  · refine g_iload_n (pc := 6) hG 1 rfl dX11_row_6 ?_
    refine g_bipush (pc := 7) hG dX11_row_7 (by decide) ?_
    refine g_icmp_gt (pc := 9) hG (by omega) (by omega) (tgt := 54) (by decide) dX11_row_9 (fun h9 => ?_) (fun h9 => ?_)
    · refine g_iconst (pc := 54) hG dX11_row_54 ?_
      exact g_lv (pc := 55) hG [0, 1, 2, 3, 4] rfl (J55 false (Or.inr (Or.inl ⟨h3, h9, rfl⟩)))
    · refine g_iload_n (pc := 12) hG 2 rfl dX11_row_12 ?_
      refine g_callP (pc := 13) hG (As := [iV (a)]) (rest := []) (c_X11_isNumber (l := l) (D := D) (cI := cI) (cL := cL) (cZ := cZ) (cX := cX) (cG := cG) a (by omega)) cs11_150 ⟨rfl, rfl⟩ ⟨Nat.le_of_ble_eq_true rfl, Nat.le_of_ble_eq_true rfl⟩ rfl rfl (Nat.le_of_ble_eq_true rfl) dX11_row_13 (fun v h => ?_)
      obtain ⟨rfl, -⟩ := h
      show G 16 [(0, .ref (ad (0))), (1, iV (t)), (2, iV (a)), (3, iV (b)), (4, iV (c))] [bV (decide (-9 ≤ a ∧ a ≤ 9))] ([mdoC0 cI cL cZ ad (0) (((m : Nat) : Int)) (((n : Nat) : Int)) (yy) (k) (dn) (on) (tw) (bt) (bl) (bd) (na) (dt) (tl) (ul) (th) (uh) (hd) (cn), i24C0 cI cL cZ ad (26) (Y), z24C0 cI cL cZ ad (27) (K), mxC0 cI cL cZ cX cG ad (1) (X), mxC1 cI cL cZ cX cG ad (1) (X), mxC2 cI cL cZ cX cG ad (1) (X), mxC3 cI cL cZ cX cG ad (1) (X), mxC4 cI cL cZ cX cG ad (1) (X), mxC5 cI cL cZ cX cG ad (1) (X), mxC6 cI cL cZ cX cG ad (1) (X), mxC7 cI cL cZ cX cG ad (1) (X), mxC8 cI cL cZ cX cG ad (1) (X), mxC9 cI cL cZ cX cG ad (1) (X), mxC10 cI cL cZ cX cG ad (1) (X), mxC11 cI cL cZ cX cG ad (1) (X), mxC12 cI cL cZ cX cG ad (1) (X), mxC13 cI cL cZ cX cG ad (1) (X), mxC14 cI cL cZ cX cG ad (1) (X), mxC15 cI cL cZ cX cG ad (1) (X), mxC16 cI cL cZ cX cG ad (1) (X), mxC17 cI cL cZ cX cG ad (1) (X), mxC18 cI cL cZ cX cG ad (1) (X), mxC19 cI cL cZ cX cG ad (1) (X), mxC20 cI cL cZ cX cG ad (1) (X), mxC21 cI cL cZ cX cG ad (1) (X), mxC22 cI cL cZ cX cG ad (1) (X), mxC23 cI cL cZ cX cG ad (1) (X), mxC24 cI cL cZ cX cG ad (1) (X)])
      refine g_ifb_eq (pc := 16) hG (tgt := 54) (by decide) dX11_row_16 (fun h16 => ?_) (fun h16 => ?_)
      · refine g_iconst (pc := 54) hG dX11_row_54 ?_
        exact g_lv (pc := 55) hG [0, 1, 2, 3, 4] rfl (J55 false (Or.inr (Or.inr (Or.inl ⟨h3, h9, h16, rfl⟩))))
      · refine g_aload_n (pc := 19) hG 0 rfl dX11_row_19 ?_
        refine g_get (pc := 20) hG fl11_7 0 rfl rfl dX11_row_20 ?_
        refine g_iconst (pc := 23) hG dX11_row_23 ?_
        refine g_icmp_lt (pc := 24) hG (by omega) (by omega) (tgt := 34) (by decide) dX11_row_24 (fun h24 => ?_) (fun h24 => ?_)
        · refine g_aload_n (pc := 34) hG 0 rfl dX11_row_34 ?_
          refine g_get (pc := 35) hG fl11_7 0 rfl rfl dX11_row_35 ?_
          refine g_iconst (pc := 38) hG dX11_row_38 ?_
          refine g_icmp_lt (pc := 39) hG (by omega) (by omega) (tgt := 50) (by decide) dX11_row_39 (fun h39 => ?_) (fun h39 => ?_)
          · refine g_iconst (pc := 50) hG dX11_row_50 ?_
            refine g_goto (pc := 51) hG (tgt := 55) (by decide) dX11_row_51 ?_
            exact g_lv (pc := 55) hG [0, 1, 2, 3, 4] rfl (J55 true (Or.inr (Or.inr (Or.inr (Or.inl ⟨h3, h9, h16, h24, h39, rfl⟩)))))
          · refine g_iload (pc := 42) hG 4 rfl dX11_row_42 ?_
            refine g_callP (pc := 44) hG (As := [iV (c)]) (rest := []) (c_X11_isNumber (l := l) (D := D) (cI := cI) (cL := cL) (cZ := cZ) (cX := cX) (cG := cG) c (by omega)) cs11_150 ⟨rfl, rfl⟩ ⟨Nat.le_of_ble_eq_true rfl, Nat.le_of_ble_eq_true rfl⟩ rfl rfl (Nat.le_of_ble_eq_true rfl) dX11_row_44 (fun v h => ?_)
            obtain ⟨rfl, -⟩ := h
            show G 47 [(0, .ref (ad (0))), (1, iV (t)), (2, iV (a)), (3, iV (b)), (4, iV (c))] [bV (decide (-9 ≤ c ∧ c ≤ 9))] ([mdoC0 cI cL cZ ad (0) (((m : Nat) : Int)) (((n : Nat) : Int)) (yy) (k) (dn) (on) (tw) (bt) (bl) (bd) (na) (dt) (tl) (ul) (th) (uh) (hd) (cn), i24C0 cI cL cZ ad (26) (Y), z24C0 cI cL cZ ad (27) (K), mxC0 cI cL cZ cX cG ad (1) (X), mxC1 cI cL cZ cX cG ad (1) (X), mxC2 cI cL cZ cX cG ad (1) (X), mxC3 cI cL cZ cX cG ad (1) (X), mxC4 cI cL cZ cX cG ad (1) (X), mxC5 cI cL cZ cX cG ad (1) (X), mxC6 cI cL cZ cX cG ad (1) (X), mxC7 cI cL cZ cX cG ad (1) (X), mxC8 cI cL cZ cX cG ad (1) (X), mxC9 cI cL cZ cX cG ad (1) (X), mxC10 cI cL cZ cX cG ad (1) (X), mxC11 cI cL cZ cX cG ad (1) (X), mxC12 cI cL cZ cX cG ad (1) (X), mxC13 cI cL cZ cX cG ad (1) (X), mxC14 cI cL cZ cX cG ad (1) (X), mxC15 cI cL cZ cX cG ad (1) (X), mxC16 cI cL cZ cX cG ad (1) (X), mxC17 cI cL cZ cX cG ad (1) (X), mxC18 cI cL cZ cX cG ad (1) (X), mxC19 cI cL cZ cX cG ad (1) (X), mxC20 cI cL cZ cX cG ad (1) (X), mxC21 cI cL cZ cX cG ad (1) (X), mxC22 cI cL cZ cX cG ad (1) (X), mxC23 cI cL cZ cX cG ad (1) (X), mxC24 cI cL cZ cX cG ad (1) (X)])
            refine g_ifb_eq (pc := 47) hG (tgt := 54) (by decide) dX11_row_47 (fun h47 => ?_) (fun h47 => ?_)
            · refine g_iconst (pc := 54) hG dX11_row_54 ?_
              exact g_lv (pc := 55) hG [0, 1, 2, 3, 4] rfl (J55 false (Or.inr (Or.inr (Or.inr (Or.inr (Or.inl ⟨h3, h9, h16, h24, h39, h47, rfl⟩))))))
            · refine g_iconst (pc := 50) hG dX11_row_50 ?_
              refine g_goto (pc := 51) hG (tgt := 55) (by decide) dX11_row_51 ?_
              exact g_lv (pc := 55) hG [0, 1, 2, 3, 4] rfl (J55 true (Or.inr (Or.inr (Or.inr (Or.inr (Or.inr (Or.inl ⟨h3, h9, h16, h24, h39, h47, rfl⟩)))))))
        · refine g_iload_n (pc := 27) hG 3 rfl dX11_row_27 ?_
          refine g_callP (pc := 28) hG (As := [iV (b)]) (rest := []) (c_X11_isNumber (l := l) (D := D) (cI := cI) (cL := cL) (cZ := cZ) (cX := cX) (cG := cG) b (by omega)) cs11_150 ⟨rfl, rfl⟩ ⟨Nat.le_of_ble_eq_true rfl, Nat.le_of_ble_eq_true rfl⟩ rfl rfl (Nat.le_of_ble_eq_true rfl) dX11_row_28 (fun v h => ?_)
          obtain ⟨rfl, -⟩ := h
          show G 31 [(0, .ref (ad (0))), (1, iV (t)), (2, iV (a)), (3, iV (b)), (4, iV (c))] [bV (decide (-9 ≤ b ∧ b ≤ 9))] ([mdoC0 cI cL cZ ad (0) (((m : Nat) : Int)) (((n : Nat) : Int)) (yy) (k) (dn) (on) (tw) (bt) (bl) (bd) (na) (dt) (tl) (ul) (th) (uh) (hd) (cn), i24C0 cI cL cZ ad (26) (Y), z24C0 cI cL cZ ad (27) (K), mxC0 cI cL cZ cX cG ad (1) (X), mxC1 cI cL cZ cX cG ad (1) (X), mxC2 cI cL cZ cX cG ad (1) (X), mxC3 cI cL cZ cX cG ad (1) (X), mxC4 cI cL cZ cX cG ad (1) (X), mxC5 cI cL cZ cX cG ad (1) (X), mxC6 cI cL cZ cX cG ad (1) (X), mxC7 cI cL cZ cX cG ad (1) (X), mxC8 cI cL cZ cX cG ad (1) (X), mxC9 cI cL cZ cX cG ad (1) (X), mxC10 cI cL cZ cX cG ad (1) (X), mxC11 cI cL cZ cX cG ad (1) (X), mxC12 cI cL cZ cX cG ad (1) (X), mxC13 cI cL cZ cX cG ad (1) (X), mxC14 cI cL cZ cX cG ad (1) (X), mxC15 cI cL cZ cX cG ad (1) (X), mxC16 cI cL cZ cX cG ad (1) (X), mxC17 cI cL cZ cX cG ad (1) (X), mxC18 cI cL cZ cX cG ad (1) (X), mxC19 cI cL cZ cX cG ad (1) (X), mxC20 cI cL cZ cX cG ad (1) (X), mxC21 cI cL cZ cX cG ad (1) (X), mxC22 cI cL cZ cX cG ad (1) (X), mxC23 cI cL cZ cX cG ad (1) (X), mxC24 cI cL cZ cX cG ad (1) (X)])
          refine g_ifb_eq (pc := 31) hG (tgt := 54) (by decide) dX11_row_31 (fun h31 => ?_) (fun h31 => ?_)
          · refine g_iconst (pc := 54) hG dX11_row_54 ?_
            exact g_lv (pc := 55) hG [0, 1, 2, 3, 4] rfl (J55 false (Or.inr (Or.inr (Or.inr (Or.inr (Or.inr (Or.inr (Or.inl ⟨h3, h9, h16, h24, h31, rfl⟩))))))))
          · refine g_aload_n (pc := 34) hG 0 rfl dX11_row_34 ?_
            refine g_get (pc := 35) hG fl11_7 0 rfl rfl dX11_row_35 ?_
            refine g_iconst (pc := 38) hG dX11_row_38 ?_
            refine g_icmp_lt (pc := 39) hG (by omega) (by omega) (tgt := 50) (by decide) dX11_row_39 (fun h39 => ?_) (fun h39 => ?_)
            · refine g_iconst (pc := 50) hG dX11_row_50 ?_
              refine g_goto (pc := 51) hG (tgt := 55) (by decide) dX11_row_51 ?_
              exact g_lv (pc := 55) hG [0, 1, 2, 3, 4] rfl (J55 true (Or.inr (Or.inr (Or.inr (Or.inr (Or.inr (Or.inr (Or.inr (Or.inl ⟨h3, h9, h16, h24, h31, h39, rfl⟩)))))))))
            · refine g_iload (pc := 42) hG 4 rfl dX11_row_42 ?_
              refine g_callP (pc := 44) hG (As := [iV (c)]) (rest := []) (c_X11_isNumber (l := l) (D := D) (cI := cI) (cL := cL) (cZ := cZ) (cX := cX) (cG := cG) c (by omega)) cs11_150 ⟨rfl, rfl⟩ ⟨Nat.le_of_ble_eq_true rfl, Nat.le_of_ble_eq_true rfl⟩ rfl rfl (Nat.le_of_ble_eq_true rfl) dX11_row_44 (fun v h => ?_)
              obtain ⟨rfl, -⟩ := h
              show G 47 [(0, .ref (ad (0))), (1, iV (t)), (2, iV (a)), (3, iV (b)), (4, iV (c))] [bV (decide (-9 ≤ c ∧ c ≤ 9))] ([mdoC0 cI cL cZ ad (0) (((m : Nat) : Int)) (((n : Nat) : Int)) (yy) (k) (dn) (on) (tw) (bt) (bl) (bd) (na) (dt) (tl) (ul) (th) (uh) (hd) (cn), i24C0 cI cL cZ ad (26) (Y), z24C0 cI cL cZ ad (27) (K), mxC0 cI cL cZ cX cG ad (1) (X), mxC1 cI cL cZ cX cG ad (1) (X), mxC2 cI cL cZ cX cG ad (1) (X), mxC3 cI cL cZ cX cG ad (1) (X), mxC4 cI cL cZ cX cG ad (1) (X), mxC5 cI cL cZ cX cG ad (1) (X), mxC6 cI cL cZ cX cG ad (1) (X), mxC7 cI cL cZ cX cG ad (1) (X), mxC8 cI cL cZ cX cG ad (1) (X), mxC9 cI cL cZ cX cG ad (1) (X), mxC10 cI cL cZ cX cG ad (1) (X), mxC11 cI cL cZ cX cG ad (1) (X), mxC12 cI cL cZ cX cG ad (1) (X), mxC13 cI cL cZ cX cG ad (1) (X), mxC14 cI cL cZ cX cG ad (1) (X), mxC15 cI cL cZ cX cG ad (1) (X), mxC16 cI cL cZ cX cG ad (1) (X), mxC17 cI cL cZ cX cG ad (1) (X), mxC18 cI cL cZ cX cG ad (1) (X), mxC19 cI cL cZ cX cG ad (1) (X), mxC20 cI cL cZ cX cG ad (1) (X), mxC21 cI cL cZ cX cG ad (1) (X), mxC22 cI cL cZ cX cG ad (1) (X), mxC23 cI cL cZ cX cG ad (1) (X), mxC24 cI cL cZ cX cG ad (1) (X)])
              refine g_ifb_eq (pc := 47) hG (tgt := 54) (by decide) dX11_row_47 (fun h47 => ?_) (fun h47 => ?_)
              · refine g_iconst (pc := 54) hG dX11_row_54 ?_
                exact g_lv (pc := 55) hG [0, 1, 2, 3, 4] rfl (J55 false (Or.inr (Or.inr (Or.inr (Or.inr (Or.inr (Or.inr (Or.inr (Or.inr (Or.inl ⟨h3, h9, h16, h24, h31, h39, h47, rfl⟩))))))))))
              · refine g_iconst (pc := 50) hG dX11_row_50 ?_
                refine g_goto (pc := 51) hG (tgt := 55) (by decide) dX11_row_51 ?_
                exact g_lv (pc := 55) hG [0, 1, 2, 3, 4] rfl (J55 true (Or.inr (Or.inr (Or.inr (Or.inr (Or.inr (Or.inr (Or.inr (Or.inr (Or.inr (⟨h3, h9, h16, h24, h31, h39, h47, rfl⟩)))))))))))
set_option maxHeartbeats 4000000 in
set_option maxRecDepth 100000 in
theorem c_X11_set {l : Launch} {D : va_G} {cI cL cZ cX cG : ClassId} (ad : Nat → Nat) (m : Nat) (n : Nat) (yy : Int) (k : Int) (dn : Int) (on : Int) (tw : Int) (bt : Int) (bl : Int) (bd : Int) (na : Int) (dt : Int) (tl : Int) (ul : Int) (th : Int) (uh : Int) (hd : Bool) (cn : Int) (K : Nat → Bool) (r : Int) (b : Bool) (hn : n ≤ 24) (hr : InI r) : Ct l D (gT cI cL cZ cX cG) yX11_set cX11_set 3 (some .boolean) ({ frames := 1, cells := 0, slots := 0, locals := 21 }) [.ref (ad (0)), iV (r), bV (b)] ([mdoC0 cI cL cZ ad (0) (((m : Nat) : Int)) (((n : Nat) : Int)) (yy) (k) (dn) (on) (tw) (bt) (bl) (bd) (na) (dt) (tl) (ul) (th) (uh) (hd) (cn), z24C0 cI cL cZ ad (27) (K)]) (fun vv_ ww_ => ∃ (v : Bool), ∃ (K2 : Nat → Bool), ((¬ ((0 ≤ r ∧ r < ((n : Nat) : Int)) ∧ ¬ K r.toNat = b) ∧ v = false ∧ K2 = K) ∨ (((0 ≤ r ∧ r < ((n : Nat) : Int)) ∧ ¬ K r.toNat = b) ∧ v = true ∧ K2 = upB K r.toNat b)) ∧ vv_ = some (bV (v)) ∧ ww_ = [mdoC0 cI cL cZ ad (0) (((m : Nat) : Int)) (((n : Nat) : Int)) (yy) (k) (dn) (on) (tw) (bt) (bl) (bd) (na) (dt) (tl) (ul) (th) (uh) (hd) (cn), z24C0 cI cL cZ ad (27) (K2)]) := by
  refine Ct.of (by decide) (Nat.le_of_ble_eq_true rfl) (fun G hG => ?_)
  show G 0 [(0, .ref (ad (0))), (1, iV (r)), (2, bV (b))] [] ([mdoC0 cI cL cZ ad (0) (((m : Nat) : Int)) (((n : Nat) : Int)) (yy) (k) (dn) (on) (tw) (bt) (bl) (bd) (na) (dt) (tl) (ul) (th) (uh) (hd) (cn), z24C0 cI cL cZ ad (27) (K)])
  refine g_aload_n (pc := 0) hG 0 rfl dX11_set_0 ?_
  refine g_iload_n (pc := 1) hG 1 rfl dX11_set_1 ?_
  refine g_callV (pc := 2) hG (As := [iV (r)]) (rest := []) (c_X11_isRow (l := l) (D := D) (cI := cI) (cL := cL) (cZ := cZ) (cX := cX) (cG := cG) ad m n yy k dn on tw bt bl bd na dt tl ul th uh hd cn r (by omega) (by omega)) (Sp.mg [true] rfl) cv11_154 ⟨rfl, rfl⟩ ⟨Nat.le_of_ble_eq_true rfl, Nat.le_of_ble_eq_true rfl⟩ 0 rfl rfl rfl rfl (Nat.le_of_ble_eq_true rfl) dX11_set_2 (fun v w1 h => ?_)
  obtain ⟨rfl, rfl⟩ := h
  show G 5 [(0, .ref (ad (0))), (1, iV (r)), (2, bV (b))] [bV (decide (0 ≤ r ∧ r < ((n : Nat) : Int)))] ([mdoC0 cI cL cZ ad (0) (((m : Nat) : Int)) (((n : Nat) : Int)) (yy) (k) (dn) (on) (tw) (bt) (bl) (bd) (na) (dt) (tl) (ul) (th) (uh) (hd) (cn), z24C0 cI cL cZ ad (27) (K)])
  have J18 : ∀ (_ : Unit), ((((decide (0 ≤ r ∧ r < ((n : Nat) : Int))) = false)) ∨ (((decide (0 ≤ r ∧ r < ((n : Nat) : Int))) = true) ∧ ((K ((r).toNat)) = b))) → G 18 [(0, .ref (ad (0))), (1, iV (r)), (2, bV (b))] [] ([mdoC0 cI cL cZ ad (0) (((m : Nat) : Int)) (((n : Nat) : Int)) (yy) (k) (dn) (on) (tw) (bt) (bl) (bd) (na) (dt) (tl) (ul) (th) (uh) (hd) (cn), z24C0 cI cL cZ ad (27) (K)]) := by
    intro _ k18
    refine g_iconst (pc := 18) hG dX11_set_18 ?_
    exact g_zreturn (pc := 19) hG (false) rfl ⟨false, K, Or.inl ⟨by grind, rfl, rfl⟩, rfl, rfl⟩ dX11_set_19
  refine g_ifb_eq (pc := 5) hG (tgt := 18) (by decide) dX11_set_5 (fun h5 => ?_) (fun h5 => ?_)
  · exact g_lv (pc := 18) hG [0, 1, 2] rfl (J18 () (Or.inl (h5)))
  · have hd5 := of_decide_eq_true h5
    refine g_aload_n (pc := 8) hG 0 rfl dX11_set_8 ?_
    refine g_get (pc := 9) hG fl11_22 0 rfl rfl dX11_set_9 ?_
    refine g_iload_n (pc := 12) hG 1 rfl dX11_set_12 ?_
    refine g_baload (pc := 13) hG 1 ((r).toNat) rfl rfl (by omega) (by omega) (by decide) dX11_set_13 ?_
    refine g_iload_n (pc := 14) hG 2 rfl dX11_set_14 ?_
    refine g_icmpb_ne (pc := 15) hG (tgt := 20) (by decide) dX11_set_15 (fun h15 => ?_) (fun h15 => ?_)
    · refine g_aload_n (pc := 20) hG 0 rfl dX11_set_20 ?_
      refine g_get (pc := 21) hG fl11_22 0 rfl rfl dX11_set_21 ?_
      refine g_iload_n (pc := 24) hG 1 rfl dX11_set_24 ?_
      refine g_iload_n (pc := 25) hG 2 rfl dX11_set_25 ?_
      refine g_bastore (pc := 26) hG (v := b) 1 ((r).toNat) rfl rfl rfl (by omega) (by omega) (by decide) (ws' := [mdoC0 cI cL cZ ad (0) (((m : Nat) : Int)) (((n : Nat) : Int)) (yy) (k) (dn) (on) (tw) (bt) (bl) (bd) (na) (dt) (tl) (ul) (th) (uh) (hd) (cn), z24C0 cI cL cZ ad (27) (upB K ((r).toNat) b)]) rfl dX11_set_26 ?_
      refine g_iconst (pc := 27) hG dX11_set_27 ?_
      exact g_zreturn (pc := 28) hG (true) rfl ⟨true, upB K ((r).toNat) b, Or.inr ⟨⟨hd5, h15⟩, rfl, rfl⟩, rfl, rfl⟩ dX11_set_28
    · exact g_lv (pc := 18) hG [0, 1, 2] rfl (J18 () (Or.inr (⟨h5, h15⟩)))
set_option maxHeartbeats 4000000 in
set_option maxRecDepth 100000 in
theorem c_X11_at {l : Launch} {D : va_G} {cI cL cZ cX cG : ClassId} (ad : Nat → Nat) (m : Nat) (n : Nat) (yy : Int) (k : Int) (dn : Int) (on : Int) (tw : Int) (bt : Int) (bl : Int) (bd : Int) (na : Int) (dt : Int) (tl : Int) (ul : Int) (th : Int) (uh : Int) (hd : Bool) (cn : Int) (X : Nat → Nat → Int) (Y : Nat → Int) (r : Int) (c : Int) (hn : n ≤ 24) (hm : m ≤ 3) (hr : InI r) (hc : InI c) : Ct l D (gT cI cL cZ cX cG) yX11_at cX11_at 3 (some .int) ({ frames := 1, cells := 0, slots := 0, locals := 21 }) [.ref (ad (0)), iV (r), iV (c)] ([mdoC0 cI cL cZ ad (0) (((m : Nat) : Int)) (((n : Nat) : Int)) (yy) (k) (dn) (on) (tw) (bt) (bl) (bd) (na) (dt) (tl) (ul) (th) (uh) (hd) (cn), i24C0 cI cL cZ ad (26) (Y), mxC0 cI cL cZ cX cG ad (1) (X), mxC1 cI cL cZ cX cG ad (1) (X), mxC2 cI cL cZ cX cG ad (1) (X), mxC3 cI cL cZ cX cG ad (1) (X), mxC4 cI cL cZ cX cG ad (1) (X), mxC5 cI cL cZ cX cG ad (1) (X), mxC6 cI cL cZ cX cG ad (1) (X), mxC7 cI cL cZ cX cG ad (1) (X), mxC8 cI cL cZ cX cG ad (1) (X), mxC9 cI cL cZ cX cG ad (1) (X), mxC10 cI cL cZ cX cG ad (1) (X), mxC11 cI cL cZ cX cG ad (1) (X), mxC12 cI cL cZ cX cG ad (1) (X), mxC13 cI cL cZ cX cG ad (1) (X), mxC14 cI cL cZ cX cG ad (1) (X), mxC15 cI cL cZ cX cG ad (1) (X), mxC16 cI cL cZ cX cG ad (1) (X), mxC17 cI cL cZ cX cG ad (1) (X), mxC18 cI cL cZ cX cG ad (1) (X), mxC19 cI cL cZ cX cG ad (1) (X), mxC20 cI cL cZ cX cG ad (1) (X), mxC21 cI cL cZ cX cG ad (1) (X), mxC22 cI cL cZ cX cG ad (1) (X), mxC23 cI cL cZ cX cG ad (1) (X), mxC24 cI cL cZ cX cG ad (1) (X)]) (fun vv_ ww_ => vv_ = some (iV (mAt X Y m n r c)) ∧ ww_ = [mdoC0 cI cL cZ ad (0) (((m : Nat) : Int)) (((n : Nat) : Int)) (yy) (k) (dn) (on) (tw) (bt) (bl) (bd) (na) (dt) (tl) (ul) (th) (uh) (hd) (cn), i24C0 cI cL cZ ad (26) (Y), mxC0 cI cL cZ cX cG ad (1) (X), mxC1 cI cL cZ cX cG ad (1) (X), mxC2 cI cL cZ cX cG ad (1) (X), mxC3 cI cL cZ cX cG ad (1) (X), mxC4 cI cL cZ cX cG ad (1) (X), mxC5 cI cL cZ cX cG ad (1) (X), mxC6 cI cL cZ cX cG ad (1) (X), mxC7 cI cL cZ cX cG ad (1) (X), mxC8 cI cL cZ cX cG ad (1) (X), mxC9 cI cL cZ cX cG ad (1) (X), mxC10 cI cL cZ cX cG ad (1) (X), mxC11 cI cL cZ cX cG ad (1) (X), mxC12 cI cL cZ cX cG ad (1) (X), mxC13 cI cL cZ cX cG ad (1) (X), mxC14 cI cL cZ cX cG ad (1) (X), mxC15 cI cL cZ cX cG ad (1) (X), mxC16 cI cL cZ cX cG ad (1) (X), mxC17 cI cL cZ cX cG ad (1) (X), mxC18 cI cL cZ cX cG ad (1) (X), mxC19 cI cL cZ cX cG ad (1) (X), mxC20 cI cL cZ cX cG ad (1) (X), mxC21 cI cL cZ cX cG ad (1) (X), mxC22 cI cL cZ cX cG ad (1) (X), mxC23 cI cL cZ cX cG ad (1) (X), mxC24 cI cL cZ cX cG ad (1) (X)]) := by
  refine Ct.of (by decide) (Nat.le_of_ble_eq_true rfl) (fun G hG => ?_)
  show G 0 [(0, .ref (ad (0))), (1, iV (r)), (2, iV (c))] [] ([mdoC0 cI cL cZ ad (0) (((m : Nat) : Int)) (((n : Nat) : Int)) (yy) (k) (dn) (on) (tw) (bt) (bl) (bd) (na) (dt) (tl) (ul) (th) (uh) (hd) (cn), i24C0 cI cL cZ ad (26) (Y), mxC0 cI cL cZ cX cG ad (1) (X), mxC1 cI cL cZ cX cG ad (1) (X), mxC2 cI cL cZ cX cG ad (1) (X), mxC3 cI cL cZ cX cG ad (1) (X), mxC4 cI cL cZ cX cG ad (1) (X), mxC5 cI cL cZ cX cG ad (1) (X), mxC6 cI cL cZ cX cG ad (1) (X), mxC7 cI cL cZ cX cG ad (1) (X), mxC8 cI cL cZ cX cG ad (1) (X), mxC9 cI cL cZ cX cG ad (1) (X), mxC10 cI cL cZ cX cG ad (1) (X), mxC11 cI cL cZ cX cG ad (1) (X), mxC12 cI cL cZ cX cG ad (1) (X), mxC13 cI cL cZ cX cG ad (1) (X), mxC14 cI cL cZ cX cG ad (1) (X), mxC15 cI cL cZ cX cG ad (1) (X), mxC16 cI cL cZ cX cG ad (1) (X), mxC17 cI cL cZ cX cG ad (1) (X), mxC18 cI cL cZ cX cG ad (1) (X), mxC19 cI cL cZ cX cG ad (1) (X), mxC20 cI cL cZ cX cG ad (1) (X), mxC21 cI cL cZ cX cG ad (1) (X), mxC22 cI cL cZ cX cG ad (1) (X), mxC23 cI cL cZ cX cG ad (1) (X), mxC24 cI cL cZ cX cG ad (1) (X)])
  refine g_aload_n (pc := 0) hG 0 rfl dX11_at_0 ?_
  refine g_iload_n (pc := 1) hG 1 rfl dX11_at_1 ?_
  refine g_callV (pc := 2) hG (As := [iV (r)]) (rest := []) (c_X11_isRow (l := l) (D := D) (cI := cI) (cL := cL) (cZ := cZ) (cX := cX) (cG := cG) ad m n yy k dn on tw bt bl bd na dt tl ul th uh hd cn r (by omega) (by omega)) (Sp.mg [true] rfl) cv11_154 ⟨rfl, rfl⟩ ⟨Nat.le_of_ble_eq_true rfl, Nat.le_of_ble_eq_true rfl⟩ 0 rfl rfl rfl rfl (Nat.le_of_ble_eq_true rfl) dX11_at_2 (fun v w1 h => ?_)
  obtain ⟨rfl, rfl⟩ := h
  show G 5 [(0, .ref (ad (0))), (1, iV (r)), (2, iV (c))] [bV (decide (0 ≤ r ∧ r < ((n : Nat) : Int)))] ([mdoC0 cI cL cZ ad (0) (((m : Nat) : Int)) (((n : Nat) : Int)) (yy) (k) (dn) (on) (tw) (bt) (bl) (bd) (na) (dt) (tl) (ul) (th) (uh) (hd) (cn), i24C0 cI cL cZ ad (26) (Y), mxC0 cI cL cZ cX cG ad (1) (X), mxC1 cI cL cZ cX cG ad (1) (X), mxC2 cI cL cZ cX cG ad (1) (X), mxC3 cI cL cZ cX cG ad (1) (X), mxC4 cI cL cZ cX cG ad (1) (X), mxC5 cI cL cZ cX cG ad (1) (X), mxC6 cI cL cZ cX cG ad (1) (X), mxC7 cI cL cZ cX cG ad (1) (X), mxC8 cI cL cZ cX cG ad (1) (X), mxC9 cI cL cZ cX cG ad (1) (X), mxC10 cI cL cZ cX cG ad (1) (X), mxC11 cI cL cZ cX cG ad (1) (X), mxC12 cI cL cZ cX cG ad (1) (X), mxC13 cI cL cZ cX cG ad (1) (X), mxC14 cI cL cZ cX cG ad (1) (X), mxC15 cI cL cZ cX cG ad (1) (X), mxC16 cI cL cZ cX cG ad (1) (X), mxC17 cI cL cZ cX cG ad (1) (X), mxC18 cI cL cZ cX cG ad (1) (X), mxC19 cI cL cZ cX cG ad (1) (X), mxC20 cI cL cZ cX cG ad (1) (X), mxC21 cI cL cZ cX cG ad (1) (X), mxC22 cI cL cZ cX cG ad (1) (X), mxC23 cI cL cZ cX cG ad (1) (X), mxC24 cI cL cZ cX cG ad (1) (X)])
  refine g_ifb_ne (pc := 5) hG (tgt := 12) (by decide) dX11_at_5 (fun h5 => ?_) (fun h5 => ?_)
  · have hd5 := of_decide_eq_true h5
    refine g_iload_n (pc := 12) hG 2 rfl dX11_at_12 ?_
    refine g_iconst (pc := 13) hG dX11_at_13 ?_
    refine g_icmp_ne (pc := 14) hG (by omega) (by omega) (tgt := 26) (by decide) dX11_at_14 (fun h14 => ?_) (fun h14 => ?_)
    · refine g_aload_n (pc := 26) hG 0 rfl dX11_at_26 ?_
      refine g_iload_n (pc := 27) hG 2 rfl dX11_at_27 ?_
      refine g_callV (pc := 28) hG (As := [iV (c)]) (rest := []) (c_X11_isColumn (l := l) (D := D) (cI := cI) (cL := cL) (cZ := cZ) (cX := cX) (cG := cG) ad m n yy k dn on tw bt bl bd na dt tl ul th uh hd cn c (by omega) (by omega)) (Sp.mg [true] rfl) cv11_157 ⟨rfl, rfl⟩ ⟨Nat.le_of_ble_eq_true rfl, Nat.le_of_ble_eq_true rfl⟩ 0 rfl rfl rfl rfl (Nat.le_of_ble_eq_true rfl) dX11_at_28 (fun v w1 h => ?_)
      obtain ⟨rfl, rfl⟩ := h
      show G 31 [(0, .ref (ad (0))), (1, iV (r)), (2, iV (c))] [bV (decide (0 ≤ c ∧ c < ((m : Nat) : Int)))] ([mdoC0 cI cL cZ ad (0) (((m : Nat) : Int)) (((n : Nat) : Int)) (yy) (k) (dn) (on) (tw) (bt) (bl) (bd) (na) (dt) (tl) (ul) (th) (uh) (hd) (cn), i24C0 cI cL cZ ad (26) (Y), mxC0 cI cL cZ cX cG ad (1) (X), mxC1 cI cL cZ cX cG ad (1) (X), mxC2 cI cL cZ cX cG ad (1) (X), mxC3 cI cL cZ cX cG ad (1) (X), mxC4 cI cL cZ cX cG ad (1) (X), mxC5 cI cL cZ cX cG ad (1) (X), mxC6 cI cL cZ cX cG ad (1) (X), mxC7 cI cL cZ cX cG ad (1) (X), mxC8 cI cL cZ cX cG ad (1) (X), mxC9 cI cL cZ cX cG ad (1) (X), mxC10 cI cL cZ cX cG ad (1) (X), mxC11 cI cL cZ cX cG ad (1) (X), mxC12 cI cL cZ cX cG ad (1) (X), mxC13 cI cL cZ cX cG ad (1) (X), mxC14 cI cL cZ cX cG ad (1) (X), mxC15 cI cL cZ cX cG ad (1) (X), mxC16 cI cL cZ cX cG ad (1) (X), mxC17 cI cL cZ cX cG ad (1) (X), mxC18 cI cL cZ cX cG ad (1) (X), mxC19 cI cL cZ cX cG ad (1) (X), mxC20 cI cL cZ cX cG ad (1) (X), mxC21 cI cL cZ cX cG ad (1) (X), mxC22 cI cL cZ cX cG ad (1) (X), mxC23 cI cL cZ cX cG ad (1) (X), mxC24 cI cL cZ cX cG ad (1) (X)])
      refine g_ifb_eq (pc := 31) hG (tgt := 45) (by decide) dX11_at_31 (fun h31 => ?_) (fun h31 => ?_)
      · refine g_iconst (pc := 45) hG dX11_at_45 ?_
        exact g_ireturn (pc := 46) hG ⟨sI (by unfold mAt; first | rw [if_neg (of_decide_eq_false h5)] | rw [if_pos hd5, if_pos h14] | rw [if_pos hd5, if_neg h14, if_neg (of_decide_eq_false h31)] | rw [if_pos hd5, if_neg h14, if_pos hd31]), rfl⟩ dX11_at_46
      · have hd31 := of_decide_eq_true h31
        refine g_aload_n (pc := 34) hG 0 rfl dX11_at_34 ?_
        refine g_get (pc := 35) hG fl11_15 0 rfl rfl dX11_at_35 ?_
        refine g_iload_n (pc := 38) hG 1 rfl dX11_at_38 ?_
        refine g_aaload (pc := 39) hG 2 3 ((r).toNat) rfl rfl (by omega) (by omega) (by decide) dX11_at_39 ?_
        refine g_iload_n (pc := 40) hG 2 rfl dX11_at_40 ?_
        refine g_iaload (pc := 41) hG (3 + ((r).toNat)) ((c).toNat) (rw_at [mdoC0 cI cL cZ ad (0) (((m : Nat) : Int)) (((n : Nat) : Int)) (yy) (k) (dn) (on) (tw) (bt) (bl) (bd) (na) (dt) (tl) (ul) (th) (uh) (hd) (cn), i24C0 cI cL cZ ad (26) (Y), mxC0 cI cL cZ cX cG ad (1) (X)] _ 24 (fun i9 => (ad (2 + i9), aI cI 3 (X i9))) (by omega)) rfl (by omega) (by omega) (by decide) dX11_at_41 ?_
        refine g_goto (pc := 42) hG (tgt := 46) (by decide) dX11_at_42 ?_
        exact g_ireturn (pc := 46) hG ⟨sI (by unfold mAt; first | rw [if_neg (of_decide_eq_false h5)] | rw [if_pos hd5, if_pos h14] | rw [if_pos hd5, if_neg h14, if_neg (of_decide_eq_false h31)] | rw [if_pos hd5, if_neg h14, if_pos hd31]), rfl⟩ dX11_at_46
    · refine g_aload_n (pc := 17) hG 0 rfl dX11_at_17 ?_
      refine g_get (pc := 18) hG fl11_18 0 rfl rfl dX11_at_18 ?_
      refine g_iload_n (pc := 21) hG 1 rfl dX11_at_21 ?_
      refine g_iaload (pc := 22) hG 1 ((r).toNat) rfl rfl (by omega) (by omega) (by decide) dX11_at_22 ?_
      refine g_goto (pc := 23) hG (tgt := 46) (by decide) dX11_at_23 ?_
      exact g_ireturn (pc := 46) hG ⟨sI (by unfold mAt; first | rw [if_neg (of_decide_eq_false h5)] | rw [if_pos hd5, if_pos h14] | rw [if_pos hd5, if_neg h14, if_neg (of_decide_eq_false h31)] | rw [if_pos hd5, if_neg h14, if_pos hd31]), rfl⟩ dX11_at_46
  · refine g_iconst (pc := 8) hG dX11_at_8 ?_
    refine g_goto (pc := 9) hG (tgt := 46) (by decide) dX11_at_9 ?_
    exact g_ireturn (pc := 46) hG ⟨sI (by unfold mAt; first | rw [if_neg (of_decide_eq_false h5)] | rw [if_pos hd5, if_pos h14] | rw [if_pos hd5, if_neg h14, if_neg (of_decide_eq_false h31)] | rw [if_pos hd5, if_neg h14, if_pos hd31]), rfl⟩ dX11_at_46
set_option maxHeartbeats 4000000 in
set_option maxRecDepth 100000 in
theorem c_X11_there {l : Launch} {D : va_G} {cI cL cZ cX cG : ClassId} (ad : Nat → Nat) (m : Nat) (n : Nat) (yy : Int) (k : Int) (dn : Int) (on : Int) (tw : Int) (bt : Int) (bl : Int) (bd : Int) (na : Int) (dt : Int) (tl : Int) (ul : Int) (th : Int) (uh : Int) (hd : Bool) (cn : Int) (K : Nat → Bool) (r : Int) (hn : n ≤ 24) (hr : InI r) : Ct l D (gT cI cL cZ cX cG) yX11_there cX11_there 2 (some .boolean) ({ frames := 1, cells := 0, slots := 0, locals := 21 }) [.ref (ad (0)), iV (r)] ([mdoC0 cI cL cZ ad (0) (((m : Nat) : Int)) (((n : Nat) : Int)) (yy) (k) (dn) (on) (tw) (bt) (bl) (bd) (na) (dt) (tl) (ul) (th) (uh) (hd) (cn), z24C0 cI cL cZ ad (27) (K)]) (fun vv_ ww_ => vv_ = some (bV (decide (0 ≤ r ∧ r < ((n : Nat) : Int)) && K (r.toNat))) ∧ ww_ = [mdoC0 cI cL cZ ad (0) (((m : Nat) : Int)) (((n : Nat) : Int)) (yy) (k) (dn) (on) (tw) (bt) (bl) (bd) (na) (dt) (tl) (ul) (th) (uh) (hd) (cn), z24C0 cI cL cZ ad (27) (K)]) := by
  refine Ct.of (by decide) (Nat.le_of_ble_eq_true rfl) (fun G hG => ?_)
  show G 0 [(0, .ref (ad (0))), (1, iV (r))] [] ([mdoC0 cI cL cZ ad (0) (((m : Nat) : Int)) (((n : Nat) : Int)) (yy) (k) (dn) (on) (tw) (bt) (bl) (bd) (na) (dt) (tl) (ul) (th) (uh) (hd) (cn), z24C0 cI cL cZ ad (27) (K)])
  refine g_aload_n (pc := 0) hG 0 rfl dX11_there_0 ?_
  refine g_iload_n (pc := 1) hG 1 rfl dX11_there_1 ?_
  refine g_callV (pc := 2) hG (As := [iV (r)]) (rest := []) (c_X11_isRow (l := l) (D := D) (cI := cI) (cL := cL) (cZ := cZ) (cX := cX) (cG := cG) ad m n yy k dn on tw bt bl bd na dt tl ul th uh hd cn r (by omega) (by omega)) (Sp.mg [true] rfl) cv11_154 ⟨rfl, rfl⟩ ⟨Nat.le_of_ble_eq_true rfl, Nat.le_of_ble_eq_true rfl⟩ 0 rfl rfl rfl rfl (Nat.le_of_ble_eq_true rfl) dX11_there_2 (fun v w1 h => ?_)
  obtain ⟨rfl, rfl⟩ := h
  show G 5 [(0, .ref (ad (0))), (1, iV (r))] [bV (decide (0 ≤ r ∧ r < ((n : Nat) : Int)))] ([mdoC0 cI cL cZ ad (0) (((m : Nat) : Int)) (((n : Nat) : Int)) (yy) (k) (dn) (on) (tw) (bt) (bl) (bd) (na) (dt) (tl) (ul) (th) (uh) (hd) (cn), z24C0 cI cL cZ ad (27) (K)])
  have J22 : ∀ (j22s0 : Bool), ((((decide (0 ≤ r ∧ r < ((n : Nat) : Int))) = false) ∧ j22s0 = false) ∨ (((decide (0 ≤ r ∧ r < ((n : Nat) : Int))) = true) ∧ ((K ((r).toNat)) = false) ∧ j22s0 = false) ∨ (((decide (0 ≤ r ∧ r < ((n : Nat) : Int))) = true) ∧ ((K ((r).toNat)) = true) ∧ j22s0 = true)) → G 22 [(0, .ref (ad (0))), (1, iV (r))] [bV (j22s0)] ([mdoC0 cI cL cZ ad (0) (((m : Nat) : Int)) (((n : Nat) : Int)) (yy) (k) (dn) (on) (tw) (bt) (bl) (bd) (na) (dt) (tl) (ul) (th) (uh) (hd) (cn), z24C0 cI cL cZ ad (27) (K)]) := by
    intro j22s0 k22
    exact g_zreturn (pc := 22) hG (j22s0) rfl ⟨sB (by grind), rfl⟩ dX11_there_22
  refine g_ifb_eq (pc := 5) hG (tgt := 21) (by decide) dX11_there_5 (fun h5 => ?_) (fun h5 => ?_)
  · refine g_iconst (pc := 21) hG dX11_there_21 ?_
    exact g_lv (pc := 22) hG [0, 1] rfl (J22 false (Or.inl ⟨h5, rfl⟩))
  · have hd5 := of_decide_eq_true h5
    refine g_aload_n (pc := 8) hG 0 rfl dX11_there_8 ?_
    refine g_get (pc := 9) hG fl11_22 0 rfl rfl dX11_there_9 ?_
    refine g_iload_n (pc := 12) hG 1 rfl dX11_there_12 ?_
    refine g_baload (pc := 13) hG 1 ((r).toNat) rfl rfl (by omega) (by omega) (by decide) dX11_there_13 ?_
    refine g_ifb_eq (pc := 14) hG (tgt := 21) (by decide) dX11_there_14 (fun h14 => ?_) (fun h14 => ?_)
    · refine g_iconst (pc := 21) hG dX11_there_21 ?_
      exact g_lv (pc := 22) hG [0, 1] rfl (J22 false (Or.inr (Or.inl ⟨h5, h14, rfl⟩)))
    · refine g_iconst (pc := 17) hG dX11_there_17 ?_
      refine g_goto (pc := 18) hG (tgt := 22) (by decide) dX11_there_18 ?_
      exact g_lv (pc := 22) hG [0, 1] rfl (J22 true (Or.inr (Or.inr (⟨h5, h14, rfl⟩))))
set_option maxHeartbeats 4000000 in
set_option maxRecDepth 100000 in
theorem c_X11_manyThere {l : Launch} {D : va_G} {cI cL cZ cX cG : ClassId} (ad : Nat → Nat) (m : Nat) (n : Nat) (yy : Int) (k : Int) (dn : Int) (on : Int) (tw : Int) (bt : Int) (bl : Int) (bd : Int) (na : Int) (dt : Int) (tl : Int) (ul : Int) (th : Int) (uh : Int) (hd : Bool) (cn : Int) (K : Nat → Bool) (hn : n ≤ 24) : Ct l D (gT cI cL cZ cX cG) yX11_manyThere cX11_manyThere 3 (some .int) ({ frames := 0, cells := 0, slots := 0, locals := 0 }) [.ref (ad (0))] ([mdoC0 cI cL cZ ad (0) (((m : Nat) : Int)) (((n : Nat) : Int)) (yy) (k) (dn) (on) (tw) (bt) (bl) (bd) (na) (dt) (tl) (ul) (th) (uh) (hd) (cn), z24C0 cI cL cZ ad (27) (K)]) (fun vv_ ww_ => vv_ = some (iV (((cntK K n : Nat) : Int))) ∧ ww_ = [mdoC0 cI cL cZ ad (0) (((m : Nat) : Int)) (((n : Nat) : Int)) (yy) (k) (dn) (on) (tw) (bt) (bl) (bd) (na) (dt) (tl) (ul) (th) (uh) (hd) (cn), z24C0 cI cL cZ ad (27) (K)]) := by
  refine Ct.of (by decide) (Nat.le_of_ble_eq_true rfl) (fun G hG => ?_)
  show G 0 [(0, .ref (ad (0)))] [] ([mdoC0 cI cL cZ ad (0) (((m : Nat) : Int)) (((n : Nat) : Int)) (yy) (k) (dn) (on) (tw) (bt) (bl) (bd) (na) (dt) (tl) (ul) (th) (uh) (hd) (cn), z24C0 cI cL cZ ad (27) (K)])
  refine g_iconst (pc := 0) hG dX11_manyThere_0 ?_
  refine g_istore_n (pc := 1) hG (by decide) (lv' := [(1, iV (0)), (0, .ref (ad (0)))]) rfl dX11_manyThere_1 ?_
  refine g_iconst (pc := 2) hG dX11_manyThere_2 ?_
  refine g_istore_n (pc := 3) hG (by decide) (lv' := [(2, iV (0)), (1, iV (0)), (0, .ref (ad (0)))]) rfl dX11_manyThere_3 ?_
  have L4 : ∀ (fu4 : Nat) (i : Nat), n - i < fu4 → (i ≤ n) → G 4 [(0, .ref (ad (0))), (1, iV (((cntK K i : Nat) : Int))), (2, iV (((i : Nat) : Int)))] [] ([mdoC0 cI cL cZ ad (0) (((m : Nat) : Int)) (((n : Nat) : Int)) (yy) (k) (dn) (on) (tw) (bt) (bl) (bd) (na) (dt) (tl) (ul) (th) (uh) (hd) (cn), z24C0 cI cL cZ ad (27) (K)]) := by
    intro fu4
    induction fu4 with
    | zero => intro i hm; exact absurd hm (Nat.not_lt_zero _)
    | succ fu4 ih4 =>
      intro i hm4 hi
      have hci := cnt_le K i
      refine g_iload_n (pc := 4) hG 2 rfl dX11_manyThere_4 ?_
      refine g_aload_n (pc := 5) hG 0 rfl dX11_manyThere_5 ?_
      refine g_get (pc := 6) hG fl11_94 0 rfl rfl dX11_manyThere_6 ?_
      refine g_icmp_ge (pc := 9) hG (by omega) (by omega) (tgt := 35) (by decide) dX11_manyThere_9 (fun h9 => ?_) (fun h9 => ?_)
      · refine g_iload_n (pc := 35) hG 1 rfl dX11_manyThere_35 ?_
        exact g_ireturn (pc := 36) hG ⟨by rw [show i = n by omega], rfl⟩ dX11_manyThere_36
      · refine g_iload_n (pc := 12) hG 1 rfl dX11_manyThere_12 ?_
        refine g_aload_n (pc := 13) hG 0 rfl dX11_manyThere_13 ?_
        refine g_get (pc := 14) hG fl11_22 0 rfl rfl dX11_manyThere_14 ?_
        refine g_iload_n (pc := 17) hG 2 rfl dX11_manyThere_17 ?_
        refine g_baload (pc := 18) hG 1 i rfl rfl (by omega) (by omega) (by decide) dX11_manyThere_18 ?_
        have J27 : ∀ (j27s0 : Nat), ((((K i) = false) ∧ j27s0 = 0) ∨ (((K i) = true) ∧ j27s0 = 1)) → G 27 [(0, .ref (ad (0))), (1, iV (((cntK K i : Nat) : Int))), (2, iV (((i : Nat) : Int)))] [iV (((j27s0 : Nat) : Int)), iV (((cntK K i : Nat) : Int))] ([mdoC0 cI cL cZ ad (0) (((m : Nat) : Int)) (((n : Nat) : Int)) (yy) (k) (dn) (on) (tw) (bt) (bl) (bd) (na) (dt) (tl) (ul) (th) (uh) (hd) (cn), z24C0 cI cL cZ ad (27) (K)]) := by
          intro j27s0 k27
          refine g_iadd (pc := 27) hG dX11_manyThere_27 ?_
          refine g_eqI (pc := 28) hG (show ((((cntK K i : Nat) : Int)) + (((j27s0 : Nat) : Int))) = ((cntK K (i + 1) : Nat) : Int) by rcases k27 with ⟨h, e⟩ | ⟨h, e⟩; (rw [e, cnt_f h]; simp); (rw [e, cnt_t h]; simp)) ?_
          refine g_istore_n (pc := 28) hG (by decide) (lv' := [(1, iV (((cntK K (i + 1) : Nat) : Int))), (0, .ref (ad (0))), (2, iV (((i : Nat) : Int)))]) rfl dX11_manyThere_28 ?_
          refine g_iinc (pc := 29) hG 2 rfl (by decide) (lv' := [(2, iV ((((i : Nat) : Int)) + 1)), (1, iV (((cntK K (i + 1) : Nat) : Int))), (0, .ref (ad (0)))]) rfl dX11_manyThere_29 ?_
          refine g_goto (pc := 32) hG (tgt := 4) (by decide) dX11_manyThere_32 ?_
          exact g_lv (pc := 4) hG [2, 1, 0] rfl (ih4 (i + 1) (by omega) (by omega))
        refine g_ifb_eq (pc := 19) hG (tgt := 26) (by decide) dX11_manyThere_19 (fun h19 => ?_) (fun h19 => ?_)
        · refine g_iconst (pc := 26) hG dX11_manyThere_26 ?_
          exact g_lv (pc := 27) hG [0, 1, 2] rfl (J27 0 (Or.inl ⟨h19, rfl⟩))
        · refine g_iconst (pc := 22) hG dX11_manyThere_22 ?_
          refine g_goto (pc := 23) hG (tgt := 27) (by decide) dX11_manyThere_23 ?_
          exact g_lv (pc := 27) hG [0, 1, 2] rfl (J27 1 (Or.inr (⟨h19, rfl⟩)))
  exact g_lv (pc := 4) hG [2, 1, 0] rfl (L4 _ 0 (Nat.lt_succ_self _) (Nat.zero_le _))
set_option maxHeartbeats 4000000 in
set_option maxRecDepth 100000 in
theorem c_X11_count {l : Launch} {D : va_G} {cI cL cZ cX cG : ClassId} (ad : Nat → Nat) (m : Nat) (n : Nat) (yy : Int) (k : Int) (dn : Int) (on : Int) (tw : Int) (bt : Int) (bl : Int) (bd : Int) (na : Int) (dt : Int) (tl : Int) (ul : Int) (th : Int) (uh : Int) (hd : Bool) (cn : Int) (K : Nat → Bool) (wh : Int) (hn : n ≤ 24) (hw : InI wh) : Ct l D (gT cI cL cZ cX cG) yX11_count cX11_count 2 (some .int) ({ frames := 1, cells := 0, slots := 0, locals := 22 }) [.ref (ad (0)), iV (wh)] ([mdoC0 cI cL cZ ad (0) (((m : Nat) : Int)) (((n : Nat) : Int)) (yy) (k) (dn) (on) (tw) (bt) (bl) (bd) (na) (dt) (tl) (ul) (th) (uh) (hd) (cn), z24C0 cI cL cZ ad (27) (K)]) (fun vv_ ww_ => ∃ (v : Int), (v = if wh = 0 then ((m : Nat) : Int) else if wh = 1 then ((n : Nat) : Int) else if wh = 2 then ((cntK K n : Nat) : Int) else -1) ∧ vv_ = some (iV (v)) ∧ ww_ = [mdoC0 cI cL cZ ad (0) (((m : Nat) : Int)) (((n : Nat) : Int)) (yy) (k) (dn) (on) (tw) (bt) (bl) (bd) (na) (dt) (tl) (ul) (th) (uh) (hd) (cn), z24C0 cI cL cZ ad (27) (K)]) := by
  refine Ct.of (by decide) (Nat.le_of_ble_eq_true rfl) (fun G hG => ?_)
  show G 0 [(0, .ref (ad (0))), (1, iV (wh))] [] ([mdoC0 cI cL cZ ad (0) (((m : Nat) : Int)) (((n : Nat) : Int)) (yy) (k) (dn) (on) (tw) (bt) (bl) (bd) (na) (dt) (tl) (ul) (th) (uh) (hd) (cn), z24C0 cI cL cZ ad (27) (K)])
  refine g_iload_n (pc := 0) hG 1 rfl dX11_count_0 ?_
  refine g_if_ne (pc := 1) hG (by omega) (tgt := 11) (by decide) dX11_count_1 (fun h1 => ?_) (fun h1 => ?_)
  · refine g_iload_n (pc := 11) hG 1 rfl dX11_count_11 ?_
    refine g_iconst (pc := 12) hG dX11_count_12 ?_
    refine g_icmp_ne (pc := 13) hG (by omega) (by omega) (tgt := 23) (by decide) dX11_count_13 (fun h13 => ?_) (fun h13 => ?_)
    · refine g_iload_n (pc := 23) hG 1 rfl dX11_count_23 ?_
      refine g_iconst (pc := 24) hG dX11_count_24 ?_
      refine g_icmp_ne (pc := 25) hG (by omega) (by omega) (tgt := 35) (by decide) dX11_count_25 (fun h25 => ?_) (fun h25 => ?_)
      · refine g_iconst (pc := 35) hG dX11_count_35 ?_
        exact g_ireturn (pc := 36) hG ⟨-1, by first | rw [if_pos h1] | rw [if_neg h1, if_pos h13] | rw [if_neg h1, if_neg h13, if_pos h25] | rw [if_neg h1, if_neg h13, if_neg h25], rfl, rfl⟩ dX11_count_36
      · refine g_aload_n (pc := 28) hG 0 rfl dX11_count_28 ?_
        refine g_callV (pc := 29) hG (As := []) (rest := []) (c_X11_manyThere (l := l) (D := D) (cI := cI) (cL := cL) (cZ := cZ) (cX := cX) (cG := cG) ad m n yy k dn on tw bt bl bd na dt tl ul th uh hd cn K (hn)) (Sp.whole _) cv11_189 ⟨rfl, rfl⟩ ⟨Nat.le_of_ble_eq_true rfl, Nat.le_of_ble_eq_true rfl⟩ 0 rfl rfl rfl rfl (Nat.le_of_ble_eq_true rfl) dX11_count_29 (fun v w1 h => ?_)
        obtain ⟨rfl, rfl⟩ := h
        show G 32 [(0, .ref (ad (0))), (1, iV (wh))] [iV (((cntK K n : Nat) : Int))] ([mdoC0 cI cL cZ ad (0) (((m : Nat) : Int)) (((n : Nat) : Int)) (yy) (k) (dn) (on) (tw) (bt) (bl) (bd) (na) (dt) (tl) (ul) (th) (uh) (hd) (cn), z24C0 cI cL cZ ad (27) (K)])
        refine g_goto (pc := 32) hG (tgt := 36) (by decide) dX11_count_32 ?_
        exact g_ireturn (pc := 36) hG ⟨((cntK K n : Nat) : Int), by first | rw [if_pos h1] | rw [if_neg h1, if_pos h13] | rw [if_neg h1, if_neg h13, if_pos h25] | rw [if_neg h1, if_neg h13, if_neg h25], rfl, rfl⟩ dX11_count_36
    · refine g_aload_n (pc := 16) hG 0 rfl dX11_count_16 ?_
      refine g_get (pc := 17) hG fl11_94 0 rfl rfl dX11_count_17 ?_
      refine g_goto (pc := 20) hG (tgt := 36) (by decide) dX11_count_20 ?_
      exact g_ireturn (pc := 36) hG ⟨((n : Nat) : Int), by first | rw [if_pos h1] | rw [if_neg h1, if_pos h13] | rw [if_neg h1, if_neg h13, if_pos h25] | rw [if_neg h1, if_neg h13, if_neg h25], rfl, rfl⟩ dX11_count_36
  · refine g_aload_n (pc := 4) hG 0 rfl dX11_count_4 ?_
    refine g_get (pc := 5) hG fl11_7 0 rfl rfl dX11_count_5 ?_
    refine g_goto (pc := 8) hG (tgt := 36) (by decide) dX11_count_8 ?_
    exact g_ireturn (pc := 36) hG ⟨((m : Nat) : Int), by first | rw [if_pos h1] | rw [if_neg h1, if_pos h13] | rw [if_neg h1, if_neg h13, if_pos h25] | rw [if_neg h1, if_neg h13, if_neg h25], rfl, rfl⟩ dX11_count_36
set_option maxHeartbeats 4000000 in
set_option maxRecDepth 100000 in
theorem c_X11_behind {l : Launch} {D : va_G} {cI cL cZ cX cG : ClassId} (ad : Nat → Nat) (m : Nat) (n : Nat) (yy : Int) (k : Int) (dn : Int) (on : Int) (tw : Int) (bt : Int) (bl : Int) (bd : Int) (na : Int) (dt : Int) (tl : Int) (ul : Int) (th : Int) (uh : Int) (hd : Bool) (cn : Int) (K : Nat → Bool) (r : Nat) (j : Nat) (hn : n ≤ 24) (hr : r < n ∧ K r = true) (hj : j = cntK K r + 1) : Ct l D (gT cI cL cZ cX cG) yX11_behind cX11_behind 3 (some .int) ({ frames := 0, cells := 0, slots := 0, locals := 0 }) [.ref (ad (0)), iV (((r : Nat) : Int))] ([mdoC0 cI cL cZ ad (0) (((m : Nat) : Int)) (((n : Nat) : Int)) (yy) (k) (dn) (on) (tw) (bt) (bl) (bd) (na) (dt) (tl) (ul) (th) (uh) (hd) (cn), z24C0 cI cL cZ ad (27) (K)]) (fun vv_ ww_ => vv_ = some (iV (((nx K n j : Nat) : Int))) ∧ ww_ = [mdoC0 cI cL cZ ad (0) (((m : Nat) : Int)) (((n : Nat) : Int)) (yy) (k) (dn) (on) (tw) (bt) (bl) (bd) (na) (dt) (tl) (ul) (th) (uh) (hd) (cn), z24C0 cI cL cZ ad (27) (K)]) := by
  refine Ct.of (by decide) (Nat.le_of_ble_eq_true rfl) (fun G hG => ?_)
  show G 0 [(0, .ref (ad (0))), (1, iV (((r : Nat) : Int)))] [] ([mdoC0 cI cL cZ ad (0) (((m : Nat) : Int)) (((n : Nat) : Int)) (yy) (k) (dn) (on) (tw) (bt) (bl) (bd) (na) (dt) (tl) (ul) (th) (uh) (hd) (cn), z24C0 cI cL cZ ad (27) (K)])
  refine g_iload_n (pc := 0) hG 1 rfl dX11_behind_0 ?_
  refine g_iconst (pc := 1) hG dX11_behind_1 ?_
  refine g_iadd (pc := 2) hG dX11_behind_2 ?_
  refine g_istore_n (pc := 3) hG (by decide) (lv' := [(2, iV (((r + 1 : Nat) : Int))), (0, .ref (ad (0))), (1, iV (((r : Nat) : Int)))]) rfl dX11_behind_3 ?_
  have L4 : ∀ (fu4 : Nat) (i : Nat), n - i < fu4 → (i ≤ n) → (cntK K i = j) → G 4 [(0, .ref (ad (0))), (2, iV (((i : Nat) : Int)))] [] ([mdoC0 cI cL cZ ad (0) (((m : Nat) : Int)) (((n : Nat) : Int)) (yy) (k) (dn) (on) (tw) (bt) (bl) (bd) (na) (dt) (tl) (ul) (th) (uh) (hd) (cn), z24C0 cI cL cZ ad (27) (K)]) := by
    intro fu4
    induction fu4 with
    | zero => intro i hm; exact absurd hm (Nat.not_lt_zero _)
    | succ fu4 ih4 =>
      intro i hm4 hi hc
      refine g_iload_n (pc := 4) hG 1 rfl dX11_behind_4 ?_
      refine g_aload_n (pc := 5) hG 0 rfl dX11_behind_5 ?_
      refine g_get (pc := 6) hG fl11_94 0 rfl rfl dX11_behind_6 ?_
      have J27 : ∀ (_ : Unit), (((((n : Nat) : Int) ≤ ((i : Nat) : Int))) ∨ ((¬ ((n : Nat) : Int) ≤ ((i : Nat) : Int)) ∧ ((K i) = true))) → G 27 [(0, .ref (ad (0))), (2, iV (((i : Nat) : Int)))] [] ([mdoC0 cI cL cZ ad (0) (((m : Nat) : Int)) (((n : Nat) : Int)) (yy) (k) (dn) (on) (tw) (bt) (bl) (bd) (na) (dt) (tl) (ul) (th) (uh) (hd) (cn), z24C0 cI cL cZ ad (27) (K)]) := by
        intro _ k27
        refine g_iload_n (pc := 27) hG 1 rfl dX11_behind_27 ?_
        exact g_ireturn (pc := 28) hG ⟨by rw [nx_out hi hc (by rcases k27 with h | h; exact Or.inl (by omega); exact Or.inr ⟨by omega, h.2⟩)], rfl⟩ dX11_behind_28
      refine g_icmp_ge (pc := 9) hG (by omega) (by omega) (tgt := 27) (by decide) dX11_behind_9 (fun h9 => ?_) (fun h9 => ?_)
      · exact g_lv (pc := 27) hG [0, 1] rfl (J27 () (Or.inl (h9)))
      · refine g_aload_n (pc := 12) hG 0 rfl dX11_behind_12 ?_
        refine g_get (pc := 13) hG fl11_22 0 rfl rfl dX11_behind_13 ?_
        refine g_iload_n (pc := 16) hG 1 rfl dX11_behind_16 ?_
        refine g_baload (pc := 17) hG 1 i rfl rfl (by omega) (by omega) (by decide) dX11_behind_17 ?_
        refine g_ifb_ne (pc := 18) hG (tgt := 27) (by decide) dX11_behind_18 (fun h18 => ?_) (fun h18 => ?_)
        · exact g_lv (pc := 27) hG [0, 1] rfl (J27 () (Or.inr (⟨h9, h18⟩)))
        · refine g_iinc (pc := 21) hG 1 rfl (by decide) (lv' := [(2, iV ((((i : Nat) : Int)) + 1)), (0, .ref (ad (0)))]) rfl dX11_behind_21 ?_
          refine g_goto (pc := 24) hG (tgt := 4) (by decide) dX11_behind_24 ?_
          exact g_lv (pc := 4) hG [1, 0] rfl (ih4 (i + 1) (by omega) (by omega) (by rw [cnt_f (by assumption), hc]))
  exact g_lv (pc := 4) hG [1, 0] rfl (L4 _ (r + 1) (Nat.lt_succ_self _) (by omega) (by rw [cnt_t hr.2, hj]))
set_option maxHeartbeats 4000000 in
set_option maxRecDepth 100000 in
theorem c_X11_begins {l : Launch} {D : va_G} {cI cL cZ cX cG : ClassId} (ad : Nat → Nat) (m : Nat) (n : Nat) (yy : Int) (k : Int) (dn : Int) (on : Int) (tw : Int) (bt : Int) (bl : Int) (bd : Int) (na : Int) (dt : Int) (tl : Int) (ul : Int) (th : Int) (uh : Int) (hd : Bool) (cn : Int) (K : Nat → Bool) (pi : Nat → Int) (kk : Nat) (hn : n ≤ 24) (hk : kk ≤ 24) : Ct l D (gT cI cL cZ cX cG) yX11_begins cX11_begins 4 (some .boolean) ({ frames := 0, cells := 0, slots := 0, locals := 0 }) [.ref (ad (0)), iV (((kk : Nat) : Int))] ([mdoC0 cI cL cZ ad (0) (((m : Nat) : Int)) (((n : Nat) : Int)) (yy) (k) (dn) (on) (tw) (bt) (bl) (bd) (na) (dt) (tl) (ul) (th) (uh) (hd) (cn), z24C0 cI cL cZ ad (27) (K), i24C0 cI cL cZ ad (43) (pi)]) (fun vv_ ww_ => ∃ (v : Bool), ∃ (q2 : Nat → Int), ((v = true ∧ kk ≤ cntK K n ∧ PkN K n kk q2 (List.range kk)) ∨ (v = false ∧ ¬ kk ≤ cntK K n)) ∧ vv_ = some (bV (v)) ∧ ww_ = [mdoC0 cI cL cZ ad (0) (((m : Nat) : Int)) (((n : Nat) : Int)) (yy) (k) (dn) (on) (tw) (bt) (bl) (bd) (na) (dt) (tl) (ul) (th) (uh) (hd) (cn), z24C0 cI cL cZ ad (27) (K), i24C0 cI cL cZ ad (43) (q2)]) := by
  refine Ct.of (by decide) (Nat.le_of_ble_eq_true rfl) (fun G hG => ?_)
  show G 0 [(0, .ref (ad (0))), (1, iV (((kk : Nat) : Int)))] [] ([mdoC0 cI cL cZ ad (0) (((m : Nat) : Int)) (((n : Nat) : Int)) (yy) (k) (dn) (on) (tw) (bt) (bl) (bd) (na) (dt) (tl) (ul) (th) (uh) (hd) (cn), z24C0 cI cL cZ ad (27) (K), i24C0 cI cL cZ ad (43) (pi)])
  refine g_iconst (pc := 0) hG dX11_begins_0 ?_
  refine g_istore_n (pc := 1) hG (by decide) (lv' := [(2, iV (0)), (0, .ref (ad (0))), (1, iV (((kk : Nat) : Int)))]) rfl dX11_begins_1 ?_
  refine g_iconst (pc := 2) hG dX11_begins_2 ?_
  refine g_istore_n (pc := 3) hG (by decide) (lv' := [(3, iV (0)), (2, iV (0)), (0, .ref (ad (0))), (1, iV (((kk : Nat) : Int)))]) rfl dX11_begins_3 ?_
  have L4 : ∀ (fu4 : Nat) (c2 : Nat) (i : Nat) (p9 : Nat → Int), n - i < fu4 → (i ≤ n) → (c2 ≤ kk ∧ c2 ≤ i) → (c2 = cntK K i ∨ (c2 = kk ∧ kk ≤ cntK K i)) → (∀ j, j < c2 → p9 j = ((nthK K n j : Nat) : Int)) → G 4 [(0, .ref (ad (0))), (1, iV (((kk : Nat) : Int))), (2, iV (((c2 : Nat) : Int))), (3, iV (((i : Nat) : Int)))] [] ([mdoC0 cI cL cZ ad (0) (((m : Nat) : Int)) (((n : Nat) : Int)) (yy) (k) (dn) (on) (tw) (bt) (bl) (bd) (na) (dt) (tl) (ul) (th) (uh) (hd) (cn), z24C0 cI cL cZ ad (27) (K), i24C0 cI cL cZ ad (43) (p9)]) := by
    intro fu4
    induction fu4 with
    | zero => intro c2 i p9 hm; exact absurd hm (Nat.not_lt_zero _)
    | succ fu4 ih4 =>
      intro c2 i p9 hm4 hi hc hcc hp
      refine g_iload_n (pc := 4) hG 3 rfl dX11_begins_4 ?_
      refine g_aload_n (pc := 5) hG 0 rfl dX11_begins_5 ?_
      refine g_get (pc := 6) hG fl11_94 0 rfl rfl dX11_begins_6 ?_
      have J42 : ∀ (_ : Unit), (((((n : Nat) : Int) ≤ ((i : Nat) : Int))) ∨ ((¬ ((n : Nat) : Int) ≤ ((i : Nat) : Int)) ∧ (((kk : Nat) : Int) ≤ ((c2 : Nat) : Int)))) → G 42 [(0, .ref (ad (0))), (1, iV (((kk : Nat) : Int))), (2, iV (((c2 : Nat) : Int))), (3, iV (((i : Nat) : Int)))] [] ([mdoC0 cI cL cZ ad (0) (((m : Nat) : Int)) (((n : Nat) : Int)) (yy) (k) (dn) (on) (tw) (bt) (bl) (bd) (na) (dt) (tl) (ul) (th) (uh) (hd) (cn), z24C0 cI cL cZ ad (27) (K), i24C0 cI cL cZ ad (43) (p9)]) := by
        intro _ k42
        refine g_iload_n (pc := 42) hG 2 rfl dX11_begins_42 ?_
        refine g_iload_n (pc := 43) hG 1 rfl dX11_begins_43 ?_
        refine g_icmp_ne (pc := 44) hG (by omega) (by omega) (tgt := 51) (by decide) dX11_begins_44 (fun h44 => ?_) (fun h44 => ?_)
        · refine g_iconst (pc := 51) hG dX11_begins_51 ?_
          exact g_zreturn (pc := 52) hG (false) rfl ⟨false, p9, by first | exact Or.inl ⟨rfl, beg_yes k42 hi hc hcc (by omega) hp⟩ | exact Or.inr ⟨rfl, beg_no k42 hi hc hcc (by omega)⟩, rfl, rfl⟩ dX11_begins_52
        · refine g_iconst (pc := 47) hG dX11_begins_47 ?_
          refine g_goto (pc := 48) hG (tgt := 52) (by decide) dX11_begins_48 ?_
          exact g_zreturn (pc := 52) hG (true) rfl ⟨true, p9, by first | exact Or.inl ⟨rfl, beg_yes k42 hi hc hcc (by omega) hp⟩ | exact Or.inr ⟨rfl, beg_no k42 hi hc hcc (by omega)⟩, rfl, rfl⟩ dX11_begins_52
      refine g_icmp_ge (pc := 9) hG (by omega) (by omega) (tgt := 42) (by decide) dX11_begins_9 (fun h9 => ?_) (fun h9 => ?_)
      · exact g_lv (pc := 42) hG [0, 1, 2, 3] rfl (J42 () (Or.inl (h9)))
      · refine g_iload_n (pc := 12) hG 2 rfl dX11_begins_12 ?_
        refine g_iload_n (pc := 13) hG 1 rfl dX11_begins_13 ?_
        refine g_icmp_ge (pc := 14) hG (by omega) (by omega) (tgt := 42) (by decide) dX11_begins_14 (fun h14 => ?_) (fun h14 => ?_)
        · exact g_lv (pc := 42) hG [0, 1, 2, 3] rfl (J42 () (Or.inr (⟨h9, h14⟩)))
        · refine g_aload_n (pc := 17) hG 0 rfl dX11_begins_17 ?_
          refine g_get (pc := 18) hG fl11_22 0 rfl rfl dX11_begins_18 ?_
          refine g_iload_n (pc := 21) hG 3 rfl dX11_begins_21 ?_
          refine g_baload (pc := 22) hG 1 i rfl rfl (by omega) (by omega) (by decide) dX11_begins_22 ?_
          refine g_ifb_eq (pc := 23) hG (tgt := 36) (by decide) dX11_begins_23 (fun h23 => ?_) (fun h23 => ?_)
          · refine g_iinc (pc := 36) hG 3 rfl (by decide) (lv' := [(3, iV ((((i : Nat) : Int)) + 1)), (0, .ref (ad (0))), (1, iV (((kk : Nat) : Int))), (2, iV (((c2 : Nat) : Int)))]) rfl dX11_begins_36 ?_
            refine g_goto (pc := 39) hG (tgt := 4) (by decide) dX11_begins_39 ?_
            exact g_lv (pc := 4) hG [1, 2, 3, 0] rfl (ih4 c2 (i + 1) p9 (by omega) (by omega) (by omega) (by rw [cnt_f h23]; exact hcc) (hp))
          · refine g_aload_n (pc := 26) hG 0 rfl dX11_begins_26 ?_
            refine g_get (pc := 27) hG fl11_56 0 rfl rfl dX11_begins_27 ?_
            refine g_iload_n (pc := 30) hG 2 rfl dX11_begins_30 ?_
            refine g_iload_n (pc := 31) hG 3 rfl dX11_begins_31 ?_
            refine g_iastore (pc := 32) hG 2 c2 rfl rfl (by omega) (by omega) (by decide) (ws' := [mdoC0 cI cL cZ ad (0) (((m : Nat) : Int)) (((n : Nat) : Int)) (yy) (k) (dn) (on) (tw) (bt) (bl) (bd) (na) (dt) (tl) (ul) (th) (uh) (hd) (cn), z24C0 cI cL cZ ad (27) (K), i24C0 cI cL cZ ad (43) (upZ p9 c2 (((i : Nat) : Int)))]) rfl dX11_begins_32 ?_
            refine g_iinc (pc := 33) hG 2 rfl (by decide) (lv' := [(2, iV ((((c2 : Nat) : Int)) + 1)), (0, .ref (ad (0))), (1, iV (((kk : Nat) : Int))), (3, iV (((i : Nat) : Int)))]) rfl dX11_begins_33 ?_
            refine g_iinc (pc := 36) hG 3 rfl (by decide) (lv' := [(3, iV ((((i : Nat) : Int)) + 1)), (2, iV ((((c2 : Nat) : Int)) + 1)), (0, .ref (ad (0))), (1, iV (((kk : Nat) : Int)))]) rfl dX11_begins_36 ?_
            refine g_goto (pc := 39) hG (tgt := 4) (by decide) dX11_begins_39 ?_
            exact g_lv (pc := 4) hG [2, 3, 1, 0] rfl (ih4 (c2 + 1) (i + 1) (upZ p9 c2 (((i : Nat) : Int))) (by omega) (by omega) (by omega) (Or.inl (by rw [cnt_t h23]; omega)) (fill_step (g := fun j => ((nthK K n j : Nat) : Int)) hp (by rw [show c2 = cntK K i by omega, nth_cnt K (by omega) h23])))
  exact g_lv (pc := 4) hG [2, 3, 1, 0] rfl (L4 _ 0 0 pi (Nat.lt_succ_self _) (Nat.zero_le _) (by omega) (Or.inl rfl) (fun j h => absurd h (Nat.not_lt_zero _)))
set_option maxHeartbeats 4000000 in
set_option maxRecDepth 100000 in
theorem c_X11_next {l : Launch} {D : va_G} {cI cL cZ cX cG : ClassId} (ad : Nat → Nat) (m : Nat) (n : Nat) (yy : Int) (k : Int) (dn : Int) (on : Int) (tw : Int) (bt : Int) (bl : Int) (bd : Int) (na : Int) (dt : Int) (tl : Int) (ul : Int) (th : Int) (uh : Int) (hd : Bool) (cn : Int) (K : Nat → Bool) (pi : Nat → Int) (pj : Nat → Int) (kk : Nat) (pl : List Nat) (hn : n ≤ 24) (hk : kk ≤ 24) (hp : PkN K n kk pi pl) : Ct l D (gT cI cL cZ cX cG) yX11_next cX11_next 6 (some .boolean) ({ frames := 1, cells := 0, slots := 0, locals := 22 }) [.ref (ad (0)), iV (((kk : Nat) : Int))] ([mdoC0 cI cL cZ ad (0) (((m : Nat) : Int)) (((n : Nat) : Int)) (yy) (k) (dn) (on) (tw) (bt) (bl) (bd) (na) (dt) (tl) (ul) (th) (uh) (hd) (cn), z24C0 cI cL cZ ad (27) (K), i24C0 cI cL cZ ad (43) (pi), i24C0 cI cL cZ ad (44) (pj)]) (fun vv_ ww_ => ∃ (v : Bool), ∃ (q2 : Nat → Int), ∃ (q3 : Nat → Int), (NextR K n kk pl v q2) ∧ vv_ = some (bV (v)) ∧ ww_ = [mdoC0 cI cL cZ ad (0) (((m : Nat) : Int)) (((n : Nat) : Int)) (yy) (k) (dn) (on) (tw) (bt) (bl) (bd) (na) (dt) (tl) (ul) (th) (uh) (hd) (cn), z24C0 cI cL cZ ad (27) (K), i24C0 cI cL cZ ad (43) (q2), i24C0 cI cL cZ ad (44) (q3)]) := by
  refine Ct.of (by decide) (Nat.le_of_ble_eq_true rfl) (fun G hG => ?_)
  show G 0 [(0, .ref (ad (0))), (1, iV (((kk : Nat) : Int)))] [] ([mdoC0 cI cL cZ ad (0) (((m : Nat) : Int)) (((n : Nat) : Int)) (yy) (k) (dn) (on) (tw) (bt) (bl) (bd) (na) (dt) (tl) (ul) (th) (uh) (hd) (cn), z24C0 cI cL cZ ad (27) (K), i24C0 cI cL cZ ad (43) (pi), i24C0 cI cL cZ ad (44) (pj)])
  refine g_iload_n (pc := 0) hG 1 rfl dX11_next_0 ?_
  refine g_iconst (pc := 1) hG dX11_next_1 ?_
  refine g_isub (pc := 2) hG dX11_next_2 ?_
  refine g_nmI (pc := 3) hG (fun x3 ex3 => ?_)
  refine g_istore_n (pc := 3) hG (by decide) (lv' := [(2, iV (x3)), (0, .ref (ad (0))), (1, iV (((kk : Nat) : Int)))]) rfl dX11_next_3 ?_
  have L4 : ∀ (fu4 : Nat) (j : Int) (pk9 : Nat → Int), (j + 1).toNat < fu4 → (-1 ≤ j ∧ j < kk) → (∀ q : Nat, j < q → q < kk → ¬ pl.getD q 0 + (kk - q) < cntK K n) → G 4 [(0, .ref (ad (0))), (1, iV (((kk : Nat) : Int))), (2, iV (j))] [] ([mdoC0 cI cL cZ ad (0) (((m : Nat) : Int)) (((n : Nat) : Int)) (yy) (k) (dn) (on) (tw) (bt) (bl) (bd) (na) (dt) (tl) (ul) (th) (uh) (hd) (cn), z24C0 cI cL cZ ad (27) (K), i24C0 cI cL cZ ad (43) (pi), i24C0 cI cL cZ ad (44) (pk9)]) := by
    intro fu4
    induction fu4 with
    | zero => intro j pk9 hm; exact absurd hm (Nat.not_lt_zero _)
    | succ fu4 ih4 =>
      intro j pk9 hm4 hj hno
      refine g_iload_n (pc := 4) hG 2 rfl dX11_next_4 ?_
      refine g_if_lt (pc := 5) hG (by omega) (tgt := 99) (by decide) dX11_next_5 (fun h5 => ?_) (fun h5 => ?_)
      · refine g_iconst (pc := 99) hG dX11_next_99 ?_
        exact g_zreturn (pc := 100) hG (false) rfl ⟨false, pi, pk9, NextR.no hp (fun q8 a b => hno q8 (by omega) b), rfl, rfl⟩ dX11_next_100
      · refine g_aload_n (pc := 8) hG 0 rfl dX11_next_8 ?_
        refine g_aload_n (pc := 9) hG 0 rfl dX11_next_9 ?_
        refine g_get (pc := 10) hG fl11_56 0 rfl rfl dX11_next_10 ?_
        refine g_iload_n (pc := 13) hG 2 rfl dX11_next_13 ?_
        have hlt := hp.lt (show j.toNat < kk by omega)
        have hno9 := nth_ok hlt
        refine g_iaload (pc := 14) hG 2 ((j).toNat) rfl rfl (by omega) (by omega) (by decide) dX11_next_14 ?_
        refine g_eqI (pc := 15) hG (show (pi ((j).toNat)) = ((nthK K n (pl.getD j.toNat 0) : Nat) : Int) by exact hp.2.1 j.toNat (by omega)) ?_
        refine g_callV (pc := 15) hG (As := [iV (((nthK K n (pl.getD j.toNat 0) : Nat) : Int))]) (rest := []) (c_X11_behind (l := l) (D := D) (cI := cI) (cL := cL) (cZ := cZ) (cX := cX) (cG := cG) ad m n yy k dn on tw bt bl bd na dt tl ul th uh hd cn K (nthK K n (pl.getD j.toNat 0)) (pl.getD j.toNat 0 + 1 + (j.toNat - j.toNat)) (hn) (⟨hno9.1, hno9.2.1⟩) (by rw [hno9.2.2]; omega)) (Sp.mg [true, true] rfl) cv11_186 ⟨rfl, rfl⟩ ⟨Nat.le_of_ble_eq_true rfl, Nat.le_of_ble_eq_true rfl⟩ 0 rfl rfl rfl rfl (Nat.le_of_ble_eq_true rfl) dX11_next_15 (fun v w1 h => ?_)
        obtain ⟨rfl, rfl⟩ := h
        show G 18 [(0, .ref (ad (0))), (1, iV (((kk : Nat) : Int))), (2, iV (j))] [iV (((nx K n (pl.getD j.toNat 0 + 1 + (j.toNat - j.toNat)) : Nat) : Int))] ([mdoC0 cI cL cZ ad (0) (((m : Nat) : Int)) (((n : Nat) : Int)) (yy) (k) (dn) (on) (tw) (bt) (bl) (bd) (na) (dt) (tl) (ul) (th) (uh) (hd) (cn), z24C0 cI cL cZ ad (27) (K), i24C0 cI cL cZ ad (43) (pi), i24C0 cI cL cZ ad (44) (pk9)])
        refine g_istore_n (pc := 18) hG (by decide) (lv' := [(3, iV (((nx K n (pl.getD j.toNat 0 + 1 + (j.toNat - j.toNat)) : Nat) : Int))), (0, .ref (ad (0))), (1, iV (((kk : Nat) : Int))), (2, iV (j))]) rfl dX11_next_18 ?_
        refine g_iload_n (pc := 19) hG 3 rfl dX11_next_19 ?_
        refine g_st (pc := 20) hG (st' := [iV (((j.toNat : Nat) : Int))]) (congrArg (fun z9 => [iV z9]) (show j = ((j.toNat : Nat) : Int) by omega)) ?_
        refine g_istore (pc := 20) hG (by decide) (lv' := [(4, iV (((j.toNat : Nat) : Int))), (3, iV (((nx K n (pl.getD j.toNat 0 + 1 + (j.toNat - j.toNat)) : Nat) : Int))), (0, .ref (ad (0))), (1, iV (((kk : Nat) : Int))), (2, iV (j))]) rfl dX11_next_20 ?_
        have L22 : ∀ (fu22 : Nat) (q : Nat) (p9 : Nat → Int), kk - q < fu22 → (NxI K n kk pl j.toNat q p9) → G 22 [(0, .ref (ad (0))), (1, iV (((kk : Nat) : Int))), (2, iV (j)), (3, iV (((nx K n (pl.getD j.toNat 0 + 1 + (q - j.toNat)) : Nat) : Int))), (4, iV (((q : Nat) : Int)))] [] ([mdoC0 cI cL cZ ad (0) (((m : Nat) : Int)) (((n : Nat) : Int)) (yy) (k) (dn) (on) (tw) (bt) (bl) (bd) (na) (dt) (tl) (ul) (th) (uh) (hd) (cn), z24C0 cI cL cZ ad (27) (K), i24C0 cI cL cZ ad (43) (pi), i24C0 cI cL cZ ad (44) (p9)]) := by
          intro fu22
          induction fu22 with
          | zero => intro q p9 hm; exact absurd hm (Nat.not_lt_zero _)
          | succ fu22 ih22 =>
            intro q p9 hm22 hx
            have hnx := nx_le K n (pl.getD j.toNat 0 + 1 + (q - j.toNat))
            have hxa := hx.1
            have hxb := hx.2.1
            refine g_iload_n (pc := 22) hG 3 rfl dX11_next_22 ?_
            refine g_aload_n (pc := 23) hG 0 rfl dX11_next_23 ?_
            refine g_get (pc := 24) hG fl11_94 0 rfl rfl dX11_next_24 ?_
            have J56 : ∀ (_ : Unit), (((((n : Nat) : Int) ≤ ((nx K n (pl.getD j.toNat 0 + 1 + (q - j.toNat)) : Nat) : Int))) ∨ ((¬ ((n : Nat) : Int) ≤ ((nx K n (pl.getD j.toNat 0 + 1 + (q - j.toNat)) : Nat) : Int)) ∧ (((kk : Nat) : Int) ≤ ((q : Nat) : Int)))) → G 56 [(0, .ref (ad (0))), (1, iV (((kk : Nat) : Int))), (2, iV (j)), (3, iV (((nx K n (pl.getD j.toNat 0 + 1 + (q - j.toNat)) : Nat) : Int))), (4, iV (((q : Nat) : Int)))] [] ([mdoC0 cI cL cZ ad (0) (((m : Nat) : Int)) (((n : Nat) : Int)) (yy) (k) (dn) (on) (tw) (bt) (bl) (bd) (na) (dt) (tl) (ul) (th) (uh) (hd) (cn), z24C0 cI cL cZ ad (27) (K), i24C0 cI cL cZ ad (43) (pi), i24C0 cI cL cZ ad (44) (p9)]) := by
              intro _ k56
              refine g_iload (pc := 56) hG 4 rfl dX11_next_56 ?_
              refine g_iload_n (pc := 58) hG 1 rfl dX11_next_58 ?_
              refine g_icmp_ne (pc := 59) hG (by omega) (by omega) (tgt := 93) (by decide) dX11_next_59 (fun h59 => ?_) (fun h59 => ?_)
              · refine g_iinc (pc := 93) hG 2 rfl (by decide) (lv' := [(2, iV (j + (-1))), (0, .ref (ad (0))), (1, iV (((kk : Nat) : Int))), (3, iV (((nx K n (pl.getD j.toNat 0 + 1 + (q - j.toNat)) : Nat) : Int))), (4, iV (((q : Nat) : Int)))]) rfl dX11_next_93 ?_
                refine g_goto (pc := 96) hG (tgt := 4) (by decide) dX11_next_96 ?_
                exact g_lv (pc := 4) hG [1, 2, 0] rfl (ih4 (j + (-1)) p9 (by omega) (by omega) (fun q8 a b => by rcases Int.lt_or_le j q8 with h8 | h8; exact hno q8 h8 b; rw [show q8 = j.toNat by omega]; exact nx_no hx k56 h59))
              · refine g_iload_n (pc := 62) hG 2 rfl dX11_next_62 ?_
                refine g_st (pc := 63) hG (st' := [iV (((j.toNat : Nat) : Int))]) (congrArg (fun z9 => [iV z9]) (show j = ((j.toNat : Nat) : Int) by omega)) ?_
                refine g_istore (pc := 63) hG (by decide) (lv' := [(5, iV (((j.toNat : Nat) : Int))), (0, .ref (ad (0))), (1, iV (((kk : Nat) : Int))), (2, iV (j)), (3, iV (((nx K n (pl.getD j.toNat 0 + 1 + (q - j.toNat)) : Nat) : Int))), (4, iV (((q : Nat) : Int)))]) rfl dX11_next_63 ?_
                have L65 : ∀ (fu65 : Nat) (l9 : Nat) (p8 : Nat → Int), kk - l9 < fu65 → (j.toNat ≤ l9 ∧ l9 ≤ kk) → ((∀ i, i < j.toNat → p8 i = pi i) ∧ ∀ i, j.toNat ≤ i → i < l9 → p8 i = p9 i) → G 65 [(0, .ref (ad (0))), (1, iV (((kk : Nat) : Int))), (2, iV (j)), (5, iV (((l9 : Nat) : Int)))] [] ([mdoC0 cI cL cZ ad (0) (((m : Nat) : Int)) (((n : Nat) : Int)) (yy) (k) (dn) (on) (tw) (bt) (bl) (bd) (na) (dt) (tl) (ul) (th) (uh) (hd) (cn), z24C0 cI cL cZ ad (27) (K), i24C0 cI cL cZ ad (43) (p8), i24C0 cI cL cZ ad (44) (p9)]) := by
                  intro fu65
                  induction fu65 with
                  | zero => intro l9 p8 hm; exact absurd hm (Nat.not_lt_zero _)
                  | succ fu65 ih65 =>
                    intro l9 p8 hm65 hl h8
                    refine g_iload (pc := 65) hG 3 rfl dX11_next_65 ?_
                    refine g_iload_n (pc := 67) hG 1 rfl dX11_next_67 ?_
                    refine g_icmp_ge (pc := 68) hG (by omega) (by omega) (tgt := 91) (by decide) dX11_next_68 (fun h68 => ?_) (fun h68 => ?_)
                    · refine g_iconst (pc := 91) hG dX11_next_91 ?_
                      exact g_zreturn (pc := 92) hG (true) rfl ⟨true, p8, p9, NextR.yes hp (by omega) (fun q8 a b => hno q8 (by omega) b) hx (by omega) h8.1 (fun i a b => h8.2 i a (by omega)), rfl, rfl⟩ dX11_next_92
                    · refine g_aload_n (pc := 71) hG 0 rfl dX11_next_71 ?_
                      refine g_get (pc := 72) hG fl11_56 0 rfl rfl dX11_next_72 ?_
                      refine g_iload (pc := 75) hG 3 rfl dX11_next_75 ?_
                      refine g_aload_n (pc := 77) hG 0 rfl dX11_next_77 ?_
                      refine g_get (pc := 78) hG fl11_59 0 rfl rfl dX11_next_78 ?_
                      refine g_iload (pc := 81) hG 3 rfl dX11_next_81 ?_
                      refine g_iaload (pc := 83) hG 3 l9 rfl rfl (by omega) (by omega) (by decide) dX11_next_83 ?_
                      refine g_iastore (pc := 84) hG 2 l9 rfl rfl (by omega) (by omega) (by decide) (ws' := [mdoC0 cI cL cZ ad (0) (((m : Nat) : Int)) (((n : Nat) : Int)) (yy) (k) (dn) (on) (tw) (bt) (bl) (bd) (na) (dt) (tl) (ul) (th) (uh) (hd) (cn), z24C0 cI cL cZ ad (27) (K), i24C0 cI cL cZ ad (43) (upZ p8 l9 (p9 l9)), i24C0 cI cL cZ ad (44) (p9)]) rfl dX11_next_84 ?_
                      refine g_iinc (pc := 85) hG 3 rfl (by decide) (lv' := [(5, iV ((((l9 : Nat) : Int)) + 1)), (0, .ref (ad (0))), (1, iV (((kk : Nat) : Int))), (2, iV (j))]) rfl dX11_next_85 ?_
                      refine g_goto (pc := 88) hG (tgt := 65) (by decide) dX11_next_88 ?_
                      exact g_lv (pc := 65) hG [1, 2, 3, 0] rfl (ih65 (l9 + 1) (upZ p8 l9 (p9 l9)) (by omega) (by omega) (nx_cp h8 (by omega)))
                exact g_lv (pc := 65) hG [1, 2, 3, 0] rfl (L65 _ j.toNat pi (Nat.lt_succ_self _) (by omega) (⟨fun i _ => rfl, fun i h1 h2 => by omega⟩))
            refine g_icmp_ge (pc := 27) hG (by omega) (by omega) (tgt := 56) (by decide) dX11_next_27 (fun h27 => ?_) (fun h27 => ?_)
            · exact g_lv (pc := 56) hG [0, 1, 2, 3, 4] rfl (J56 () (Or.inl (h27)))
            · refine g_iload (pc := 30) hG 4 rfl dX11_next_30 ?_
              refine g_iload_n (pc := 32) hG 1 rfl dX11_next_32 ?_
              refine g_icmp_ge (pc := 33) hG (by omega) (by omega) (tgt := 56) (by decide) dX11_next_33 (fun h33 => ?_) (fun h33 => ?_)
              · exact g_lv (pc := 56) hG [0, 1, 2, 3, 4] rfl (J56 () (Or.inr (⟨h27, h33⟩)))
              · refine g_aload_n (pc := 36) hG 0 rfl dX11_next_36 ?_
                refine g_get (pc := 37) hG fl11_59 0 rfl rfl dX11_next_37 ?_
                refine g_iload (pc := 40) hG 4 rfl dX11_next_40 ?_
                refine g_iload_n (pc := 42) hG 3 rfl dX11_next_42 ?_
                refine g_iastore (pc := 43) hG 3 q rfl rfl (by omega) (by omega) (by decide) (ws' := [mdoC0 cI cL cZ ad (0) (((m : Nat) : Int)) (((n : Nat) : Int)) (yy) (k) (dn) (on) (tw) (bt) (bl) (bd) (na) (dt) (tl) (ul) (th) (uh) (hd) (cn), z24C0 cI cL cZ ad (27) (K), i24C0 cI cL cZ ad (43) (pi), i24C0 cI cL cZ ad (44) (upZ p9 q (((nx K n (pl.getD j.toNat 0 + 1 + (q - j.toNat)) : Nat) : Int)))]) rfl dX11_next_43 ?_
                refine g_iinc (pc := 44) hG 4 rfl (by decide) (lv' := [(4, iV ((((q : Nat) : Int)) + 1)), (0, .ref (ad (0))), (1, iV (((kk : Nat) : Int))), (2, iV (j)), (3, iV (((nx K n (pl.getD j.toNat 0 + 1 + (q - j.toNat)) : Nat) : Int)))]) rfl dX11_next_44 ?_
                refine g_aload_n (pc := 47) hG 1 rfl dX11_next_47 ?_
                refine g_iload_n (pc := 48) hG 4 rfl dX11_next_48 ?_
                have hxl := nx_lt (show nx K n (pl.getD j.toNat 0 + 1 + (q - j.toNat)) < n by omega)
                refine g_callV (pc := 49) hG (As := [iV (((nx K n (pl.getD j.toNat 0 + 1 + (q - j.toNat)) : Nat) : Int))]) (rest := []) (c_X11_behind (l := l) (D := D) (cI := cI) (cL := cL) (cZ := cZ) (cX := cX) (cG := cG) ad m n yy k dn on tw bt bl bd na dt tl ul th uh hd cn K (nx K n (pl.getD j.toNat 0 + 1 + (q - j.toNat))) (pl.getD j.toNat 0 + 1 + (q + 1 - j.toNat)) (hn) (⟨by omega, hxl.2.2.1⟩) (by rw [hxl.2.2.2]; have := hx.1; omega)) (Sp.mg [true, true] rfl) cv11_186 ⟨rfl, rfl⟩ ⟨Nat.le_of_ble_eq_true rfl, Nat.le_of_ble_eq_true rfl⟩ 0 rfl rfl rfl rfl (Nat.le_of_ble_eq_true rfl) dX11_next_49 (fun v w1 h => ?_)
                obtain ⟨rfl, rfl⟩ := h
                show G 52 [(4, iV ((((q : Nat) : Int)) + 1)), (0, .ref (ad (0))), (1, iV (((kk : Nat) : Int))), (2, iV (j)), (3, iV (((nx K n (pl.getD j.toNat 0 + 1 + (q - j.toNat)) : Nat) : Int)))] [iV (((nx K n (pl.getD j.toNat 0 + 1 + (q + 1 - j.toNat)) : Nat) : Int))] ([mdoC0 cI cL cZ ad (0) (((m : Nat) : Int)) (((n : Nat) : Int)) (yy) (k) (dn) (on) (tw) (bt) (bl) (bd) (na) (dt) (tl) (ul) (th) (uh) (hd) (cn), z24C0 cI cL cZ ad (27) (K), i24C0 cI cL cZ ad (43) (pi), i24C0 cI cL cZ ad (44) (upZ p9 q (((nx K n (pl.getD j.toNat 0 + 1 + (q - j.toNat)) : Nat) : Int)))])
                refine g_istore_n (pc := 52) hG (by decide) (lv' := [(3, iV (((nx K n (pl.getD j.toNat 0 + 1 + (q + 1 - j.toNat)) : Nat) : Int))), (4, iV ((((q : Nat) : Int)) + 1)), (0, .ref (ad (0))), (1, iV (((kk : Nat) : Int))), (2, iV (j))]) rfl dX11_next_52 ?_
                refine g_goto (pc := 53) hG (tgt := 22) (by decide) dX11_next_53 ?_
                exact g_lv (pc := 22) hG [2, 3, 4, 0, 1] rfl (ih22 (q + 1) (upZ p9 q (((nx K n (pl.getD j.toNat 0 + 1 + (q - j.toNat)) : Nat) : Int))) (by omega) (hx.step (by omega) (by omega)))
        exact g_lv (pc := 22) hG [2, 3, 4, 1, 0] rfl (L22 _ j.toNat pk9 (Nat.lt_succ_self _) (NxI.init (by omega)))
  exact g_lv (pc := 4) hG [1, 2, 0] rfl (L4 _ x3 pj (Nat.lt_succ_self _) (by omega) (fun q a b => by omega))
