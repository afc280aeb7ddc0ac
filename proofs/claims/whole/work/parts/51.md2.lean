set_option maxHeartbeats 4000000 in
set_option maxRecDepth 100000 in
theorem c_X11_minor {l : Launch} {D : va_G} {cI cL cZ cX cG : ClassId} (ad : Nat → Nat) (m : Nat) (n : Nat) (yy : Int) (k : Int) (dn : Int) (on : Int) (tw : Int) (bt : Int) (bl : Int) (bd : Int) (na : Int) (dt : Int) (tl : Int) (ul : Int) (th : Int) (uh : Int) (hd : Bool) (cn : Int) (Mm : Nat → Nat → Int) (r : Nat) (c : Nat) (hr : r < 3) (hc : c < 3) : Ct l D (gT cI cL cZ cX cG) yX11_minor cX11_minor 7 (some .long) ({ frames := 0, cells := 0, slots := 0, locals := 0 }) [.ref (ad (0)), iV (((r : Nat) : Int)), iV (((c : Nat) : Int))] ([mdoC0 cI cL cZ ad (0) (((m : Nat) : Int)) (((n : Nat) : Int)) (yy) (k) (dn) (on) (tw) (bt) (bl) (bd) (na) (dt) (tl) (ul) (th) (uh) (hd) (cn), mgC0 cI cL cZ cX cG ad (35) (Mm), mgC1 cI cL cZ cX cG ad (35) (Mm), mgC2 cI cL cZ cX cG ad (35) (Mm), mgC3 cI cL cZ cX cG ad (35) (Mm)]) (fun vv_ ww_ => vv_ = some (lV (minM Mm r c)) ∧ ww_ = [mdoC0 cI cL cZ ad (0) (((m : Nat) : Int)) (((n : Nat) : Int)) (yy) (k) (dn) (on) (tw) (bt) (bl) (bd) (na) (dt) (tl) (ul) (th) (uh) (hd) (cn), mgC0 cI cL cZ cX cG ad (35) (Mm), mgC1 cI cL cZ cX cG ad (35) (Mm), mgC2 cI cL cZ cX cG ad (35) (Mm), mgC3 cI cL cZ cX cG ad (35) (Mm)]) := by
  refine Ct.of (by decide) (Nat.le_of_ble_eq_true rfl) (fun G hG => ?_)
  show G 0 [(0, .ref (ad (0))), (1, iV (((r : Nat) : Int))), (2, iV (((c : Nat) : Int)))] [] ([mdoC0 cI cL cZ ad (0) (((m : Nat) : Int)) (((n : Nat) : Int)) (yy) (k) (dn) (on) (tw) (bt) (bl) (bd) (na) (dt) (tl) (ul) (th) (uh) (hd) (cn), mgC0 cI cL cZ cX cG ad (35) (Mm), mgC1 cI cL cZ cX cG ad (35) (Mm), mgC2 cI cL cZ cX cG ad (35) (Mm), mgC3 cI cL cZ cX cG ad (35) (Mm)])
  refine g_iload_n (pc := 0) hG 1 rfl dX11_minor_0 ?_
  have J9 : ∀ (j9s0 : Nat), (((¬ ((r : Nat) : Int) = 0) ∧ j9s0 = 0) ∨ ((((r : Nat) : Int) = 0) ∧ j9s0 = 1)) → G 9 [(0, .ref (ad (0))), (1, iV (((r : Nat) : Int))), (2, iV (((c : Nat) : Int)))] [iV (((j9s0 : Nat) : Int))] ([mdoC0 cI cL cZ ad (0) (((m : Nat) : Int)) (((n : Nat) : Int)) (yy) (k) (dn) (on) (tw) (bt) (bl) (bd) (na) (dt) (tl) (ul) (th) (uh) (hd) (cn), mgC0 cI cL cZ cX cG ad (35) (Mm), mgC1 cI cL cZ cX cG ad (35) (Mm), mgC2 cI cL cZ cX cG ad (35) (Mm), mgC3 cI cL cZ cX cG ad (35) (Mm)]) := by
    intro j9s0 k9
    refine g_istore_n (pc := 9) hG (by decide) (lv' := [(3, iV (((j9s0 : Nat) : Int))), (0, .ref (ad (0))), (1, iV (((r : Nat) : Int))), (2, iV (((c : Nat) : Int)))]) rfl dX11_minor_9 ?_
    have e1 : j9s0 = r1 r := by unfold r1; split <;> omega
    refine g_iload_n (pc := 10) hG 2 rfl dX11_minor_10 ?_
    refine g_iconst (pc := 11) hG dX11_minor_11 ?_
    have J20 : ∀ (j20s0 : Nat), (((¬ ((r : Nat) : Int) = 2) ∧ j20s0 = 2) ∨ ((((r : Nat) : Int) = 2) ∧ j20s0 = 1)) → G 20 [(0, .ref (ad (0))), (1, iV (((r : Nat) : Int))), (2, iV (((c : Nat) : Int))), (3, iV (((j9s0 : Nat) : Int)))] [iV (((j20s0 : Nat) : Int))] ([mdoC0 cI cL cZ ad (0) (((m : Nat) : Int)) (((n : Nat) : Int)) (yy) (k) (dn) (on) (tw) (bt) (bl) (bd) (na) (dt) (tl) (ul) (th) (uh) (hd) (cn), mgC0 cI cL cZ cX cG ad (35) (Mm), mgC1 cI cL cZ cX cG ad (35) (Mm), mgC2 cI cL cZ cX cG ad (35) (Mm), mgC3 cI cL cZ cX cG ad (35) (Mm)]) := by
      intro j20s0 k20
      refine g_istore (pc := 20) hG (by decide) (lv' := [(4, iV (((j20s0 : Nat) : Int))), (0, .ref (ad (0))), (1, iV (((r : Nat) : Int))), (2, iV (((c : Nat) : Int))), (3, iV (((j9s0 : Nat) : Int)))]) rfl dX11_minor_20 ?_
      have e2 : j20s0 = r2 r := by unfold r2; split <;> omega
      refine g_iload_n (pc := 22) hG 3 rfl dX11_minor_22 ?_
      have J31 : ∀ (j31s0 : Nat), (((¬ ((c : Nat) : Int) = 0) ∧ j31s0 = 0) ∨ ((((c : Nat) : Int) = 0) ∧ j31s0 = 1)) → G 31 [(0, .ref (ad (0))), (1, iV (((r : Nat) : Int))), (2, iV (((c : Nat) : Int))), (3, iV (((j9s0 : Nat) : Int))), (4, iV (((j20s0 : Nat) : Int)))] [iV (((j31s0 : Nat) : Int))] ([mdoC0 cI cL cZ ad (0) (((m : Nat) : Int)) (((n : Nat) : Int)) (yy) (k) (dn) (on) (tw) (bt) (bl) (bd) (na) (dt) (tl) (ul) (th) (uh) (hd) (cn), mgC0 cI cL cZ cX cG ad (35) (Mm), mgC1 cI cL cZ cX cG ad (35) (Mm), mgC2 cI cL cZ cX cG ad (35) (Mm), mgC3 cI cL cZ cX cG ad (35) (Mm)]) := by
        intro j31s0 k31
        refine g_istore (pc := 31) hG (by decide) (lv' := [(5, iV (((j31s0 : Nat) : Int))), (0, .ref (ad (0))), (1, iV (((r : Nat) : Int))), (2, iV (((c : Nat) : Int))), (3, iV (((j9s0 : Nat) : Int))), (4, iV (((j20s0 : Nat) : Int)))]) rfl dX11_minor_31 ?_
        have e3 : j31s0 = r1 c := by unfold r1; split <;> omega
        refine g_iload_n (pc := 33) hG 3 rfl dX11_minor_33 ?_
        refine g_iconst (pc := 34) hG dX11_minor_34 ?_
        have J43 : ∀ (j43s0 : Nat), (((¬ ((c : Nat) : Int) = 2) ∧ j43s0 = 2) ∨ ((((c : Nat) : Int) = 2) ∧ j43s0 = 1)) → G 43 [(0, .ref (ad (0))), (1, iV (((r : Nat) : Int))), (2, iV (((c : Nat) : Int))), (3, iV (((j9s0 : Nat) : Int))), (4, iV (((j20s0 : Nat) : Int))), (5, iV (((j31s0 : Nat) : Int)))] [iV (((j43s0 : Nat) : Int))] ([mdoC0 cI cL cZ ad (0) (((m : Nat) : Int)) (((n : Nat) : Int)) (yy) (k) (dn) (on) (tw) (bt) (bl) (bd) (na) (dt) (tl) (ul) (th) (uh) (hd) (cn), mgC0 cI cL cZ cX cG ad (35) (Mm), mgC1 cI cL cZ cX cG ad (35) (Mm), mgC2 cI cL cZ cX cG ad (35) (Mm), mgC3 cI cL cZ cX cG ad (35) (Mm)]) := by
          intro j43s0 k43
          refine g_istore (pc := 43) hG (by decide) (lv' := [(6, iV (((j43s0 : Nat) : Int))), (0, .ref (ad (0))), (1, iV (((r : Nat) : Int))), (2, iV (((c : Nat) : Int))), (3, iV (((j9s0 : Nat) : Int))), (4, iV (((j20s0 : Nat) : Int))), (5, iV (((j31s0 : Nat) : Int)))]) rfl dX11_minor_43 ?_
          have e4 : j43s0 = r2 c := by unfold r2; split <;> omega
          refine g_aload_n (pc := 45) hG 1 rfl dX11_minor_45 ?_
          refine g_get (pc := 46) hG fl11_41 0 rfl rfl dX11_minor_46 ?_
          refine g_iload_n (pc := 49) hG 4 rfl dX11_minor_49 ?_
          refine g_aaload (pc := 50) hG 1 4 j9s0 rfl rfl (by omega) (by omega) (by decide) dX11_minor_50 ?_
          refine g_iload (pc := 51) hG 6 rfl dX11_minor_51 ?_
          refine g_laload (pc := 53) hG (2 + j9s0) j31s0 (rw_at [mdoC0 cI cL cZ ad (0) (((m : Nat) : Int)) (((n : Nat) : Int)) (yy) (k) (dn) (on) (tw) (bt) (bl) (bd) (na) (dt) (tl) (ul) (th) (uh) (hd) (cn), mgC0 cI cL cZ cX cG ad (35) (Mm)] _ 3 (fun i9 => (ad (36 + i9), aL cL 3 (Mm i9))) (by omega)) rfl (by omega) (by omega) (by decide) dX11_minor_53 ?_
          refine g_aload_n (pc := 54) hG 1 rfl dX11_minor_54 ?_
          refine g_get (pc := 55) hG fl11_41 0 rfl rfl dX11_minor_55 ?_
          refine g_iload (pc := 58) hG 5 rfl dX11_minor_58 ?_
          refine g_aaload (pc := 60) hG 1 4 j20s0 rfl rfl (by omega) (by omega) (by decide) dX11_minor_60 ?_
          refine g_iload (pc := 61) hG 0 rfl dX11_minor_61 ?_
          refine g_laload (pc := 63) hG (2 + j20s0) j43s0 (rw_at [mdoC0 cI cL cZ ad (0) (((m : Nat) : Int)) (((n : Nat) : Int)) (yy) (k) (dn) (on) (tw) (bt) (bl) (bd) (na) (dt) (tl) (ul) (th) (uh) (hd) (cn), mgC0 cI cL cZ cX cG ad (35) (Mm)] _ 3 (fun i9 => (ad (36 + i9), aL cL 3 (Mm i9))) (by omega)) rfl (by omega) (by omega) (by decide) dX11_minor_63 ?_
          refine g_lmul (pc := 64) hG dX11_minor_64 ?_
          refine g_aload_n (pc := 65) hG 1 rfl dX11_minor_65 ?_
          refine g_get (pc := 66) hG fl11_41 0 rfl rfl dX11_minor_66 ?_
          refine g_iload_n (pc := 69) hG 4 rfl dX11_minor_69 ?_
          refine g_aaload (pc := 70) hG 1 4 j9s0 rfl rfl (by omega) (by omega) (by decide) dX11_minor_70 ?_
          refine g_iload (pc := 71) hG 0 rfl dX11_minor_71 ?_
          refine g_laload (pc := 73) hG (2 + j9s0) j43s0 (rw_at [mdoC0 cI cL cZ ad (0) (((m : Nat) : Int)) (((n : Nat) : Int)) (yy) (k) (dn) (on) (tw) (bt) (bl) (bd) (na) (dt) (tl) (ul) (th) (uh) (hd) (cn), mgC0 cI cL cZ cX cG ad (35) (Mm)] _ 3 (fun i9 => (ad (36 + i9), aL cL 3 (Mm i9))) (by omega)) rfl (by omega) (by omega) (by decide) dX11_minor_73 ?_
          refine g_aload_n (pc := 74) hG 1 rfl dX11_minor_74 ?_
          refine g_get (pc := 75) hG fl11_41 0 rfl rfl dX11_minor_75 ?_
          refine g_iload (pc := 78) hG 5 rfl dX11_minor_78 ?_
          refine g_aaload (pc := 80) hG 1 4 j20s0 rfl rfl (by omega) (by omega) (by decide) dX11_minor_80 ?_
          refine g_iload (pc := 81) hG 6 rfl dX11_minor_81 ?_
          refine g_laload (pc := 83) hG (2 + j20s0) j31s0 (rw_at [mdoC0 cI cL cZ ad (0) (((m : Nat) : Int)) (((n : Nat) : Int)) (yy) (k) (dn) (on) (tw) (bt) (bl) (bd) (na) (dt) (tl) (ul) (th) (uh) (hd) (cn), mgC0 cI cL cZ cX cG ad (35) (Mm)] _ 3 (fun i9 => (ad (36 + i9), aL cL 3 (Mm i9))) (by omega)) rfl (by omega) (by omega) (by decide) dX11_minor_83 ?_
          refine g_lmul (pc := 84) hG dX11_minor_84 ?_
          refine g_lsub (pc := 85) hG dX11_minor_85 ?_
          exact g_lreturn (pc := 86) hG ⟨sL (by unfold minM; rw [← e1, ← e2, ← e3, ← e4]), rfl⟩ dX11_minor_86
        refine g_icmp_ne (pc := 35) hG (by omega) (by omega) (tgt := 42) (by decide) dX11_minor_35 (fun h35 => ?_) (fun h35 => ?_)
        · refine g_iconst (pc := 42) hG dX11_minor_42 ?_
          exact g_lv (pc := 43) hG [1, 2, 3, 4, 5, 0] rfl (J43 2 (Or.inl ⟨h35, rfl⟩))
        · refine g_iconst (pc := 38) hG dX11_minor_38 ?_
          refine g_goto (pc := 39) hG (tgt := 43) (by decide) dX11_minor_39 ?_
          exact g_lv (pc := 43) hG [1, 2, 3, 4, 5, 0] rfl (J43 1 (Or.inr (⟨h35, rfl⟩)))
      refine g_if_ne (pc := 23) hG (by omega) (tgt := 30) (by decide) dX11_minor_23 (fun h23 => ?_) (fun h23 => ?_)
      · refine g_iconst (pc := 30) hG dX11_minor_30 ?_
        exact g_lv (pc := 31) hG [1, 2, 3, 4, 0] rfl (J31 0 (Or.inl ⟨h23, rfl⟩))
      · refine g_iconst (pc := 26) hG dX11_minor_26 ?_
        refine g_goto (pc := 27) hG (tgt := 31) (by decide) dX11_minor_27 ?_
        exact g_lv (pc := 31) hG [1, 2, 3, 4, 0] rfl (J31 1 (Or.inr (⟨h23, rfl⟩)))
    refine g_icmp_ne (pc := 12) hG (by omega) (by omega) (tgt := 19) (by decide) dX11_minor_12 (fun h12 => ?_) (fun h12 => ?_)
    · refine g_iconst (pc := 19) hG dX11_minor_19 ?_
      exact g_lv (pc := 20) hG [1, 2, 3, 0] rfl (J20 2 (Or.inl ⟨h12, rfl⟩))
    · refine g_iconst (pc := 15) hG dX11_minor_15 ?_
      refine g_goto (pc := 16) hG (tgt := 20) (by decide) dX11_minor_16 ?_
      exact g_lv (pc := 20) hG [1, 2, 3, 0] rfl (J20 1 (Or.inr (⟨h12, rfl⟩)))
  refine g_if_ne (pc := 1) hG (by omega) (tgt := 8) (by decide) dX11_minor_1 (fun h1 => ?_) (fun h1 => ?_)
  · refine g_iconst (pc := 8) hG dX11_minor_8 ?_
    exact g_lv (pc := 9) hG [0, 1, 2] rfl (J9 0 (Or.inl ⟨h1, rfl⟩))
  · refine g_iconst (pc := 4) hG dX11_minor_4 ?_
    refine g_goto (pc := 5) hG (tgt := 9) (by decide) dX11_minor_5 ?_
    exact g_lv (pc := 9) hG [0, 1, 2] rfl (J9 1 (Or.inr (⟨h1, rfl⟩)))
set_option maxHeartbeats 4000000 in
set_option maxRecDepth 100000 in
theorem c_X11_determinant {l : Launch} {D : va_G} {cI cL cZ cX cG : ClassId} (ad : Nat → Nat) (m : Nat) (n : Nat) (yy : Int) (k : Int) (dn : Int) (on : Int) (tw : Int) (bt : Int) (bl : Int) (bd : Int) (na : Int) (dt : Int) (tl : Int) (ul : Int) (th : Int) (uh : Int) (hd : Bool) (cn : Int) (Mm : Nat → Nat → Int) (nn : Nat) (hn : nn ≤ 3) : Ct l D (gT cI cL cZ cX cG) yX11_determinant cX11_determinant 2 (some .long) ({ frames := 1, cells := 0, slots := 0, locals := 26 }) [.ref (ad (0)), iV (((nn : Nat) : Int))] ([mdoC0 cI cL cZ ad (0) (((m : Nat) : Int)) (((n : Nat) : Int)) (yy) (k) (dn) (on) (tw) (bt) (bl) (bd) (na) (dt) (tl) (ul) (th) (uh) (hd) (cn), mgC0 cI cL cZ cX cG ad (35) (Mm), mgC1 cI cL cZ cX cG ad (35) (Mm), mgC2 cI cL cZ cX cG ad (35) (Mm), mgC3 cI cL cZ cX cG ad (35) (Mm)]) (fun vv_ ww_ => vv_ = some (lV (detM Mm nn)) ∧ ww_ = [mdoC0 cI cL cZ ad (0) (((m : Nat) : Int)) (((n : Nat) : Int)) (yy) (k) (dn) (on) (tw) (bt) (bl) (bd) (na) (dt) (tl) (ul) (th) (uh) (hd) (cn), mgC0 cI cL cZ cX cG ad (35) (Mm), mgC1 cI cL cZ cX cG ad (35) (Mm), mgC2 cI cL cZ cX cG ad (35) (Mm), mgC3 cI cL cZ cX cG ad (35) (Mm)]) := by
  refine Ct.of (by decide) (Nat.le_of_ble_eq_true rfl) (fun G hG => ?_)
  show G 0 [(0, .ref (ad (0))), (1, iV (((nn : Nat) : Int)))] [] ([mdoC0 cI cL cZ ad (0) (((m : Nat) : Int)) (((n : Nat) : Int)) (yy) (k) (dn) (on) (tw) (bt) (bl) (bd) (na) (dt) (tl) (ul) (th) (uh) (hd) (cn), mgC0 cI cL cZ cX cG ad (35) (Mm), mgC1 cI cL cZ cX cG ad (35) (Mm), mgC2 cI cL cZ cX cG ad (35) (Mm), mgC3 cI cL cZ cX cG ad (35) (Mm)])
  refine g_iload_n (pc := 0) hG 1 rfl dX11_determinant_0 ?_
  refine g_if_ne (pc := 1) hG (by omega) (tgt := 6) (by decide) dX11_determinant_1 (fun h1 => ?_) (fun h1 => ?_)
  · refine g_iload_n (pc := 6) hG 1 rfl dX11_determinant_6 ?_
    refine g_iconst (pc := 7) hG dX11_determinant_7 ?_
    refine g_icmp_ne (pc := 8) hG (by omega) (by omega) (tgt := 20) (by decide) dX11_determinant_8 (fun h8 => ?_) (fun h8 => ?_)
    · refine g_iload_n (pc := 20) hG 1 rfl dX11_determinant_20 ?_
      refine g_iconst (pc := 21) hG dX11_determinant_21 ?_
      refine g_icmp_ne (pc := 22) hG (by omega) (by omega) (tgt := 61) (by decide) dX11_determinant_22 (fun h22 => ?_) (fun h22 => ?_)
      · refine g_aload_n (pc := 61) hG 0 rfl dX11_determinant_61 ?_
        refine g_get (pc := 62) hG fl11_41 0 rfl rfl dX11_determinant_62 ?_
        refine g_iconst (pc := 65) hG dX11_determinant_65 ?_
        refine g_aaload (pc := 66) hG 1 4 0 rfl rfl (by omega) (by omega) (by decide) dX11_determinant_66 ?_
        refine g_iconst (pc := 67) hG dX11_determinant_67 ?_
        refine g_laload (pc := 68) hG (2 + 0) 0 (rw_at [mdoC0 cI cL cZ ad (0) (((m : Nat) : Int)) (((n : Nat) : Int)) (yy) (k) (dn) (on) (tw) (bt) (bl) (bd) (na) (dt) (tl) (ul) (th) (uh) (hd) (cn), mgC0 cI cL cZ cX cG ad (35) (Mm)] _ 3 (fun i9 => (ad (36 + i9), aL cL 3 (Mm i9))) (by omega)) rfl (by omega) (by omega) (by decide) dX11_determinant_68 ?_
        refine g_aload_n (pc := 69) hG 0 rfl dX11_determinant_69 ?_
        refine g_iconst (pc := 70) hG dX11_determinant_70 ?_
        refine g_iconst (pc := 71) hG dX11_determinant_71 ?_
        refine g_callV (pc := 72) hG (As := [iV (0), iV (0)]) (rest := [lV (Mm 0 0)]) (c_X11_minor (l := l) (D := D) (cI := cI) (cL := cL) (cZ := cZ) (cX := cX) (cG := cG) ad m n yy k dn on tw bt bl bd na dt tl ul th uh hd cn Mm 0 0 (by omega) (by omega)) (Sp.whole _) cv11_108 ⟨rfl, rfl⟩ ⟨Nat.le_of_ble_eq_true rfl, Nat.le_of_ble_eq_true rfl⟩ 0 rfl rfl rfl rfl (Nat.le_of_ble_eq_true rfl) dX11_determinant_72 (fun v w1 h => ?_)
        obtain ⟨rfl, rfl⟩ := h
        show G 75 [(0, .ref (ad (0))), (1, iV (((nn : Nat) : Int)))] [lV (minM Mm 0 0), lV (Mm 0 0)] ([mdoC0 cI cL cZ ad (0) (((m : Nat) : Int)) (((n : Nat) : Int)) (yy) (k) (dn) (on) (tw) (bt) (bl) (bd) (na) (dt) (tl) (ul) (th) (uh) (hd) (cn), mgC0 cI cL cZ cX cG ad (35) (Mm), mgC1 cI cL cZ cX cG ad (35) (Mm), mgC2 cI cL cZ cX cG ad (35) (Mm), mgC3 cI cL cZ cX cG ad (35) (Mm)])
        refine g_lmul (pc := 75) hG dX11_determinant_75 ?_
        refine g_aload_n (pc := 76) hG 0 rfl dX11_determinant_76 ?_
        refine g_get (pc := 77) hG fl11_41 0 rfl rfl dX11_determinant_77 ?_
        refine g_iconst (pc := 80) hG dX11_determinant_80 ?_
        refine g_aaload (pc := 81) hG 1 4 0 rfl rfl (by omega) (by omega) (by decide) dX11_determinant_81 ?_
        refine g_iconst (pc := 82) hG dX11_determinant_82 ?_
        refine g_laload (pc := 83) hG (2 + 0) 1 (rw_at [mdoC0 cI cL cZ ad (0) (((m : Nat) : Int)) (((n : Nat) : Int)) (yy) (k) (dn) (on) (tw) (bt) (bl) (bd) (na) (dt) (tl) (ul) (th) (uh) (hd) (cn), mgC0 cI cL cZ cX cG ad (35) (Mm)] _ 3 (fun i9 => (ad (36 + i9), aL cL 3 (Mm i9))) (by omega)) rfl (by omega) (by omega) (by decide) dX11_determinant_83 ?_
        refine g_aload_n (pc := 84) hG 0 rfl dX11_determinant_84 ?_
        refine g_iconst (pc := 85) hG dX11_determinant_85 ?_
        refine g_iconst (pc := 86) hG dX11_determinant_86 ?_
        refine g_callV (pc := 87) hG (As := [iV (0), iV (1)]) (rest := [lV (Mm 0 1), lV ((Mm 0 0) * (minM Mm 0 0))]) (c_X11_minor (l := l) (D := D) (cI := cI) (cL := cL) (cZ := cZ) (cX := cX) (cG := cG) ad m n yy k dn on tw bt bl bd na dt tl ul th uh hd cn Mm 0 1 (by omega) (by omega)) (Sp.whole _) cv11_108 ⟨rfl, rfl⟩ ⟨Nat.le_of_ble_eq_true rfl, Nat.le_of_ble_eq_true rfl⟩ 0 rfl rfl rfl rfl (Nat.le_of_ble_eq_true rfl) dX11_determinant_87 (fun v w1 h => ?_)
        obtain ⟨rfl, rfl⟩ := h
        show G 90 [(0, .ref (ad (0))), (1, iV (((nn : Nat) : Int)))] [lV (minM Mm 0 1), lV (Mm 0 1), lV ((Mm 0 0) * (minM Mm 0 0))] ([mdoC0 cI cL cZ ad (0) (((m : Nat) : Int)) (((n : Nat) : Int)) (yy) (k) (dn) (on) (tw) (bt) (bl) (bd) (na) (dt) (tl) (ul) (th) (uh) (hd) (cn), mgC0 cI cL cZ cX cG ad (35) (Mm), mgC1 cI cL cZ cX cG ad (35) (Mm), mgC2 cI cL cZ cX cG ad (35) (Mm), mgC3 cI cL cZ cX cG ad (35) (Mm)])
        refine g_lmul (pc := 90) hG dX11_determinant_90 ?_
        refine g_lsub (pc := 91) hG dX11_determinant_91 ?_
        refine g_aload_n (pc := 92) hG 0 rfl dX11_determinant_92 ?_
        refine g_get (pc := 93) hG fl11_41 0 rfl rfl dX11_determinant_93 ?_
        refine g_iconst (pc := 96) hG dX11_determinant_96 ?_
        refine g_aaload (pc := 97) hG 1 4 0 rfl rfl (by omega) (by omega) (by decide) dX11_determinant_97 ?_
        refine g_iconst (pc := 98) hG dX11_determinant_98 ?_
        refine g_laload (pc := 99) hG (2 + 0) 2 (rw_at [mdoC0 cI cL cZ ad (0) (((m : Nat) : Int)) (((n : Nat) : Int)) (yy) (k) (dn) (on) (tw) (bt) (bl) (bd) (na) (dt) (tl) (ul) (th) (uh) (hd) (cn), mgC0 cI cL cZ cX cG ad (35) (Mm)] _ 3 (fun i9 => (ad (36 + i9), aL cL 3 (Mm i9))) (by omega)) rfl (by omega) (by omega) (by decide) dX11_determinant_99 ?_
        refine g_aload_n (pc := 100) hG 0 rfl dX11_determinant_100 ?_
        refine g_iconst (pc := 101) hG dX11_determinant_101 ?_
        refine g_iconst (pc := 102) hG dX11_determinant_102 ?_
        refine g_callV (pc := 103) hG (As := [iV (0), iV (2)]) (rest := [lV (Mm 0 2), lV (((Mm 0 0) * (minM Mm 0 0)) - ((Mm 0 1) * (minM Mm 0 1)))]) (c_X11_minor (l := l) (D := D) (cI := cI) (cL := cL) (cZ := cZ) (cX := cX) (cG := cG) ad m n yy k dn on tw bt bl bd na dt tl ul th uh hd cn Mm 0 2 (by omega) (by omega)) (Sp.whole _) cv11_108 ⟨rfl, rfl⟩ ⟨Nat.le_of_ble_eq_true rfl, Nat.le_of_ble_eq_true rfl⟩ 0 rfl rfl rfl rfl (Nat.le_of_ble_eq_true rfl) dX11_determinant_103 (fun v w1 h => ?_)
        obtain ⟨rfl, rfl⟩ := h
        show G 106 [(0, .ref (ad (0))), (1, iV (((nn : Nat) : Int)))] [lV (minM Mm 0 2), lV (Mm 0 2), lV (((Mm 0 0) * (minM Mm 0 0)) - ((Mm 0 1) * (minM Mm 0 1)))] ([mdoC0 cI cL cZ ad (0) (((m : Nat) : Int)) (((n : Nat) : Int)) (yy) (k) (dn) (on) (tw) (bt) (bl) (bd) (na) (dt) (tl) (ul) (th) (uh) (hd) (cn), mgC0 cI cL cZ cX cG ad (35) (Mm), mgC1 cI cL cZ cX cG ad (35) (Mm), mgC2 cI cL cZ cX cG ad (35) (Mm), mgC3 cI cL cZ cX cG ad (35) (Mm)])
        refine g_lmul (pc := 106) hG dX11_determinant_106 ?_
        refine g_ladd (pc := 107) hG dX11_determinant_107 ?_
        exact g_lreturn (pc := 108) hG ⟨sL (by unfold detM; rw [if_neg (by omega), if_neg (by omega), if_neg (by omega)]), rfl⟩ dX11_determinant_108
      · refine g_aload_n (pc := 25) hG 0 rfl dX11_determinant_25 ?_
        refine g_get (pc := 26) hG fl11_41 0 rfl rfl dX11_determinant_26 ?_
        refine g_iconst (pc := 29) hG dX11_determinant_29 ?_
        refine g_aaload (pc := 30) hG 1 4 0 rfl rfl (by omega) (by omega) (by decide) dX11_determinant_30 ?_
        refine g_iconst (pc := 31) hG dX11_determinant_31 ?_
        refine g_laload (pc := 32) hG (2 + 0) 0 (rw_at [mdoC0 cI cL cZ ad (0) (((m : Nat) : Int)) (((n : Nat) : Int)) (yy) (k) (dn) (on) (tw) (bt) (bl) (bd) (na) (dt) (tl) (ul) (th) (uh) (hd) (cn), mgC0 cI cL cZ cX cG ad (35) (Mm)] _ 3 (fun i9 => (ad (36 + i9), aL cL 3 (Mm i9))) (by omega)) rfl (by omega) (by omega) (by decide) dX11_determinant_32 ?_
        refine g_aload_n (pc := 33) hG 0 rfl dX11_determinant_33 ?_
        refine g_get (pc := 34) hG fl11_41 0 rfl rfl dX11_determinant_34 ?_
        refine g_iconst (pc := 37) hG dX11_determinant_37 ?_
        refine g_aaload (pc := 38) hG 1 4 1 rfl rfl (by omega) (by omega) (by decide) dX11_determinant_38 ?_
        refine g_iconst (pc := 39) hG dX11_determinant_39 ?_
        refine g_laload (pc := 40) hG (2 + 1) 1 (rw_at [mdoC0 cI cL cZ ad (0) (((m : Nat) : Int)) (((n : Nat) : Int)) (yy) (k) (dn) (on) (tw) (bt) (bl) (bd) (na) (dt) (tl) (ul) (th) (uh) (hd) (cn), mgC0 cI cL cZ cX cG ad (35) (Mm)] _ 3 (fun i9 => (ad (36 + i9), aL cL 3 (Mm i9))) (by omega)) rfl (by omega) (by omega) (by decide) dX11_determinant_40 ?_
        refine g_lmul (pc := 41) hG dX11_determinant_41 ?_
        refine g_aload_n (pc := 42) hG 0 rfl dX11_determinant_42 ?_
        refine g_get (pc := 43) hG fl11_41 0 rfl rfl dX11_determinant_43 ?_
        refine g_iconst (pc := 46) hG dX11_determinant_46 ?_
        refine g_aaload (pc := 47) hG 1 4 0 rfl rfl (by omega) (by omega) (by decide) dX11_determinant_47 ?_
        refine g_iconst (pc := 48) hG dX11_determinant_48 ?_
        refine g_laload (pc := 49) hG (2 + 0) 1 (rw_at [mdoC0 cI cL cZ ad (0) (((m : Nat) : Int)) (((n : Nat) : Int)) (yy) (k) (dn) (on) (tw) (bt) (bl) (bd) (na) (dt) (tl) (ul) (th) (uh) (hd) (cn), mgC0 cI cL cZ cX cG ad (35) (Mm)] _ 3 (fun i9 => (ad (36 + i9), aL cL 3 (Mm i9))) (by omega)) rfl (by omega) (by omega) (by decide) dX11_determinant_49 ?_
        refine g_aload_n (pc := 50) hG 0 rfl dX11_determinant_50 ?_
        refine g_get (pc := 51) hG fl11_41 0 rfl rfl dX11_determinant_51 ?_
        refine g_iconst (pc := 54) hG dX11_determinant_54 ?_
        refine g_aaload (pc := 55) hG 1 4 1 rfl rfl (by omega) (by omega) (by decide) dX11_determinant_55 ?_
        refine g_iconst (pc := 56) hG dX11_determinant_56 ?_
        refine g_laload (pc := 57) hG (2 + 1) 0 (rw_at [mdoC0 cI cL cZ ad (0) (((m : Nat) : Int)) (((n : Nat) : Int)) (yy) (k) (dn) (on) (tw) (bt) (bl) (bd) (na) (dt) (tl) (ul) (th) (uh) (hd) (cn), mgC0 cI cL cZ cX cG ad (35) (Mm)] _ 3 (fun i9 => (ad (36 + i9), aL cL 3 (Mm i9))) (by omega)) rfl (by omega) (by omega) (by decide) dX11_determinant_57 ?_
        refine g_lmul (pc := 58) hG dX11_determinant_58 ?_
        refine g_lsub (pc := 59) hG dX11_determinant_59 ?_
        exact g_lreturn (pc := 60) hG ⟨sL (by unfold detM; rw [if_neg (by omega), if_neg (by omega), if_pos (by omega)]), rfl⟩ dX11_determinant_60
    · refine g_aload_n (pc := 11) hG 0 rfl dX11_determinant_11 ?_
      refine g_get (pc := 12) hG fl11_41 0 rfl rfl dX11_determinant_12 ?_
      refine g_iconst (pc := 15) hG dX11_determinant_15 ?_
      refine g_aaload (pc := 16) hG 1 4 0 rfl rfl (by omega) (by omega) (by decide) dX11_determinant_16 ?_
      refine g_iconst (pc := 17) hG dX11_determinant_17 ?_
      refine g_laload (pc := 18) hG (2 + 0) 0 (rw_at [mdoC0 cI cL cZ ad (0) (((m : Nat) : Int)) (((n : Nat) : Int)) (yy) (k) (dn) (on) (tw) (bt) (bl) (bd) (na) (dt) (tl) (ul) (th) (uh) (hd) (cn), mgC0 cI cL cZ cX cG ad (35) (Mm)] _ 3 (fun i9 => (ad (36 + i9), aL cL 3 (Mm i9))) (by omega)) rfl (by omega) (by omega) (by decide) dX11_determinant_18 ?_
      exact g_lreturn (pc := 19) hG ⟨sL (by unfold detM; rw [if_neg (by omega), if_pos (by omega)]), rfl⟩ dX11_determinant_19
  · refine g_lconst (z := 1) (pc := 4) hG dX11_determinant_4 (by decide) ?_
    exact g_lreturn (pc := 5) hG ⟨sL (by unfold detM; rw [if_pos (by omega)]), rfl⟩ dX11_determinant_5
set_option maxHeartbeats 4000000 in
set_option maxRecDepth 100000 in
theorem c_X11_solve {l : Launch} {D : va_G} {cI cL cZ cX cG : ClassId} (ad : Nat → Nat) (m : Nat) (n : Nat) (yy : Int) (k : Int) (dn : Int) (on : Int) (tw : Int) (bt : Int) (bl : Int) (bd : Int) (na : Int) (dt : Int) (tl : Int) (ul : Int) (th : Int) (uh : Int) (hd : Bool) (cn : Int) (Mm : Nat → Nat → Int) (vv : Nat → Int) (ww : Nat → Int) (nn : Nat) (hn : nn ≤ 3) (hs : SmM Mm vv nn) (hd0 : detM Mm nn ≠ 0) : Ct l D (gT cI cL cZ cX cG) yX11_solve cX11_solve 9 none ({ frames := 2, cells := 0, slots := 0, locals := 47 }) [.ref (ad (0)), iV (((nn : Nat) : Int))] ([mdoC0 cI cL cZ ad (0) (((m : Nat) : Int)) (((n : Nat) : Int)) (yy) (k) (dn) (on) (tw) (bt) (bl) (bd) (na) (dt) (tl) (ul) (th) (uh) (hd) (cn), mgC0 cI cL cZ cX cG ad (35) (Mm), mgC1 cI cL cZ cX cG ad (35) (Mm), mgC2 cI cL cZ cX cG ad (35) (Mm), mgC3 cI cL cZ cX cG ad (35) (Mm), l3C0 cI cL cZ ad (39) (vv), l3C0 cI cL cZ ad (40) (ww)]) (fun vv_ ww_ => ∃ (w2 : Nat → Int), ∃ (dn2 : Int), (SlR Mm vv nn w2 dn2) ∧ vv_ = none ∧ ww_ = [mdoC0 cI cL cZ ad (0) (((m : Nat) : Int)) (((n : Nat) : Int)) (yy) (k) (dn2) (on) (tw) (bt) (bl) (bd) (na) (dt) (tl) (ul) (th) (uh) (hd) (cn), mgC0 cI cL cZ cX cG ad (35) (Mm), mgC1 cI cL cZ cX cG ad (35) (Mm), mgC2 cI cL cZ cX cG ad (35) (Mm), mgC3 cI cL cZ cX cG ad (35) (Mm), l3C0 cI cL cZ ad (39) (vv), l3C0 cI cL cZ ad (40) (w2)]) := by
  refine Ct.of (by decide) (Nat.le_of_ble_eq_true rfl) (fun G hG => ?_)
  show G 0 [(0, .ref (ad (0))), (1, iV (((nn : Nat) : Int)))] [] ([mdoC0 cI cL cZ ad (0) (((m : Nat) : Int)) (((n : Nat) : Int)) (yy) (k) (dn) (on) (tw) (bt) (bl) (bd) (na) (dt) (tl) (ul) (th) (uh) (hd) (cn), mgC0 cI cL cZ cX cG ad (35) (Mm), mgC1 cI cL cZ cX cG ad (35) (Mm), mgC2 cI cL cZ cX cG ad (35) (Mm), mgC3 cI cL cZ cX cG ad (35) (Mm), l3C0 cI cL cZ ad (39) (vv), l3C0 cI cL cZ ad (40) (ww)])
  refine g_aload_n (pc := 0) hG 0 rfl dX11_solve_0 ?_
  refine g_aload_n (pc := 1) hG 0 rfl dX11_solve_1 ?_
  refine g_iload_n (pc := 2) hG 1 rfl dX11_solve_2 ?_
  refine g_callV (pc := 3) hG (As := [iV (((nn : Nat) : Int))]) (rest := [.ref (ad (0))]) (c_X11_determinant (l := l) (D := D) (cI := cI) (cL := cL) (cZ := cZ) (cX := cX) (cG := cG) ad m n yy k dn on tw bt bl bd na dt tl ul th uh hd cn Mm nn (hn)) (Sp.mg [true, true, true, true, true] rfl) cv11_112 ⟨rfl, rfl⟩ ⟨Nat.le_of_ble_eq_true rfl, Nat.le_of_ble_eq_true rfl⟩ 0 rfl rfl rfl rfl (Nat.le_of_ble_eq_true rfl) dX11_solve_3 (fun v w1 h => ?_)
  obtain ⟨rfl, rfl⟩ := h
  show G 6 [(0, .ref (ad (0))), (1, iV (((nn : Nat) : Int)))] [lV (detM Mm nn), .ref (ad (0))] ([mdoC0 cI cL cZ ad (0) (((m : Nat) : Int)) (((n : Nat) : Int)) (yy) (k) (dn) (on) (tw) (bt) (bl) (bd) (na) (dt) (tl) (ul) (th) (uh) (hd) (cn), mgC0 cI cL cZ cX cG ad (35) (Mm), mgC1 cI cL cZ cX cG ad (35) (Mm), mgC2 cI cL cZ cX cG ad (35) (Mm), mgC3 cI cL cZ cX cG ad (35) (Mm), l3C0 cI cL cZ ad (39) (vv), l3C0 cI cL cZ ad (40) (ww)])
  refine g_nmL (pc := 6) hG (fun x6 ex6 => ?_)
  refine g_put (pc := 6) hG fp11_116 0 rfl rfl rfl (Nat.le_of_ble_eq_true rfl) (ws' := [mdoC0 cI cL cZ ad (0) (((m : Nat) : Int)) (((n : Nat) : Int)) (yy) (k) (x6) (on) (tw) (bt) (bl) (bd) (na) (dt) (tl) (ul) (th) (uh) (hd) (cn), mgC0 cI cL cZ cX cG ad (35) (Mm), mgC1 cI cL cZ cX cG ad (35) (Mm), mgC2 cI cL cZ cX cG ad (35) (Mm), mgC3 cI cL cZ cX cG ad (35) (Mm), l3C0 cI cL cZ ad (39) (vv), l3C0 cI cL cZ ad (40) (ww)]) rfl dX11_solve_6 ?_
  have hdb := det_bd hn hs
  refine g_ws (pc := 9) hG (ws' := [mdoC0 cI cL cZ ad (0) (((m : Nat) : Int)) (((n : Nat) : Int)) (yy) (k) (detM Mm nn) (on) (tw) (bt) (bl) (bd) (na) (dt) (tl) (ul) (th) (uh) (hd) (cn), mgC0 cI cL cZ cX cG ad (35) (Mm), mgC1 cI cL cZ cX cG ad (35) (Mm), mgC2 cI cL cZ cX cG ad (35) (Mm), mgC3 cI cL cZ cX cG ad (35) (Mm), l3C0 cI cL cZ ad (39) (vv), l3C0 cI cL cZ ad (40) (ww)]) (by rw [ex6]) ?_
  refine g_iconst (pc := 9) hG dX11_solve_9 ?_
  refine g_istore_n (pc := 10) hG (by decide) (lv' := [(2, iV (0)), (0, .ref (ad (0))), (1, iV (((nn : Nat) : Int)))]) rfl dX11_solve_10 ?_
  have L11 : ∀ (fu11 : Nat) (c : Nat) (w9 : Nat → Int), nn - c < fu11 → (c ≤ nn) → (∀ j, j < c → w9 j = crS Mm vv nn j nn) → G 11 [(0, .ref (ad (0))), (1, iV (((nn : Nat) : Int))), (2, iV (((c : Nat) : Int)))] [] ([mdoC0 cI cL cZ ad (0) (((m : Nat) : Int)) (((n : Nat) : Int)) (yy) (k) (detM Mm nn) (on) (tw) (bt) (bl) (bd) (na) (dt) (tl) (ul) (th) (uh) (hd) (cn), mgC0 cI cL cZ cX cG ad (35) (Mm), mgC1 cI cL cZ cX cG ad (35) (Mm), mgC2 cI cL cZ cX cG ad (35) (Mm), mgC3 cI cL cZ cX cG ad (35) (Mm), l3C0 cI cL cZ ad (39) (vv), l3C0 cI cL cZ ad (40) (w9)]) := by
    intro fu11
    induction fu11 with
    | zero => intro c w9 hm; exact absurd hm (Nat.not_lt_zero _)
    | succ fu11 ih11 =>
      intro c w9 hm11 hc hw
      refine g_iload_n (pc := 11) hG 2 rfl dX11_solve_11 ?_
      refine g_iload_n (pc := 12) hG 1 rfl dX11_solve_12 ?_
      refine g_icmp_ge (pc := 13) hG (by omega) (by omega) (tgt := 144) (by decide) dX11_solve_13 (fun h13 => ?_) (fun h13 => ?_)
      · refine g_aload_n (pc := 144) hG 0 rfl dX11_solve_144 ?_
        refine g_get (pc := 145) hG fl11_116 0 rfl rfl dX11_solve_145 ?_
        refine g_lconst (z := 0) (pc := 148) hG dX11_solve_148 (by decide) ?_
        have J165 : ∀ (j165s0 : Int), (((0 ≤ detM Mm nn) ∧ j165s0 = detM Mm nn) ∨ ((¬ 0 ≤ detM Mm nn) ∧ j165s0 = -(detM Mm nn))) → G 165 [(0, .ref (ad (0))), (1, iV (((nn : Nat) : Int))), (2, iV (((c : Nat) : Int)))] [lV (j165s0)] ([mdoC0 cI cL cZ ad (0) (((m : Nat) : Int)) (((n : Nat) : Int)) (yy) (k) (detM Mm nn) (on) (tw) (bt) (bl) (bd) (na) (dt) (tl) (ul) (th) (uh) (hd) (cn), mgC0 cI cL cZ cX cG ad (35) (Mm), mgC1 cI cL cZ cX cG ad (35) (Mm), mgC2 cI cL cZ cX cG ad (35) (Mm), mgC3 cI cL cZ cX cG ad (35) (Mm), l3C0 cI cL cZ ad (39) (vv), l3C0 cI cL cZ ad (40) (w9)]) := by
          intro j165s0 k165
          refine g_lstore_n (pc := 165) hG (by decide) (lv' := [(2, lV (j165s0)), (0, .ref (ad (0))), (1, iV (((nn : Nat) : Int)))]) rfl dX11_solve_165 ?_
          have hcn : c = nn := by omega
          have hw2 : ∀ j, j < nn → w9 j = crS Mm vv nn j nn := fun j hj => hw j (by omega)
          refine g_lload_n (pc := 166) hG 0 rfl dX11_solve_166 ?_
          refine g_lstore (pc := 167) hG (by decide) (lv' := [(4, lV (j165s0)), (2, lV (j165s0)), (0, .ref (ad (0))), (1, iV (((nn : Nat) : Int)))]) rfl dX11_solve_167 ?_
          refine g_iconst (pc := 169) hG dX11_solve_169 ?_
          refine g_istore (pc := 170) hG (by decide) (lv' := [(6, iV (0)), (4, lV (j165s0)), (2, lV (j165s0)), (0, .ref (ad (0))), (1, iV (((nn : Nat) : Int)))]) rfl dX11_solve_170 ?_
          have L172 : ∀ (fu172 : Nat) (c5 : Nat) (f : Int), nn - c5 < fu172 → (c5 ≤ nn) → (GcI j165s0 f w9 c5) → G 172 [(0, .ref (ad (0))), (1, iV (((nn : Nat) : Int))), (2, lV (j165s0)), (4, lV (f)), (6, iV (((c5 : Nat) : Int)))] [] ([mdoC0 cI cL cZ ad (0) (((m : Nat) : Int)) (((n : Nat) : Int)) (yy) (k) (detM Mm nn) (on) (tw) (bt) (bl) (bd) (na) (dt) (tl) (ul) (th) (uh) (hd) (cn), mgC0 cI cL cZ cX cG ad (35) (Mm), mgC1 cI cL cZ cX cG ad (35) (Mm), mgC2 cI cL cZ cX cG ad (35) (Mm), mgC3 cI cL cZ cX cG ad (35) (Mm), l3C0 cI cL cZ ad (39) (vv), l3C0 cI cL cZ ad (40) (w9)]) := by
            intro fu172
            induction fu172 with
            | zero => intro c5 f hm; exact absurd hm (Nat.not_lt_zero _)
            | succ fu172 ih172 =>
              intro c5 f hm172 hc5 hf
              refine g_iload (pc := 172) hG 4 rfl dX11_solve_172 ?_
              refine g_iload_n (pc := 174) hG 1 rfl dX11_solve_174 ?_
              refine g_icmp_ge (pc := 175) hG (by omega) (by omega) (tgt := 198) (by decide) dX11_solve_175 (fun h175 => ?_) (fun h175 => ?_)
              · have hf2 : GcI j165s0 f w9 nn := (show c5 = nn by omega) ▸ hf
                have hf1 := hf.1
                have hf3 := hf.2.1
                refine g_aload_n (pc := 198) hG 0 rfl dX11_solve_198 ?_
                refine g_get (pc := 199) hG fl11_116 0 rfl rfl dX11_solve_199 ?_
                refine g_lconst (z := 0) (pc := 202) hG dX11_solve_202 (by decide) ?_
                have J215 : ∀ (j215s0 : Int), (((0 ≤ detM Mm nn) ∧ j215s0 = f) ∨ ((¬ 0 ≤ detM Mm nn) ∧ j215s0 = -f)) → G 215 [(0, .ref (ad (0))), (1, iV (((nn : Nat) : Int))), (2, lV (j165s0)), (4, lV (f)), (6, iV (((c5 : Nat) : Int)))] [lV (j215s0)] ([mdoC0 cI cL cZ ad (0) (((m : Nat) : Int)) (((n : Nat) : Int)) (yy) (k) (detM Mm nn) (on) (tw) (bt) (bl) (bd) (na) (dt) (tl) (ul) (th) (uh) (hd) (cn), mgC0 cI cL cZ cX cG ad (35) (Mm), mgC1 cI cL cZ cX cG ad (35) (Mm), mgC2 cI cL cZ cX cG ad (35) (Mm), mgC3 cI cL cZ cX cG ad (35) (Mm), l3C0 cI cL cZ ad (39) (vv), l3C0 cI cL cZ ad (40) (w9)]) := by
                  intro j215s0 k215
                  refine g_lstore (pc := 215) hG (by decide) (lv' := [(6, lV (j215s0)), (0, .ref (ad (0))), (1, iV (((nn : Nat) : Int))), (2, lV (j165s0)), (4, lV (f))]) rfl dX11_solve_215 ?_
                  refine g_iconst (pc := 217) hG dX11_solve_217 ?_
                  refine g_istore (pc := 218) hG (by decide) (lv' := [(8, iV (0)), (6, lV (j215s0)), (0, .ref (ad (0))), (1, iV (((nn : Nat) : Int))), (2, lV (j165s0)), (4, lV (f))]) rfl dX11_solve_218 ?_
                  have L220 : ∀ (fu220 : Nat) (c8 : Nat) (w8 : Nat → Int), nn - c8 < fu220 → (c8 ≤ nn) → (DvI w9 w8 j215s0 c8) → G 220 [(0, .ref (ad (0))), (1, iV (((nn : Nat) : Int))), (2, lV (j165s0)), (4, lV (f)), (6, lV (j215s0)), (8, iV (((c8 : Nat) : Int)))] [] ([mdoC0 cI cL cZ ad (0) (((m : Nat) : Int)) (((n : Nat) : Int)) (yy) (k) (detM Mm nn) (on) (tw) (bt) (bl) (bd) (na) (dt) (tl) (ul) (th) (uh) (hd) (cn), mgC0 cI cL cZ cX cG ad (35) (Mm), mgC1 cI cL cZ cX cG ad (35) (Mm), mgC2 cI cL cZ cX cG ad (35) (Mm), mgC3 cI cL cZ cX cG ad (35) (Mm), l3C0 cI cL cZ ad (39) (vv), l3C0 cI cL cZ ad (40) (w8)]) := by
                    intro fu220
                    induction fu220 with
                    | zero => intro c8 w8 hm; exact absurd hm (Nat.not_lt_zero _)
                    | succ fu220 ih220 =>
                      intro c8 w8 hm220 hc8 h8
                      refine g_iload (pc := 220) hG 5 rfl dX11_solve_220 ?_
                      refine g_iload_n (pc := 222) hG 1 rfl dX11_solve_222 ?_
                      refine g_icmp_ge (pc := 223) hG (by omega) (by omega) (tgt := 244) (by decide) dX11_solve_223 (fun h223 => ?_) (fun h223 => ?_)
                      · refine g_aload_n (pc := 244) hG 0 rfl dX11_solve_244 ?_
                        refine g_lload_n (pc := 245) hG 2 rfl dX11_solve_245 ?_
                        refine g_lload (pc := 246) hG 3 rfl dX11_solve_246 ?_
                        refine g_ldiv (pc := 248) hG (by omega) (by omega) (by omega) (by omega) dX11_solve_248 ?_
                        refine g_nmL (pc := 249) hG (fun x249 ex249 => ?_)
                        refine g_put (pc := 249) hG fp11_116 0 rfl rfl rfl (Nat.le_of_ble_eq_true rfl) (ws' := [mdoC0 cI cL cZ ad (0) (((m : Nat) : Int)) (((n : Nat) : Int)) (yy) (k) (x249) (on) (tw) (bt) (bl) (bd) (na) (dt) (tl) (ul) (th) (uh) (hd) (cn), mgC0 cI cL cZ cX cG ad (35) (Mm), mgC1 cI cL cZ cX cG ad (35) (Mm), mgC2 cI cL cZ cX cG ad (35) (Mm), mgC3 cI cL cZ cX cG ad (35) (Mm), l3C0 cI cL cZ ad (39) (vv), l3C0 cI cL cZ ad (40) (w8)]) rfl dX11_solve_249 ?_
                        exact g_return (pc := 252) hG ⟨w8, x249, sl_out k165 k215 hf2 ex249 (fun j hj => h8.1 j (by omega)) hw2 hd0, rfl, rfl⟩ dX11_solve_252
                      · refine g_aload_n (pc := 226) hG 0 rfl dX11_solve_226 ?_
                        refine g_get (pc := 227) hG fl11_47 0 rfl rfl dX11_solve_227 ?_
                        refine g_iload (pc := 230) hG 5 rfl dX11_solve_230 ?_
                        refine g_dup2_11 (pc := 232) hG rfl rfl dX11_solve_232 ?_
                        refine g_laload (pc := 233) hG 6 c8 rfl rfl (by omega) (by omega) (by decide) dX11_solve_233 ?_
                        have hwb := crS_b hn hs (show c8 < nn by omega)
                        rw [← hw2 c8 (by omega), ← h8.2 c8 (Nat.le_refl _)] at hwb
                        refine g_lload (pc := 234) hG 4 rfl dX11_solve_234 ?_
                        refine g_ldiv (pc := 236) hG (by omega) (by omega) (by omega) (by omega) dX11_solve_236 ?_
                        refine g_nmL (pc := 237) hG (fun x237 ex237 => ?_)
                        refine g_lastore (pc := 237) hG 6 c8 rfl rfl (by omega) (by omega) (by decide) (ws' := [mdoC0 cI cL cZ ad (0) (((m : Nat) : Int)) (((n : Nat) : Int)) (yy) (k) (detM Mm nn) (on) (tw) (bt) (bl) (bd) (na) (dt) (tl) (ul) (th) (uh) (hd) (cn), mgC0 cI cL cZ cX cG ad (35) (Mm), mgC1 cI cL cZ cX cG ad (35) (Mm), mgC2 cI cL cZ cX cG ad (35) (Mm), mgC3 cI cL cZ cX cG ad (35) (Mm), l3C0 cI cL cZ ad (39) (vv), l3C0 cI cL cZ ad (40) (upZ w8 c8 x237)]) rfl dX11_solve_237 ?_
                        refine g_iinc (pc := 238) hG 5 rfl (by decide) (lv' := [(8, iV ((((c8 : Nat) : Int)) + 1)), (0, .ref (ad (0))), (1, iV (((nn : Nat) : Int))), (2, lV (j165s0)), (4, lV (f)), (6, lV (j215s0))]) rfl dX11_solve_238 ?_
                        refine g_goto (pc := 241) hG (tgt := 220) (by decide) dX11_solve_241 ?_
                        exact g_lv (pc := 220) hG [1, 2, 3, 4, 5, 0] rfl (ih220 (c8 + 1) (upZ w8 c8 x237) (by omega) (by omega) (h8.step (hf2.s k215 (by omega)) ex237))
                  exact g_lv (pc := 220) hG [2, 3, 4, 5, 1, 0] rfl (L220 _ 0 w9 (Nat.lt_succ_self _) (Nat.zero_le _) (DvI.init))
                refine g_lc_ge (pc := 203) hG (by omega) (by omega) (tgt := 213) (by decide) dX11_solve_203 dX11_solve_204 (fun h203 => ?_) (fun h203 => ?_)
                · refine g_lload (pc := 213) hG 3 rfl dX11_solve_213 ?_
                  exact g_lv (pc := 215) hG [0, 1, 2, 3, 4] rfl (J215 f (Or.inl ⟨h203, rfl⟩))
                · refine g_lload (pc := 207) hG 3 rfl dX11_solve_207 ?_
                  refine g_lneg (pc := 209) hG dX11_solve_209 ?_
                  refine g_goto (pc := 210) hG (tgt := 215) (by decide) dX11_solve_210 ?_
                  exact g_lv (pc := 215) hG [0, 1, 2, 3, 4] rfl (J215 (-f) (Or.inr (⟨h203, rfl⟩)))
              · have hwb := crS_b hn hs (show c5 < nn by omega)
                rw [← hw2 c5 (by omega)] at hwb
                have hf1 := hf.1
                have hf3 := hf.2.1
                refine g_lload (pc := 178) hG 3 rfl dX11_solve_178 ?_
                refine g_aload_n (pc := 180) hG 0 rfl dX11_solve_180 ?_
                refine g_get (pc := 181) hG fl11_47 0 rfl rfl dX11_solve_181 ?_
                refine g_iload (pc := 184) hG 4 rfl dX11_solve_184 ?_
                refine g_laload (pc := 186) hG 6 c5 rfl rfl (by omega) (by omega) (by decide) dX11_solve_186 ?_
                refine g_callP (pc := 187) hG (As := [lV (f), lV (w9 c5)]) (rest := []) (c_X11_divisor (l := l) (D := D) (cI := cI) (cL := cL) (cZ := cZ) (cX := cX) (cG := cG) f (w9 c5) (by omega) (by omega)) cs11_85 ⟨rfl, rfl⟩ ⟨Nat.le_of_ble_eq_true rfl, Nat.le_of_ble_eq_true rfl⟩ rfl rfl (Nat.le_of_ble_eq_true rfl) dX11_solve_187 (fun v h => ?_)
                obtain ⟨rfl, -⟩ := h
                show G 190 [(0, .ref (ad (0))), (1, iV (((nn : Nat) : Int))), (2, lV (j165s0)), (4, lV (f)), (6, iV (((c5 : Nat) : Int)))] [lV (((Int.gcd f (w9 c5) : Nat) : Int))] ([mdoC0 cI cL cZ ad (0) (((m : Nat) : Int)) (((n : Nat) : Int)) (yy) (k) (detM Mm nn) (on) (tw) (bt) (bl) (bd) (na) (dt) (tl) (ul) (th) (uh) (hd) (cn), mgC0 cI cL cZ cX cG ad (35) (Mm), mgC1 cI cL cZ cX cG ad (35) (Mm), mgC2 cI cL cZ cX cG ad (35) (Mm), mgC3 cI cL cZ cX cG ad (35) (Mm), l3C0 cI cL cZ ad (39) (vv), l3C0 cI cL cZ ad (40) (w9)])
                refine g_lstore (pc := 190) hG (by decide) (lv' := [(4, lV (((Int.gcd f (w9 c5) : Nat) : Int))), (0, .ref (ad (0))), (1, iV (((nn : Nat) : Int))), (2, lV (j165s0)), (6, iV (((c5 : Nat) : Int)))]) rfl dX11_solve_190 ?_
                refine g_iinc (pc := 192) hG 4 rfl (by decide) (lv' := [(6, iV ((((c5 : Nat) : Int)) + 1)), (4, lV (((Int.gcd f (w9 c5) : Nat) : Int))), (0, .ref (ad (0))), (1, iV (((nn : Nat) : Int))), (2, lV (j165s0))]) rfl dX11_solve_192 ?_
                refine g_goto (pc := 195) hG (tgt := 172) (by decide) dX11_solve_195 ?_
                exact g_lv (pc := 172) hG [2, 3, 4, 1, 0] rfl (ih172 (c5 + 1) (((Int.gcd f (w9 c5) : Nat) : Int)) (by omega) (by omega) (hf.step))
          exact g_lv (pc := 172) hG [3, 4, 2, 1, 0] rfl (L172 _ 0 j165s0 (Nat.lt_succ_self _) (Nat.zero_le _) (GcI.init (by omega)))
        refine g_lc_ge (pc := 149) hG (by omega) (by omega) (tgt := 161) (by decide) dX11_solve_149 dX11_solve_150 (fun h149 => ?_) (fun h149 => ?_)
        · refine g_aload_n (pc := 161) hG 0 rfl dX11_solve_161 ?_
          refine g_get (pc := 162) hG fl11_116 0 rfl rfl dX11_solve_162 ?_
          exact g_lv (pc := 165) hG [0, 1, 2] rfl (J165 (detM Mm nn) (Or.inl ⟨h149, rfl⟩))
        · refine g_aload_n (pc := 153) hG 0 rfl dX11_solve_153 ?_
          refine g_get (pc := 154) hG fl11_116 0 rfl rfl dX11_solve_154 ?_
          refine g_lneg (pc := 157) hG dX11_solve_157 ?_
          refine g_goto (pc := 158) hG (tgt := 165) (by decide) dX11_solve_158 ?_
          exact g_lv (pc := 165) hG [0, 1, 2] rfl (J165 (-(detM Mm nn)) (Or.inr (⟨h149, rfl⟩)))
      · refine g_lconst (z := 0) (pc := 16) hG dX11_solve_16 (by decide) ?_
        refine g_lstore_n (pc := 17) hG (by decide) (lv' := [(3, lV (0)), (0, .ref (ad (0))), (1, iV (((nn : Nat) : Int))), (2, iV (((c : Nat) : Int)))]) rfl dX11_solve_17 ?_
        refine g_iconst (pc := 18) hG dX11_solve_18 ?_
        refine g_istore (pc := 19) hG (by decide) (lv' := [(5, iV (0)), (3, lV (0)), (0, .ref (ad (0))), (1, iV (((nn : Nat) : Int))), (2, iV (((c : Nat) : Int)))]) rfl dX11_solve_19 ?_
        have L21 : ∀ (fu21 : Nat) (r : Nat) (s : Int), nn - r < fu21 → (r ≤ nn) → (s = crS Mm vv nn c r) → G 21 [(0, .ref (ad (0))), (1, iV (((nn : Nat) : Int))), (2, iV (((c : Nat) : Int))), (3, lV (s)), (5, iV (((r : Nat) : Int)))] [] ([mdoC0 cI cL cZ ad (0) (((m : Nat) : Int)) (((n : Nat) : Int)) (yy) (k) (detM Mm nn) (on) (tw) (bt) (bl) (bd) (na) (dt) (tl) (ul) (th) (uh) (hd) (cn), mgC0 cI cL cZ cX cG ad (35) (Mm), mgC1 cI cL cZ cX cG ad (35) (Mm), mgC2 cI cL cZ cX cG ad (35) (Mm), mgC3 cI cL cZ cX cG ad (35) (Mm), l3C0 cI cL cZ ad (39) (vv), l3C0 cI cL cZ ad (40) (w9)]) := by
          intro fu21
          induction fu21 with
          | zero => intro r s hm; exact absurd hm (Nat.not_lt_zero _)
          | succ fu21 ih21 =>
            intro r s hm21 hr hs9
            refine g_iload (pc := 21) hG 4 rfl dX11_solve_21 ?_
            refine g_iload_n (pc := 23) hG 1 rfl dX11_solve_23 ?_
            refine g_icmp_ge (pc := 24) hG (by omega) (by omega) (tgt := 131) (by decide) dX11_solve_24 (fun h24 => ?_) (fun h24 => ?_)
            · refine g_aload_n (pc := 131) hG 0 rfl dX11_solve_131 ?_
              refine g_get (pc := 132) hG fl11_47 0 rfl rfl dX11_solve_132 ?_
              refine g_iload_n (pc := 135) hG 2 rfl dX11_solve_135 ?_
              refine g_lload_n (pc := 136) hG 3 rfl dX11_solve_136 ?_
              refine g_lastore (pc := 137) hG 6 c rfl rfl (by omega) (by omega) (by decide) (ws' := [mdoC0 cI cL cZ ad (0) (((m : Nat) : Int)) (((n : Nat) : Int)) (yy) (k) (detM Mm nn) (on) (tw) (bt) (bl) (bd) (na) (dt) (tl) (ul) (th) (uh) (hd) (cn), mgC0 cI cL cZ cX cG ad (35) (Mm), mgC1 cI cL cZ cX cG ad (35) (Mm), mgC2 cI cL cZ cX cG ad (35) (Mm), mgC3 cI cL cZ cX cG ad (35) (Mm), l3C0 cI cL cZ ad (39) (vv), l3C0 cI cL cZ ad (40) (upZ w9 c s)]) rfl dX11_solve_137 ?_
              refine g_iinc (pc := 138) hG 2 rfl (by decide) (lv' := [(2, iV ((((c : Nat) : Int)) + 1)), (0, .ref (ad (0))), (1, iV (((nn : Nat) : Int))), (3, lV (s)), (5, iV (((r : Nat) : Int)))]) rfl dX11_solve_138 ?_
              refine g_goto (pc := 141) hG (tgt := 11) (by decide) dX11_solve_141 ?_
              exact g_lv (pc := 11) hG [1, 2, 0] rfl (ih11 (c + 1) (upZ w9 c s) (by omega) (by omega) (fill_step (g := fun j => crS Mm vv nn j nn) hw (by rw [hs9, show r = nn by omega])))
            · refine g_iload_n (pc := 27) hG 1 rfl dX11_solve_27 ?_
              refine g_iconst (pc := 28) hG dX11_solve_28 ?_
              have J110 : ∀ (j110s0 : Int), (((¬ ((nn : Nat) : Int) = 1) ∧ (¬ ((nn : Nat) : Int) = 2) ∧ (¬ (((r + c) % 2 : Nat) : Int) = 0) ∧ j110s0 = -(minM Mm r c)) ∨ ((¬ ((nn : Nat) : Int) = 1) ∧ (¬ ((nn : Nat) : Int) = 2) ∧ ((((r + c) % 2 : Nat) : Int) = 0) ∧ j110s0 = minM Mm r c) ∨ ((¬ ((nn : Nat) : Int) = 1) ∧ (((nn : Nat) : Int) = 2) ∧ (¬ (((r + c) % 2 : Nat) : Int) = 0) ∧ j110s0 = -(Mm (1 - r) (1 - c))) ∨ ((¬ ((nn : Nat) : Int) = 1) ∧ (((nn : Nat) : Int) = 2) ∧ ((((r + c) % 2 : Nat) : Int) = 0) ∧ j110s0 = Mm (1 - r) (1 - c)) ∨ ((((nn : Nat) : Int) = 1) ∧ j110s0 = 1)) → G 110 [(0, .ref (ad (0))), (1, iV (((nn : Nat) : Int))), (2, iV (((c : Nat) : Int))), (3, lV (s)), (5, iV (((r : Nat) : Int)))] [lV (j110s0)] ([mdoC0 cI cL cZ ad (0) (((m : Nat) : Int)) (((n : Nat) : Int)) (yy) (k) (detM Mm nn) (on) (tw) (bt) (bl) (bd) (na) (dt) (tl) (ul) (th) (uh) (hd) (cn), mgC0 cI cL cZ cX cG ad (35) (Mm), mgC1 cI cL cZ cX cG ad (35) (Mm), mgC2 cI cL cZ cX cG ad (35) (Mm), mgC3 cI cL cZ cX cG ad (35) (Mm), l3C0 cI cL cZ ad (39) (vv), l3C0 cI cL cZ ad (40) (w9)]) := by
                intro j110s0 k110
                refine g_lstore (pc := 110) hG (by decide) (lv' := [(6, lV (j110s0)), (0, .ref (ad (0))), (1, iV (((nn : Nat) : Int))), (2, iV (((c : Nat) : Int))), (3, lV (s)), (5, iV (((r : Nat) : Int)))]) rfl dX11_solve_110 ?_
                refine g_lload_n (pc := 112) hG 4 rfl dX11_solve_112 ?_
                refine g_lload (pc := 113) hG 0 rfl dX11_solve_113 ?_
                refine g_aload_n (pc := 115) hG 1 rfl dX11_solve_115 ?_
                refine g_get (pc := 116) hG fl11_44 0 rfl rfl dX11_solve_116 ?_
                refine g_iload (pc := 119) hG 5 rfl dX11_solve_119 ?_
                refine g_laload (pc := 121) hG 5 r rfl rfl (by omega) (by omega) (by decide) dX11_solve_121 ?_
                refine g_lmul (pc := 122) hG dX11_solve_122 ?_
                refine g_ladd (pc := 123) hG dX11_solve_123 ?_
                refine g_nmL (pc := 124) hG (fun x124 ex124 => ?_)
                refine g_lstore_n (pc := 124) hG (by decide) (lv' := [(3, lV (x124)), (6, lV (j110s0)), (0, .ref (ad (0))), (1, iV (((nn : Nat) : Int))), (2, iV (((c : Nat) : Int))), (5, iV (((r : Nat) : Int)))]) rfl dX11_solve_124 ?_
                refine g_iinc (pc := 125) hG 5 rfl (by decide) (lv' := [(5, iV ((((r : Nat) : Int)) + 1)), (3, lV (x124)), (6, lV (j110s0)), (0, .ref (ad (0))), (1, iV (((nn : Nat) : Int))), (2, iV (((c : Nat) : Int)))]) rfl dX11_solve_125 ?_
                refine g_goto (pc := 128) hG (tgt := 21) (by decide) dX11_solve_128 ?_
                exact g_lv (pc := 21) hG [3, 4, 5, 1, 0] rfl (ih21 (r + 1) x124 (by omega) (by omega) (by rw [ex124, hs9, cof_j2 k110]; rfl))
              refine g_icmp_ne (pc := 29) hG (by omega) (by omega) (tgt := 36) (by decide) dX11_solve_29 (fun h29 => ?_) (fun h29 => ?_)
              · refine g_iload_n (pc := 36) hG 1 rfl dX11_solve_36 ?_
                refine g_iconst (pc := 37) hG dX11_solve_37 ?_
                refine g_icmp_ne (pc := 38) hG (by omega) (by omega) (tgt := 83) (by decide) dX11_solve_38 (fun h38 => ?_) (fun h38 => ?_)
                · refine g_iload (pc := 83) hG 4 rfl dX11_solve_83 ?_
                  refine g_iload_n (pc := 85) hG 2 rfl dX11_solve_85 ?_
                  refine g_iadd (pc := 86) hG dX11_solve_86 ?_
                  refine g_iconst (pc := 87) hG dX11_solve_87 ?_
                  refine g_iand (z := (((r + c) % 2 : Nat) : Int)) (pc := 88) hG (by exact and_1i (by omega) (by omega)) dX11_solve_88 ?_
                  refine g_if_ne (pc := 89) hG (by omega) (tgt := 102) (by decide) dX11_solve_89 (fun h89 => ?_) (fun h89 => ?_)
                  · refine g_aload_n (pc := 102) hG 0 rfl dX11_solve_102 ?_
                    refine g_iload (pc := 103) hG 4 rfl dX11_solve_103 ?_
                    refine g_iload_n (pc := 105) hG 2 rfl dX11_solve_105 ?_
                    refine g_callV (pc := 106) hG (As := [iV (((r : Nat) : Int)), iV (((c : Nat) : Int))]) (rest := []) (c_X11_minor (l := l) (D := D) (cI := cI) (cL := cL) (cZ := cZ) (cX := cX) (cG := cG) ad m n yy k (detM Mm nn) on tw bt bl bd na dt tl ul th uh hd cn Mm r c (by omega) (by omega)) (Sp.mg [true, true, true, true, true] rfl) cv11_108 ⟨rfl, rfl⟩ ⟨Nat.le_of_ble_eq_true rfl, Nat.le_of_ble_eq_true rfl⟩ 0 rfl rfl rfl rfl (Nat.le_of_ble_eq_true rfl) dX11_solve_106 (fun v w1 h => ?_)
                    obtain ⟨rfl, rfl⟩ := h
                    show G 109 [(0, .ref (ad (0))), (1, iV (((nn : Nat) : Int))), (2, iV (((c : Nat) : Int))), (3, lV (s)), (5, iV (((r : Nat) : Int)))] [lV (minM Mm r c)] ([mdoC0 cI cL cZ ad (0) (((m : Nat) : Int)) (((n : Nat) : Int)) (yy) (k) (detM Mm nn) (on) (tw) (bt) (bl) (bd) (na) (dt) (tl) (ul) (th) (uh) (hd) (cn), mgC0 cI cL cZ cX cG ad (35) (Mm), mgC1 cI cL cZ cX cG ad (35) (Mm), mgC2 cI cL cZ cX cG ad (35) (Mm), mgC3 cI cL cZ cX cG ad (35) (Mm), l3C0 cI cL cZ ad (39) (vv), l3C0 cI cL cZ ad (40) (w9)])
                    refine g_lneg (pc := 109) hG dX11_solve_109 ?_
                    exact g_lv (pc := 110) hG [0, 1, 2, 3, 4] rfl (J110 (-(minM Mm r c)) (Or.inl ⟨h29, h38, h89, rfl⟩))
                  · refine g_aload_n (pc := 92) hG 0 rfl dX11_solve_92 ?_
                    refine g_iload (pc := 93) hG 4 rfl dX11_solve_93 ?_
                    refine g_iload_n (pc := 95) hG 2 rfl dX11_solve_95 ?_
                    refine g_callV (pc := 96) hG (As := [iV (((r : Nat) : Int)), iV (((c : Nat) : Int))]) (rest := []) (c_X11_minor (l := l) (D := D) (cI := cI) (cL := cL) (cZ := cZ) (cX := cX) (cG := cG) ad m n yy k (detM Mm nn) on tw bt bl bd na dt tl ul th uh hd cn Mm r c (by omega) (by omega)) (Sp.mg [true, true, true, true, true] rfl) cv11_108 ⟨rfl, rfl⟩ ⟨Nat.le_of_ble_eq_true rfl, Nat.le_of_ble_eq_true rfl⟩ 0 rfl rfl rfl rfl (Nat.le_of_ble_eq_true rfl) dX11_solve_96 (fun v w1 h => ?_)
                    obtain ⟨rfl, rfl⟩ := h
                    show G 99 [(0, .ref (ad (0))), (1, iV (((nn : Nat) : Int))), (2, iV (((c : Nat) : Int))), (3, lV (s)), (5, iV (((r : Nat) : Int)))] [lV (minM Mm r c)] ([mdoC0 cI cL cZ ad (0) (((m : Nat) : Int)) (((n : Nat) : Int)) (yy) (k) (detM Mm nn) (on) (tw) (bt) (bl) (bd) (na) (dt) (tl) (ul) (th) (uh) (hd) (cn), mgC0 cI cL cZ cX cG ad (35) (Mm), mgC1 cI cL cZ cX cG ad (35) (Mm), mgC2 cI cL cZ cX cG ad (35) (Mm), mgC3 cI cL cZ cX cG ad (35) (Mm), l3C0 cI cL cZ ad (39) (vv), l3C0 cI cL cZ ad (40) (w9)])
                    refine g_goto (pc := 99) hG (tgt := 110) (by decide) dX11_solve_99 ?_
                    exact g_lv (pc := 110) hG [0, 1, 2, 3, 4] rfl (J110 (minM Mm r c) (Or.inr (Or.inl ⟨h29, h38, h89, rfl⟩)))
                · refine g_iload (pc := 41) hG 4 rfl dX11_solve_41 ?_
                  refine g_iload_n (pc := 43) hG 2 rfl dX11_solve_43 ?_
                  refine g_iadd (pc := 44) hG dX11_solve_44 ?_
                  refine g_iconst (pc := 45) hG dX11_solve_45 ?_
                  refine g_iand (z := (((r + c) % 2 : Nat) : Int)) (pc := 46) hG (by exact and_1i (by omega) (by omega)) dX11_solve_46 ?_
                  refine g_if_ne (pc := 47) hG (by omega) (tgt := 66) (by decide) dX11_solve_47 (fun h47 => ?_) (fun h47 => ?_)
                  · refine g_aload_n (pc := 66) hG 0 rfl dX11_solve_66 ?_
                    refine g_get (pc := 67) hG fl11_41 0 rfl rfl dX11_solve_67 ?_
                    refine g_iconst (pc := 70) hG dX11_solve_70 ?_
                    refine g_iload (pc := 71) hG 4 rfl dX11_solve_71 ?_
                    refine g_isub (pc := 73) hG dX11_solve_73 ?_
                    refine g_aaload (pc := 74) hG 1 4 (1 - r) rfl rfl (by omega) (by omega) (by decide) dX11_solve_74 ?_
                    refine g_iconst (pc := 75) hG dX11_solve_75 ?_
                    refine g_iload_n (pc := 76) hG 2 rfl dX11_solve_76 ?_
                    refine g_isub (pc := 77) hG dX11_solve_77 ?_
                    refine g_laload (pc := 78) hG (2 + (1 - r)) (1 - c) (rw_at [mdoC0 cI cL cZ ad (0) (((m : Nat) : Int)) (((n : Nat) : Int)) (yy) (k) (detM Mm nn) (on) (tw) (bt) (bl) (bd) (na) (dt) (tl) (ul) (th) (uh) (hd) (cn), mgC0 cI cL cZ cX cG ad (35) (Mm)] _ 3 (fun i9 => (ad (36 + i9), aL cL 3 (Mm i9))) (by omega)) rfl (by omega) (by omega) (by decide) dX11_solve_78 ?_
                    refine g_lneg (pc := 79) hG dX11_solve_79 ?_
                    refine g_goto (pc := 80) hG (tgt := 110) (by decide) dX11_solve_80 ?_
                    exact g_lv (pc := 110) hG [0, 1, 2, 3, 4] rfl (J110 (-(Mm (1 - r) (1 - c))) (Or.inr (Or.inr (Or.inl ⟨h29, h38, h47, rfl⟩))))
                  · refine g_aload_n (pc := 50) hG 0 rfl dX11_solve_50 ?_
                    refine g_get (pc := 51) hG fl11_41 0 rfl rfl dX11_solve_51 ?_
                    refine g_iconst (pc := 54) hG dX11_solve_54 ?_
                    refine g_iload (pc := 55) hG 4 rfl dX11_solve_55 ?_
                    refine g_isub (pc := 57) hG dX11_solve_57 ?_
                    refine g_aaload (pc := 58) hG 1 4 (1 - r) rfl rfl (by omega) (by omega) (by decide) dX11_solve_58 ?_
                    refine g_iconst (pc := 59) hG dX11_solve_59 ?_
                    refine g_iload_n (pc := 60) hG 2 rfl dX11_solve_60 ?_
                    refine g_isub (pc := 61) hG dX11_solve_61 ?_
                    refine g_laload (pc := 62) hG (2 + (1 - r)) (1 - c) (rw_at [mdoC0 cI cL cZ ad (0) (((m : Nat) : Int)) (((n : Nat) : Int)) (yy) (k) (detM Mm nn) (on) (tw) (bt) (bl) (bd) (na) (dt) (tl) (ul) (th) (uh) (hd) (cn), mgC0 cI cL cZ cX cG ad (35) (Mm)] _ 3 (fun i9 => (ad (36 + i9), aL cL 3 (Mm i9))) (by omega)) rfl (by omega) (by omega) (by decide) dX11_solve_62 ?_
                    refine g_goto (pc := 63) hG (tgt := 110) (by decide) dX11_solve_63 ?_
                    exact g_lv (pc := 110) hG [0, 1, 2, 3, 4] rfl (J110 (Mm (1 - r) (1 - c)) (Or.inr (Or.inr (Or.inr (Or.inl ⟨h29, h38, h47, rfl⟩)))))
              · refine g_lconst (z := 1) (pc := 32) hG dX11_solve_32 (by decide) ?_
                refine g_goto (pc := 33) hG (tgt := 110) (by decide) dX11_solve_33 ?_
                exact g_lv (pc := 110) hG [0, 1, 2, 3, 4] rfl (J110 1 (Or.inr (Or.inr (Or.inr (Or.inr (⟨h29, rfl⟩))))))
        exact g_lv (pc := 21) hG [2, 3, 4, 1, 0] rfl (L21 _ 0 0 (Nat.lt_succ_self _) (Nat.zero_le _) (rfl))
  exact g_lv (pc := 11) hG [1, 2, 0] rfl (L11 _ 0 ww (Nat.lt_succ_self _) (Nat.zero_le _) (fun j h => absurd h (Nat.not_lt_zero _)))
set_option maxHeartbeats 4000000 in
set_option maxRecDepth 100000 in
theorem c_X11_copy {l : Launch} {D : va_G} {cI cL cZ cX cG : ClassId} (ad : Nat → Nat) (m : Nat) (n : Nat) (yy : Int) (k : Int) (dn : Int) (on : Int) (tw : Int) (bt : Int) (bl : Int) (bd : Int) (na : Int) (dt : Int) (tl : Int) (ul : Int) (th : Int) (uh : Int) (hd : Bool) (cn : Int) (Gm : Nat → Nat → Int) (Mm : Nat → Nat → Int) (nn : Nat) (hn : nn ≤ 3) : Ct l D (gT cI cL cZ cX cG) yX11_copy cX11_copy 4 none ({ frames := 0, cells := 0, slots := 0, locals := 0 }) [.ref (ad (0)), iV (((nn : Nat) : Int))] ([mdoC0 cI cL cZ ad (0) (((m : Nat) : Int)) (((n : Nat) : Int)) (yy) (k) (dn) (on) (tw) (bt) (bl) (bd) (na) (dt) (tl) (ul) (th) (uh) (hd) (cn), mgC0 cI cL cZ cX cG ad (29) (Gm), mgC1 cI cL cZ cX cG ad (29) (Gm), mgC2 cI cL cZ cX cG ad (29) (Gm), mgC3 cI cL cZ cX cG ad (29) (Gm), mgC0 cI cL cZ cX cG ad (35) (Mm), mgC1 cI cL cZ cX cG ad (35) (Mm), mgC2 cI cL cZ cX cG ad (35) (Mm), mgC3 cI cL cZ cX cG ad (35) (Mm)]) (fun vv_ ww_ => ∃ (M2 : Nat → Nat → Int), (∀ a b, a < nn → b < nn → M2 a b = Gm a b) ∧ vv_ = none ∧ ww_ = [mdoC0 cI cL cZ ad (0) (((m : Nat) : Int)) (((n : Nat) : Int)) (yy) (k) (dn) (on) (tw) (bt) (bl) (bd) (na) (dt) (tl) (ul) (th) (uh) (hd) (cn), mgC0 cI cL cZ cX cG ad (29) (Gm), mgC1 cI cL cZ cX cG ad (29) (Gm), mgC2 cI cL cZ cX cG ad (29) (Gm), mgC3 cI cL cZ cX cG ad (29) (Gm), mgC0 cI cL cZ cX cG ad (35) (M2), mgC1 cI cL cZ cX cG ad (35) (M2), mgC2 cI cL cZ cX cG ad (35) (M2), mgC3 cI cL cZ cX cG ad (35) (M2)]) := by
  refine Ct.of (by decide) (Nat.le_of_ble_eq_true rfl) (fun G hG => ?_)
  show G 0 [(0, .ref (ad (0))), (1, iV (((nn : Nat) : Int)))] [] ([mdoC0 cI cL cZ ad (0) (((m : Nat) : Int)) (((n : Nat) : Int)) (yy) (k) (dn) (on) (tw) (bt) (bl) (bd) (na) (dt) (tl) (ul) (th) (uh) (hd) (cn), mgC0 cI cL cZ cX cG ad (29) (Gm), mgC1 cI cL cZ cX cG ad (29) (Gm), mgC2 cI cL cZ cX cG ad (29) (Gm), mgC3 cI cL cZ cX cG ad (29) (Gm), mgC0 cI cL cZ cX cG ad (35) (Mm), mgC1 cI cL cZ cX cG ad (35) (Mm), mgC2 cI cL cZ cX cG ad (35) (Mm), mgC3 cI cL cZ cX cG ad (35) (Mm)])
  refine g_iconst (pc := 0) hG dX11_copy_0 ?_
  refine g_istore_n (pc := 1) hG (by decide) (lv' := [(2, iV (0)), (0, .ref (ad (0))), (1, iV (((nn : Nat) : Int)))]) rfl dX11_copy_1 ?_
  have L2 : ∀ (fu2 : Nat) (i : Nat) (M9 : Nat → Nat → Int), nn - i < fu2 → (i ≤ nn) → (∀ a b, a < nn → b < nn → (a < i ∨ (a = i ∧ b < 0)) → M9 a b = Gm a b) → G 2 [(0, .ref (ad (0))), (1, iV (((nn : Nat) : Int))), (2, iV (((i : Nat) : Int)))] [] ([mdoC0 cI cL cZ ad (0) (((m : Nat) : Int)) (((n : Nat) : Int)) (yy) (k) (dn) (on) (tw) (bt) (bl) (bd) (na) (dt) (tl) (ul) (th) (uh) (hd) (cn), mgC0 cI cL cZ cX cG ad (29) (Gm), mgC1 cI cL cZ cX cG ad (29) (Gm), mgC2 cI cL cZ cX cG ad (29) (Gm), mgC3 cI cL cZ cX cG ad (29) (Gm), mgC0 cI cL cZ cX cG ad (35) (M9), mgC1 cI cL cZ cX cG ad (35) (M9), mgC2 cI cL cZ cX cG ad (35) (M9), mgC3 cI cL cZ cX cG ad (35) (M9)]) := by
    intro fu2
    induction fu2 with
    | zero => intro i M9 hm; exact absurd hm (Nat.not_lt_zero _)
    | succ fu2 ih2 =>
      intro i M9 hm2 hi h9
      refine g_iload_n (pc := 2) hG 2 rfl dX11_copy_2 ?_
      refine g_iload_n (pc := 3) hG 1 rfl dX11_copy_3 ?_
      refine g_icmp_ge (pc := 4) hG (by omega) (by omega) (tgt := 42) (by decide) dX11_copy_4 (fun h4 => ?_) (fun h4 => ?_)
      · exact g_return (pc := 42) hG ⟨M9, fun a b ha hb => h9 a b ha hb (by omega), rfl, rfl⟩ dX11_copy_42
      · refine g_iconst (pc := 7) hG dX11_copy_7 ?_
        refine g_istore_n (pc := 8) hG (by decide) (lv' := [(3, iV (0)), (0, .ref (ad (0))), (1, iV (((nn : Nat) : Int))), (2, iV (((i : Nat) : Int)))]) rfl dX11_copy_8 ?_
        have L9 : ∀ (fu9 : Nat) (j : Nat) (M8 : Nat → Nat → Int), nn - j < fu9 → (j ≤ nn) → (∀ a b, a < nn → b < nn → (a < i ∨ (a = i ∧ b < j)) → M8 a b = Gm a b) → G 9 [(0, .ref (ad (0))), (1, iV (((nn : Nat) : Int))), (2, iV (((i : Nat) : Int))), (3, iV (((j : Nat) : Int)))] [] ([mdoC0 cI cL cZ ad (0) (((m : Nat) : Int)) (((n : Nat) : Int)) (yy) (k) (dn) (on) (tw) (bt) (bl) (bd) (na) (dt) (tl) (ul) (th) (uh) (hd) (cn), mgC0 cI cL cZ cX cG ad (29) (Gm), mgC1 cI cL cZ cX cG ad (29) (Gm), mgC2 cI cL cZ cX cG ad (29) (Gm), mgC3 cI cL cZ cX cG ad (29) (Gm), mgC0 cI cL cZ cX cG ad (35) (M8), mgC1 cI cL cZ cX cG ad (35) (M8), mgC2 cI cL cZ cX cG ad (35) (M8), mgC3 cI cL cZ cX cG ad (35) (M8)]) := by
          intro fu9
          induction fu9 with
          | zero => intro j M8 hm; exact absurd hm (Nat.not_lt_zero _)
          | succ fu9 ih9 =>
            intro j M8 hm9 hj h8
            refine g_iload_n (pc := 9) hG 3 rfl dX11_copy_9 ?_
            refine g_iload_n (pc := 10) hG 1 rfl dX11_copy_10 ?_
            refine g_icmp_ge (pc := 11) hG (by omega) (by omega) (tgt := 36) (by decide) dX11_copy_11 (fun h11 => ?_) (fun h11 => ?_)
            · refine g_iinc (pc := 36) hG 2 rfl (by decide) (lv' := [(2, iV ((((i : Nat) : Int)) + 1)), (0, .ref (ad (0))), (1, iV (((nn : Nat) : Int))), (3, iV (((j : Nat) : Int)))]) rfl dX11_copy_36 ?_
              refine g_goto (pc := 39) hG (tgt := 2) (by decide) dX11_copy_39 ?_
              exact g_lv (pc := 2) hG [1, 2, 0] rfl (ih2 (i + 1) M8 (by omega) (by omega) (fun a b ha hb h => h8 a b ha hb (by omega)))
            · refine g_aload_n (pc := 14) hG 0 rfl dX11_copy_14 ?_
              refine g_get (pc := 15) hG fl11_41 0 rfl rfl dX11_copy_15 ?_
              refine g_iload_n (pc := 18) hG 2 rfl dX11_copy_18 ?_
              refine g_aaload (pc := 19) hG 5 4 i rfl rfl (by omega) (by omega) (by decide) dX11_copy_19 ?_
              refine g_iload_n (pc := 20) hG 3 rfl dX11_copy_20 ?_
              refine g_aload_n (pc := 21) hG 0 rfl dX11_copy_21 ?_
              refine g_get (pc := 22) hG fl11_31 0 rfl rfl dX11_copy_22 ?_
              refine g_iload_n (pc := 25) hG 2 rfl dX11_copy_25 ?_
              refine g_aaload (pc := 26) hG 1 4 i rfl rfl (by omega) (by omega) (by decide) dX11_copy_26 ?_
              refine g_iload_n (pc := 27) hG 3 rfl dX11_copy_27 ?_
              refine g_laload (pc := 28) hG (2 + i) j (rw_at [mdoC0 cI cL cZ ad (0) (((m : Nat) : Int)) (((n : Nat) : Int)) (yy) (k) (dn) (on) (tw) (bt) (bl) (bd) (na) (dt) (tl) (ul) (th) (uh) (hd) (cn), mgC0 cI cL cZ cX cG ad (29) (Gm)] _ 3 (fun i9 => (ad (30 + i9), aL cL 3 (Gm i9))) (by omega)) rfl (by omega) (by omega) (by decide) dX11_copy_28 ?_
              refine g_nmL (pc := 29) hG (fun x29 ex29 => ?_)
              refine g_lastore (pc := 29) hG (6 + i) j (rw_at [mdoC0 cI cL cZ ad (0) (((m : Nat) : Int)) (((n : Nat) : Int)) (yy) (k) (dn) (on) (tw) (bt) (bl) (bd) (na) (dt) (tl) (ul) (th) (uh) (hd) (cn), mgC0 cI cL cZ cX cG ad (29) (Gm), mgC1 cI cL cZ cX cG ad (29) (Gm), mgC2 cI cL cZ cX cG ad (29) (Gm), mgC3 cI cL cZ cX cG ad (29) (Gm), mgC0 cI cL cZ cX cG ad (35) (M8)] _ 3 (fun i9 => (ad (36 + i9), aL cL 3 (M8 i9))) (by omega)) rfl (by omega) (by omega) (by decide) (ws' := [mdoC0 cI cL cZ ad (0) (((m : Nat) : Int)) (((n : Nat) : Int)) (yy) (k) (dn) (on) (tw) (bt) (bl) (bd) (na) (dt) (tl) (ul) (th) (uh) (hd) (cn), mgC0 cI cL cZ cX cG ad (29) (Gm), mgC1 cI cL cZ cX cG ad (29) (Gm), mgC2 cI cL cZ cX cG ad (29) (Gm), mgC3 cI cL cZ cX cG ad (29) (Gm), mgC0 cI cL cZ cX cG ad (35) (up2 M8 i j x29), mgC1 cI cL cZ cX cG ad (35) (up2 M8 i j x29), mgC2 cI cL cZ cX cG ad (35) (up2 M8 i j x29), mgC3 cI cL cZ cX cG ad (35) (up2 M8 i j x29)]) (rw_setL [mdoC0 cI cL cZ ad (0) (((m : Nat) : Int)) (((n : Nat) : Int)) (yy) (k) (dn) (on) (tw) (bt) (bl) (bd) (na) (dt) (tl) (ul) (th) (uh) (hd) (cn), mgC0 cI cL cZ cX cG ad (29) (Gm), mgC1 cI cL cZ cX cG ad (29) (Gm), mgC2 cI cL cZ cX cG ad (29) (Gm), mgC3 cI cL cZ cX cG ad (29) (Gm), mgC0 cI cL cZ cX cG ad (35) (M8)] _ (X := M8) (n := 3) (k := i) (by omega)) dX11_copy_29 ?_
              refine g_iinc (pc := 30) hG 3 rfl (by decide) (lv' := [(3, iV ((((j : Nat) : Int)) + 1)), (0, .ref (ad (0))), (1, iV (((nn : Nat) : Int))), (2, iV (((i : Nat) : Int)))]) rfl dX11_copy_30 ?_
              refine g_goto (pc := 33) hG (tgt := 9) (by decide) dX11_copy_33 ?_
              exact g_lv (pc := 9) hG [1, 2, 3, 0] rfl (ih9 (j + 1) (up2 M8 i j x29) (by omega) (by omega) (by rw [ex29]; exact cpm_step h8))
        exact g_lv (pc := 9) hG [1, 2, 3, 0] rfl (L9 _ 0 M9 (Nat.lt_succ_self _) (Nat.zero_le _) (h9))
  exact g_lv (pc := 2) hG [1, 2, 0] rfl (L2 _ 0 Mm (Nat.lt_succ_self _) (Nat.zero_le _) (fun a b _ _ h => by omega))
set_option maxHeartbeats 4000000 in
set_option maxRecDepth 100000 in
theorem c_X11_cross {l : Launch} {D : va_G} {cI cL cZ cX cG : ClassId} (ad : Nat → Nat) (m : Nat) (n : Nat) (yy : Int) (k : Int) (dn : Int) (on : Int) (tw : Int) (bt : Int) (bl : Int) (bd : Int) (na : Int) (dt : Int) (tl : Int) (ul : Int) (th : Int) (uh : Int) (hd : Bool) (cn : Int) (Gm : Nat → Nat → Int) (nr : Nat → Int) (p : Nat) (q : Nat) (hp : p < 3 ∧ q < 3) (hb : ∀ c, c < 3 → (-1944 ≤ Gm p c ∧ Gm p c ≤ 1944) ∧ (-1944 ≤ Gm q c ∧ Gm q c ≤ 1944)) : Ct l D (gT cI cL cZ cX cG) yX11_cross cX11_cross 6 none ({ frames := 1, cells := 0, slots := 0, locals := 29 }) [.ref (ad (0)), iV (((p : Nat) : Int)), iV (((q : Nat) : Int))] ([mdoC0 cI cL cZ ad (0) (((m : Nat) : Int)) (((n : Nat) : Int)) (yy) (k) (dn) (on) (tw) (bt) (bl) (bd) (na) (dt) (tl) (ul) (th) (uh) (hd) (cn), mgC0 cI cL cZ cX cG ad (29) (Gm), mgC1 cI cL cZ cX cG ad (29) (Gm), mgC2 cI cL cZ cX cG ad (29) (Gm), mgC3 cI cL cZ cX cG ad (29) (Gm), l3C0 cI cL cZ ad (41) (nr)]) (fun vv_ ww_ => ∃ (n2 : Nat → Int), (CrR Gm p q n2) ∧ vv_ = none ∧ ww_ = [mdoC0 cI cL cZ ad (0) (((m : Nat) : Int)) (((n : Nat) : Int)) (yy) (k) (dn) (((p : Nat) : Int)) (((q : Nat) : Int)) (bt) (bl) (bd) (na) (dt) (tl) (ul) (th) (uh) (hd) (cn), mgC0 cI cL cZ cX cG ad (29) (Gm), mgC1 cI cL cZ cX cG ad (29) (Gm), mgC2 cI cL cZ cX cG ad (29) (Gm), mgC3 cI cL cZ cX cG ad (29) (Gm), l3C0 cI cL cZ ad (41) (n2)]) := by
  refine Ct.of (by decide) (Nat.le_of_ble_eq_true rfl) (fun G hG => ?_)
  show G 0 [(0, .ref (ad (0))), (1, iV (((p : Nat) : Int))), (2, iV (((q : Nat) : Int)))] [] ([mdoC0 cI cL cZ ad (0) (((m : Nat) : Int)) (((n : Nat) : Int)) (yy) (k) (dn) (on) (tw) (bt) (bl) (bd) (na) (dt) (tl) (ul) (th) (uh) (hd) (cn), mgC0 cI cL cZ cX cG ad (29) (Gm), mgC1 cI cL cZ cX cG ad (29) (Gm), mgC2 cI cL cZ cX cG ad (29) (Gm), mgC3 cI cL cZ cX cG ad (29) (Gm), l3C0 cI cL cZ ad (41) (nr)])
  refine g_aload_n (pc := 0) hG 0 rfl dX11_cross_0 ?_
  refine g_iload_n (pc := 1) hG 1 rfl dX11_cross_1 ?_
  refine g_put (pc := 2) hG fp11_126 0 rfl rfl rfl (Nat.le_of_ble_eq_true rfl) (ws' := [mdoC0 cI cL cZ ad (0) (((m : Nat) : Int)) (((n : Nat) : Int)) (yy) (k) (dn) (((p : Nat) : Int)) (tw) (bt) (bl) (bd) (na) (dt) (tl) (ul) (th) (uh) (hd) (cn), mgC0 cI cL cZ cX cG ad (29) (Gm), mgC1 cI cL cZ cX cG ad (29) (Gm), mgC2 cI cL cZ cX cG ad (29) (Gm), mgC3 cI cL cZ cX cG ad (29) (Gm), l3C0 cI cL cZ ad (41) (nr)]) rfl dX11_cross_2 ?_
  refine g_aload_n (pc := 5) hG 0 rfl dX11_cross_5 ?_
  refine g_iload_n (pc := 6) hG 2 rfl dX11_cross_6 ?_
  refine g_put (pc := 7) hG fp11_129 0 rfl rfl rfl (Nat.le_of_ble_eq_true rfl) (ws' := [mdoC0 cI cL cZ ad (0) (((m : Nat) : Int)) (((n : Nat) : Int)) (yy) (k) (dn) (((p : Nat) : Int)) (((q : Nat) : Int)) (bt) (bl) (bd) (na) (dt) (tl) (ul) (th) (uh) (hd) (cn), mgC0 cI cL cZ cX cG ad (29) (Gm), mgC1 cI cL cZ cX cG ad (29) (Gm), mgC2 cI cL cZ cX cG ad (29) (Gm), mgC3 cI cL cZ cX cG ad (29) (Gm), l3C0 cI cL cZ ad (41) (nr)]) rfl dX11_cross_7 ?_
  refine g_aload_n (pc := 10) hG 0 rfl dX11_cross_10 ?_
  refine g_get (pc := 11) hG fl11_50 0 rfl rfl dX11_cross_11 ?_
  refine g_iconst (pc := 14) hG dX11_cross_14 ?_
  refine g_aload_n (pc := 15) hG 0 rfl dX11_cross_15 ?_
  refine g_get (pc := 16) hG fl11_31 0 rfl rfl dX11_cross_16 ?_
  refine g_iload_n (pc := 19) hG 1 rfl dX11_cross_19 ?_
  refine g_aaload (pc := 20) hG 1 4 p rfl rfl (by omega) (by omega) (by decide) dX11_cross_20 ?_
  refine g_iconst (pc := 21) hG dX11_cross_21 ?_
  refine g_laload (pc := 22) hG (2 + p) 1 (rw_at [mdoC0 cI cL cZ ad (0) (((m : Nat) : Int)) (((n : Nat) : Int)) (yy) (k) (dn) (((p : Nat) : Int)) (((q : Nat) : Int)) (bt) (bl) (bd) (na) (dt) (tl) (ul) (th) (uh) (hd) (cn), mgC0 cI cL cZ cX cG ad (29) (Gm)] _ 3 (fun i9 => (ad (30 + i9), aL cL 3 (Gm i9))) (by omega)) rfl (by omega) (by omega) (by decide) dX11_cross_22 ?_
  refine g_aload_n (pc := 23) hG 0 rfl dX11_cross_23 ?_
  refine g_get (pc := 24) hG fl11_31 0 rfl rfl dX11_cross_24 ?_
  refine g_iload_n (pc := 27) hG 2 rfl dX11_cross_27 ?_
  refine g_aaload (pc := 28) hG 1 4 q rfl rfl (by omega) (by omega) (by decide) dX11_cross_28 ?_
  refine g_iconst (pc := 29) hG dX11_cross_29 ?_
  refine g_laload (pc := 30) hG (2 + q) 2 (rw_at [mdoC0 cI cL cZ ad (0) (((m : Nat) : Int)) (((n : Nat) : Int)) (yy) (k) (dn) (((p : Nat) : Int)) (((q : Nat) : Int)) (bt) (bl) (bd) (na) (dt) (tl) (ul) (th) (uh) (hd) (cn), mgC0 cI cL cZ cX cG ad (29) (Gm)] _ 3 (fun i9 => (ad (30 + i9), aL cL 3 (Gm i9))) (by omega)) rfl (by omega) (by omega) (by decide) dX11_cross_30 ?_
  refine g_lmul (pc := 31) hG dX11_cross_31 ?_
  refine g_aload_n (pc := 32) hG 0 rfl dX11_cross_32 ?_
  refine g_get (pc := 33) hG fl11_31 0 rfl rfl dX11_cross_33 ?_
  refine g_iload_n (pc := 36) hG 1 rfl dX11_cross_36 ?_
  refine g_aaload (pc := 37) hG 1 4 p rfl rfl (by omega) (by omega) (by decide) dX11_cross_37 ?_
  refine g_iconst (pc := 38) hG dX11_cross_38 ?_
  refine g_laload (pc := 39) hG (2 + p) 2 (rw_at [mdoC0 cI cL cZ ad (0) (((m : Nat) : Int)) (((n : Nat) : Int)) (yy) (k) (dn) (((p : Nat) : Int)) (((q : Nat) : Int)) (bt) (bl) (bd) (na) (dt) (tl) (ul) (th) (uh) (hd) (cn), mgC0 cI cL cZ cX cG ad (29) (Gm)] _ 3 (fun i9 => (ad (30 + i9), aL cL 3 (Gm i9))) (by omega)) rfl (by omega) (by omega) (by decide) dX11_cross_39 ?_
  refine g_aload_n (pc := 40) hG 0 rfl dX11_cross_40 ?_
  refine g_get (pc := 41) hG fl11_31 0 rfl rfl dX11_cross_41 ?_
  refine g_iload_n (pc := 44) hG 2 rfl dX11_cross_44 ?_
  refine g_aaload (pc := 45) hG 1 4 q rfl rfl (by omega) (by omega) (by decide) dX11_cross_45 ?_
  refine g_iconst (pc := 46) hG dX11_cross_46 ?_
  refine g_laload (pc := 47) hG (2 + q) 1 (rw_at [mdoC0 cI cL cZ ad (0) (((m : Nat) : Int)) (((n : Nat) : Int)) (yy) (k) (dn) (((p : Nat) : Int)) (((q : Nat) : Int)) (bt) (bl) (bd) (na) (dt) (tl) (ul) (th) (uh) (hd) (cn), mgC0 cI cL cZ cX cG ad (29) (Gm)] _ 3 (fun i9 => (ad (30 + i9), aL cL 3 (Gm i9))) (by omega)) rfl (by omega) (by omega) (by decide) dX11_cross_47 ?_
  refine g_lmul (pc := 48) hG dX11_cross_48 ?_
  refine g_lsub (pc := 49) hG dX11_cross_49 ?_
  refine g_nmL (pc := 50) hG (fun x50 ex50 => ?_)
  refine g_lastore (pc := 50) hG 5 0 rfl rfl (by omega) (by omega) (by decide) (ws' := [mdoC0 cI cL cZ ad (0) (((m : Nat) : Int)) (((n : Nat) : Int)) (yy) (k) (dn) (((p : Nat) : Int)) (((q : Nat) : Int)) (bt) (bl) (bd) (na) (dt) (tl) (ul) (th) (uh) (hd) (cn), mgC0 cI cL cZ cX cG ad (29) (Gm), mgC1 cI cL cZ cX cG ad (29) (Gm), mgC2 cI cL cZ cX cG ad (29) (Gm), mgC3 cI cL cZ cX cG ad (29) (Gm), l3C0 cI cL cZ ad (41) (upZ nr 0 x50)]) rfl dX11_cross_50 ?_
  refine g_aload_n (pc := 51) hG 0 rfl dX11_cross_51 ?_
  refine g_get (pc := 52) hG fl11_50 0 rfl rfl dX11_cross_52 ?_
  refine g_iconst (pc := 55) hG dX11_cross_55 ?_
  refine g_aload_n (pc := 56) hG 0 rfl dX11_cross_56 ?_
  refine g_get (pc := 57) hG fl11_31 0 rfl rfl dX11_cross_57 ?_
  refine g_iload_n (pc := 60) hG 1 rfl dX11_cross_60 ?_
  refine g_aaload (pc := 61) hG 1 4 p rfl rfl (by omega) (by omega) (by decide) dX11_cross_61 ?_
  refine g_iconst (pc := 62) hG dX11_cross_62 ?_
  refine g_laload (pc := 63) hG (2 + p) 2 (rw_at [mdoC0 cI cL cZ ad (0) (((m : Nat) : Int)) (((n : Nat) : Int)) (yy) (k) (dn) (((p : Nat) : Int)) (((q : Nat) : Int)) (bt) (bl) (bd) (na) (dt) (tl) (ul) (th) (uh) (hd) (cn), mgC0 cI cL cZ cX cG ad (29) (Gm)] _ 3 (fun i9 => (ad (30 + i9), aL cL 3 (Gm i9))) (by omega)) rfl (by omega) (by omega) (by decide) dX11_cross_63 ?_
  refine g_aload_n (pc := 64) hG 0 rfl dX11_cross_64 ?_
  refine g_get (pc := 65) hG fl11_31 0 rfl rfl dX11_cross_65 ?_
  refine g_iload_n (pc := 68) hG 2 rfl dX11_cross_68 ?_
  refine g_aaload (pc := 69) hG 1 4 q rfl rfl (by omega) (by omega) (by decide) dX11_cross_69 ?_
  refine g_iconst (pc := 70) hG dX11_cross_70 ?_
  refine g_laload (pc := 71) hG (2 + q) 0 (rw_at [mdoC0 cI cL cZ ad (0) (((m : Nat) : Int)) (((n : Nat) : Int)) (yy) (k) (dn) (((p : Nat) : Int)) (((q : Nat) : Int)) (bt) (bl) (bd) (na) (dt) (tl) (ul) (th) (uh) (hd) (cn), mgC0 cI cL cZ cX cG ad (29) (Gm)] _ 3 (fun i9 => (ad (30 + i9), aL cL 3 (Gm i9))) (by omega)) rfl (by omega) (by omega) (by decide) dX11_cross_71 ?_
  refine g_lmul (pc := 72) hG dX11_cross_72 ?_
  refine g_aload_n (pc := 73) hG 0 rfl dX11_cross_73 ?_
  refine g_get (pc := 74) hG fl11_31 0 rfl rfl dX11_cross_74 ?_
  refine g_iload_n (pc := 77) hG 1 rfl dX11_cross_77 ?_
  refine g_aaload (pc := 78) hG 1 4 p rfl rfl (by omega) (by omega) (by decide) dX11_cross_78 ?_
  refine g_iconst (pc := 79) hG dX11_cross_79 ?_
  refine g_laload (pc := 80) hG (2 + p) 0 (rw_at [mdoC0 cI cL cZ ad (0) (((m : Nat) : Int)) (((n : Nat) : Int)) (yy) (k) (dn) (((p : Nat) : Int)) (((q : Nat) : Int)) (bt) (bl) (bd) (na) (dt) (tl) (ul) (th) (uh) (hd) (cn), mgC0 cI cL cZ cX cG ad (29) (Gm)] _ 3 (fun i9 => (ad (30 + i9), aL cL 3 (Gm i9))) (by omega)) rfl (by omega) (by omega) (by decide) dX11_cross_80 ?_
  refine g_aload_n (pc := 81) hG 0 rfl dX11_cross_81 ?_
  refine g_get (pc := 82) hG fl11_31 0 rfl rfl dX11_cross_82 ?_
  refine g_iload_n (pc := 85) hG 2 rfl dX11_cross_85 ?_
  refine g_aaload (pc := 86) hG 1 4 q rfl rfl (by omega) (by omega) (by decide) dX11_cross_86 ?_
  refine g_iconst (pc := 87) hG dX11_cross_87 ?_
  refine g_laload (pc := 88) hG (2 + q) 2 (rw_at [mdoC0 cI cL cZ ad (0) (((m : Nat) : Int)) (((n : Nat) : Int)) (yy) (k) (dn) (((p : Nat) : Int)) (((q : Nat) : Int)) (bt) (bl) (bd) (na) (dt) (tl) (ul) (th) (uh) (hd) (cn), mgC0 cI cL cZ cX cG ad (29) (Gm)] _ 3 (fun i9 => (ad (30 + i9), aL cL 3 (Gm i9))) (by omega)) rfl (by omega) (by omega) (by decide) dX11_cross_88 ?_
  refine g_lmul (pc := 89) hG dX11_cross_89 ?_
  refine g_lsub (pc := 90) hG dX11_cross_90 ?_
  refine g_nmL (pc := 91) hG (fun x91 ex91 => ?_)
  refine g_lastore (pc := 91) hG 5 1 rfl rfl (by omega) (by omega) (by decide) (ws' := [mdoC0 cI cL cZ ad (0) (((m : Nat) : Int)) (((n : Nat) : Int)) (yy) (k) (dn) (((p : Nat) : Int)) (((q : Nat) : Int)) (bt) (bl) (bd) (na) (dt) (tl) (ul) (th) (uh) (hd) (cn), mgC0 cI cL cZ cX cG ad (29) (Gm), mgC1 cI cL cZ cX cG ad (29) (Gm), mgC2 cI cL cZ cX cG ad (29) (Gm), mgC3 cI cL cZ cX cG ad (29) (Gm), l3C0 cI cL cZ ad (41) (upZ (upZ nr 0 x50) 1 x91)]) rfl dX11_cross_91 ?_
  refine g_aload_n (pc := 92) hG 0 rfl dX11_cross_92 ?_
  refine g_get (pc := 93) hG fl11_50 0 rfl rfl dX11_cross_93 ?_
  refine g_iconst (pc := 96) hG dX11_cross_96 ?_
  refine g_aload_n (pc := 97) hG 0 rfl dX11_cross_97 ?_
  refine g_get (pc := 98) hG fl11_31 0 rfl rfl dX11_cross_98 ?_
  refine g_iload_n (pc := 101) hG 1 rfl dX11_cross_101 ?_
  refine g_aaload (pc := 102) hG 1 4 p rfl rfl (by omega) (by omega) (by decide) dX11_cross_102 ?_
  refine g_iconst (pc := 103) hG dX11_cross_103 ?_
  refine g_laload (pc := 104) hG (2 + p) 0 (rw_at [mdoC0 cI cL cZ ad (0) (((m : Nat) : Int)) (((n : Nat) : Int)) (yy) (k) (dn) (((p : Nat) : Int)) (((q : Nat) : Int)) (bt) (bl) (bd) (na) (dt) (tl) (ul) (th) (uh) (hd) (cn), mgC0 cI cL cZ cX cG ad (29) (Gm)] _ 3 (fun i9 => (ad (30 + i9), aL cL 3 (Gm i9))) (by omega)) rfl (by omega) (by omega) (by decide) dX11_cross_104 ?_
  refine g_aload_n (pc := 105) hG 0 rfl dX11_cross_105 ?_
  refine g_get (pc := 106) hG fl11_31 0 rfl rfl dX11_cross_106 ?_
  refine g_iload_n (pc := 109) hG 2 rfl dX11_cross_109 ?_
  refine g_aaload (pc := 110) hG 1 4 q rfl rfl (by omega) (by omega) (by decide) dX11_cross_110 ?_
  refine g_iconst (pc := 111) hG dX11_cross_111 ?_
  refine g_laload (pc := 112) hG (2 + q) 1 (rw_at [mdoC0 cI cL cZ ad (0) (((m : Nat) : Int)) (((n : Nat) : Int)) (yy) (k) (dn) (((p : Nat) : Int)) (((q : Nat) : Int)) (bt) (bl) (bd) (na) (dt) (tl) (ul) (th) (uh) (hd) (cn), mgC0 cI cL cZ cX cG ad (29) (Gm)] _ 3 (fun i9 => (ad (30 + i9), aL cL 3 (Gm i9))) (by omega)) rfl (by omega) (by omega) (by decide) dX11_cross_112 ?_
  refine g_lmul (pc := 113) hG dX11_cross_113 ?_
  refine g_aload_n (pc := 114) hG 0 rfl dX11_cross_114 ?_
  refine g_get (pc := 115) hG fl11_31 0 rfl rfl dX11_cross_115 ?_
  refine g_iload_n (pc := 118) hG 1 rfl dX11_cross_118 ?_
  refine g_aaload (pc := 119) hG 1 4 p rfl rfl (by omega) (by omega) (by decide) dX11_cross_119 ?_
  refine g_iconst (pc := 120) hG dX11_cross_120 ?_
  refine g_laload (pc := 121) hG (2 + p) 1 (rw_at [mdoC0 cI cL cZ ad (0) (((m : Nat) : Int)) (((n : Nat) : Int)) (yy) (k) (dn) (((p : Nat) : Int)) (((q : Nat) : Int)) (bt) (bl) (bd) (na) (dt) (tl) (ul) (th) (uh) (hd) (cn), mgC0 cI cL cZ cX cG ad (29) (Gm)] _ 3 (fun i9 => (ad (30 + i9), aL cL 3 (Gm i9))) (by omega)) rfl (by omega) (by omega) (by decide) dX11_cross_121 ?_
  refine g_aload_n (pc := 122) hG 0 rfl dX11_cross_122 ?_
  refine g_get (pc := 123) hG fl11_31 0 rfl rfl dX11_cross_123 ?_
  refine g_iload_n (pc := 126) hG 2 rfl dX11_cross_126 ?_
  refine g_aaload (pc := 127) hG 1 4 q rfl rfl (by omega) (by omega) (by decide) dX11_cross_127 ?_
  refine g_iconst (pc := 128) hG dX11_cross_128 ?_
  refine g_laload (pc := 129) hG (2 + q) 0 (rw_at [mdoC0 cI cL cZ ad (0) (((m : Nat) : Int)) (((n : Nat) : Int)) (yy) (k) (dn) (((p : Nat) : Int)) (((q : Nat) : Int)) (bt) (bl) (bd) (na) (dt) (tl) (ul) (th) (uh) (hd) (cn), mgC0 cI cL cZ cX cG ad (29) (Gm)] _ 3 (fun i9 => (ad (30 + i9), aL cL 3 (Gm i9))) (by omega)) rfl (by omega) (by omega) (by decide) dX11_cross_129 ?_
  refine g_lmul (pc := 130) hG dX11_cross_130 ?_
  refine g_lsub (pc := 131) hG dX11_cross_131 ?_
  refine g_nmL (pc := 132) hG (fun x132 ex132 => ?_)
  refine g_lastore (pc := 132) hG 5 2 rfl rfl (by omega) (by omega) (by decide) (ws' := [mdoC0 cI cL cZ ad (0) (((m : Nat) : Int)) (((n : Nat) : Int)) (yy) (k) (dn) (((p : Nat) : Int)) (((q : Nat) : Int)) (bt) (bl) (bd) (na) (dt) (tl) (ul) (th) (uh) (hd) (cn), mgC0 cI cL cZ cX cG ad (29) (Gm), mgC1 cI cL cZ cX cG ad (29) (Gm), mgC2 cI cL cZ cX cG ad (29) (Gm), mgC3 cI cL cZ cX cG ad (29) (Gm), l3C0 cI cL cZ ad (41) (upZ (upZ (upZ nr 0 x50) 1 x91) 2 x132)]) rfl dX11_cross_132 ?_
  have ha9 := crX_arr (nr := nr) (G := Gm) (p := p) (q := q) ex50 ex91 ex132
  obtain ⟨n9, hn9⟩ : ∃ n9, n9 = upZ (upZ (upZ nr 0 x50) 1 x91) 2 x132 := ⟨_, rfl⟩
  rw [← hn9] at ha9
  refine g_ws (pc := 133) hG (ws' := [mdoC0 cI cL cZ ad (0) (((m : Nat) : Int)) (((n : Nat) : Int)) (yy) (k) (dn) (((p : Nat) : Int)) (((q : Nat) : Int)) (bt) (bl) (bd) (na) (dt) (tl) (ul) (th) (uh) (hd) (cn), mgC0 cI cL cZ cX cG ad (29) (Gm), mgC1 cI cL cZ cX cG ad (29) (Gm), mgC2 cI cL cZ cX cG ad (29) (Gm), mgC3 cI cL cZ cX cG ad (29) (Gm), l3C0 cI cL cZ ad (41) (n9)]) (by rw [hn9]) ?_
  have hb0 := crX_bd (c := 0) hb
  have hb1 := crX_bd (c := 1) hb
  have hb2 := crX_bd (c := 2) hb
  rw [← ha9 0 (by omega)] at hb0
  rw [← ha9 1 (by omega)] at hb1
  rw [← ha9 2 (by omega)] at hb2
  have hg1 := gcd_b (n9 0) (n9 1)
  have hg2 := gcd_b ((Int.gcd (n9 0) (n9 1) : Nat) : Int) (n9 2)
  refine g_aload_n (pc := 133) hG 0 rfl dX11_cross_133 ?_
  refine g_get (pc := 134) hG fl11_50 0 rfl rfl dX11_cross_134 ?_
  refine g_iconst (pc := 137) hG dX11_cross_137 ?_
  refine g_laload (pc := 138) hG 5 0 rfl rfl (by omega) (by omega) (by decide) dX11_cross_138 ?_
  refine g_aload_n (pc := 139) hG 0 rfl dX11_cross_139 ?_
  refine g_get (pc := 140) hG fl11_50 0 rfl rfl dX11_cross_140 ?_
  refine g_iconst (pc := 143) hG dX11_cross_143 ?_
  refine g_laload (pc := 144) hG 5 1 rfl rfl (by omega) (by omega) (by decide) dX11_cross_144 ?_
  refine g_callP (pc := 145) hG (As := [lV (n9 0), lV (n9 1)]) (rest := []) (c_X11_divisor (l := l) (D := D) (cI := cI) (cL := cL) (cZ := cZ) (cX := cX) (cG := cG) (n9 0) (n9 1) (by omega) (by omega)) cs11_85 ⟨rfl, rfl⟩ ⟨Nat.le_of_ble_eq_true rfl, Nat.le_of_ble_eq_true rfl⟩ rfl rfl (Nat.le_of_ble_eq_true rfl) dX11_cross_145 (fun v h => ?_)
  obtain ⟨rfl, -⟩ := h
  show G 148 [(0, .ref (ad (0))), (1, iV (((p : Nat) : Int))), (2, iV (((q : Nat) : Int)))] [lV (((Int.gcd (n9 0) (n9 1) : Nat) : Int))] ([mdoC0 cI cL cZ ad (0) (((m : Nat) : Int)) (((n : Nat) : Int)) (yy) (k) (dn) (((p : Nat) : Int)) (((q : Nat) : Int)) (bt) (bl) (bd) (na) (dt) (tl) (ul) (th) (uh) (hd) (cn), mgC0 cI cL cZ cX cG ad (29) (Gm), mgC1 cI cL cZ cX cG ad (29) (Gm), mgC2 cI cL cZ cX cG ad (29) (Gm), mgC3 cI cL cZ cX cG ad (29) (Gm), l3C0 cI cL cZ ad (41) (n9)])
  refine g_aload_n (pc := 148) hG 0 rfl dX11_cross_148 ?_
  refine g_get (pc := 149) hG fl11_50 0 rfl rfl dX11_cross_149 ?_
  refine g_iconst (pc := 152) hG dX11_cross_152 ?_
  refine g_laload (pc := 153) hG 5 2 rfl rfl (by omega) (by omega) (by decide) dX11_cross_153 ?_
  refine g_callP (pc := 154) hG (As := [lV (((Int.gcd (n9 0) (n9 1) : Nat) : Int)), lV (n9 2)]) (rest := []) (c_X11_divisor (l := l) (D := D) (cI := cI) (cL := cL) (cZ := cZ) (cX := cX) (cG := cG) (((Int.gcd (n9 0) (n9 1) : Nat) : Int)) (n9 2) (by omega) (by omega)) cs11_85 ⟨rfl, rfl⟩ ⟨Nat.le_of_ble_eq_true rfl, Nat.le_of_ble_eq_true rfl⟩ rfl rfl (Nat.le_of_ble_eq_true rfl) dX11_cross_154 (fun v h => ?_)
  obtain ⟨rfl, -⟩ := h
  show G 157 [(0, .ref (ad (0))), (1, iV (((p : Nat) : Int))), (2, iV (((q : Nat) : Int)))] [lV (((Int.gcd (((Int.gcd (n9 0) (n9 1) : Nat) : Int)) (n9 2) : Nat) : Int))] ([mdoC0 cI cL cZ ad (0) (((m : Nat) : Int)) (((n : Nat) : Int)) (yy) (k) (dn) (((p : Nat) : Int)) (((q : Nat) : Int)) (bt) (bl) (bd) (na) (dt) (tl) (ul) (th) (uh) (hd) (cn), mgC0 cI cL cZ cX cG ad (29) (Gm), mgC1 cI cL cZ cX cG ad (29) (Gm), mgC2 cI cL cZ cX cG ad (29) (Gm), mgC3 cI cL cZ cX cG ad (29) (Gm), l3C0 cI cL cZ ad (41) (n9)])
  refine g_lstore_n (pc := 157) hG (by decide) (lv' := [(3, lV (((Int.gcd (((Int.gcd (n9 0) (n9 1) : Nat) : Int)) (n9 2) : Nat) : Int))), (0, .ref (ad (0))), (1, iV (((p : Nat) : Int))), (2, iV (((q : Nat) : Int)))]) rfl dX11_cross_157 ?_
  refine g_iconst (pc := 158) hG dX11_cross_158 ?_
  refine g_istore (pc := 159) hG (by decide) (lv' := [(5, iV (0)), (3, lV (((Int.gcd (((Int.gcd (n9 0) (n9 1) : Nat) : Int)) (n9 2) : Nat) : Int))), (0, .ref (ad (0))), (1, iV (((p : Nat) : Int))), (2, iV (((q : Nat) : Int)))]) rfl dX11_cross_159 ?_
  have L161 : ∀ (fu161 : Nat) (i : Nat) (n8 : Nat → Int) (f9 : Int), 3 - i < fu161 → (i ≤ 3) → (DvI n9 n8 f9 i) → (i = 0 ∨ 1 < f9) → (f9 = ((Int.gcd ((Int.gcd (n9 0) (n9 1) : Nat) : Int) (n9 2) : Nat) : Int)) → G 161 [(0, .ref (ad (0))), (1, iV (((p : Nat) : Int))), (2, iV (((q : Nat) : Int))), (3, lV (f9)), (5, iV (((i : Nat) : Int)))] [] ([mdoC0 cI cL cZ ad (0) (((m : Nat) : Int)) (((n : Nat) : Int)) (yy) (k) (dn) (((p : Nat) : Int)) (((q : Nat) : Int)) (bt) (bl) (bd) (na) (dt) (tl) (ul) (th) (uh) (hd) (cn), mgC0 cI cL cZ cX cG ad (29) (Gm), mgC1 cI cL cZ cX cG ad (29) (Gm), mgC2 cI cL cZ cX cG ad (29) (Gm), mgC3 cI cL cZ cX cG ad (29) (Gm), l3C0 cI cL cZ ad (41) (n8)]) := by
    intro fu161
    induction fu161 with
    | zero => intro i n8 f9 hm; exact absurd hm (Nat.not_lt_zero _)
    | succ fu161 ih161 =>
      intro i n8 f9 hm161 hi h8 hif hf9
      refine g_iload (pc := 161) hG 4 rfl dX11_cross_161 ?_
      refine g_iconst (pc := 163) hG dX11_cross_163 ?_
      have J190 : ∀ (_ : Unit), (((3 ≤ ((i : Nat) : Int))) ∨ ((¬ 3 ≤ ((i : Nat) : Int)) ∧ (f9 ≤ 1))) → G 190 [(0, .ref (ad (0))), (1, iV (((p : Nat) : Int))), (2, iV (((q : Nat) : Int))), (3, lV (f9)), (5, iV (((i : Nat) : Int)))] [] ([mdoC0 cI cL cZ ad (0) (((m : Nat) : Int)) (((n : Nat) : Int)) (yy) (k) (dn) (((p : Nat) : Int)) (((q : Nat) : Int)) (bt) (bl) (bd) (na) (dt) (tl) (ul) (th) (uh) (hd) (cn), mgC0 cI cL cZ cX cG ad (29) (Gm), mgC1 cI cL cZ cX cG ad (29) (Gm), mgC2 cI cL cZ cX cG ad (29) (Gm), mgC3 cI cL cZ cX cG ad (29) (Gm), l3C0 cI cL cZ ad (41) (n8)]) := by
        intro _ k190
        exact g_return (pc := 190) hG ⟨n8, CrR.of (fun c _ => crX_bd hb) ha9 h8 hif (by omega), rfl, rfl⟩ dX11_cross_190
      refine g_icmp_ge (pc := 164) hG (by omega) (by omega) (tgt := 190) (by decide) dX11_cross_164 (fun h164 => ?_) (fun h164 => ?_)
      · exact g_lv (pc := 190) hG [0, 1, 2, 3, 4] rfl (J190 () (Or.inl (h164)))
      · refine g_lload_n (pc := 167) hG 3 rfl dX11_cross_167 ?_
        refine g_lconst (z := 1) (pc := 168) hG dX11_cross_168 (by decide) ?_
        refine g_lc_le (pc := 169) hG (by omega) (by omega) (tgt := 190) (by decide) dX11_cross_169 dX11_cross_170 (fun h169 => ?_) (fun h169 => ?_)
        · exact g_lv (pc := 190) hG [0, 1, 2, 3, 4] rfl (J190 () (Or.inr (⟨h164, h169⟩)))
        · refine g_aload_n (pc := 173) hG 0 rfl dX11_cross_173 ?_
          refine g_get (pc := 174) hG fl11_50 0 rfl rfl dX11_cross_174 ?_
          refine g_iload (pc := 177) hG 4 rfl dX11_cross_177 ?_
          refine g_dup2_11 (pc := 179) hG rfl rfl dX11_cross_179 ?_
          refine g_laload (pc := 180) hG 5 i rfl rfl (by omega) (by omega) (by decide) dX11_cross_180 ?_
          refine g_lload_n (pc := 181) hG 3 rfl dX11_cross_181 ?_
          have hni := n3_b hb0 hb1 hb2 (show i < 3 by omega)
          rw [← h8.2 i (Nat.le_refl _)] at hni
          refine g_ldiv (pc := 182) hG (by omega) (by omega) (by omega) (by omega) dX11_cross_182 ?_
          refine g_nmL (pc := 183) hG (fun x183 ex183 => ?_)
          refine g_lastore (pc := 183) hG 5 i rfl rfl (by omega) (by omega) (by decide) (ws' := [mdoC0 cI cL cZ ad (0) (((m : Nat) : Int)) (((n : Nat) : Int)) (yy) (k) (dn) (((p : Nat) : Int)) (((q : Nat) : Int)) (bt) (bl) (bd) (na) (dt) (tl) (ul) (th) (uh) (hd) (cn), mgC0 cI cL cZ cX cG ad (29) (Gm), mgC1 cI cL cZ cX cG ad (29) (Gm), mgC2 cI cL cZ cX cG ad (29) (Gm), mgC3 cI cL cZ cX cG ad (29) (Gm), l3C0 cI cL cZ ad (41) (upZ n8 i x183)]) rfl dX11_cross_183 ?_
          refine g_iinc (pc := 184) hG 4 rfl (by decide) (lv' := [(5, iV ((((i : Nat) : Int)) + 1)), (0, .ref (ad (0))), (1, iV (((p : Nat) : Int))), (2, iV (((q : Nat) : Int))), (3, lV (f9))]) rfl dX11_cross_184 ?_
          refine g_goto (pc := 187) hG (tgt := 161) (by decide) dX11_cross_187 ?_
          exact g_lv (pc := 161) hG [1, 2, 3, 4, 0] rfl (ih161 (i + 1) (upZ n8 i x183) f9 (by omega) (by omega) (h8.step (g3_dvd hf9 (by omega)) ex183) (Or.inr (by omega)) (hf9))
  exact g_lv (pc := 161) hG [2, 3, 4, 1, 0] rfl (L161 _ 0 n9 (((Int.gcd (((Int.gcd (n9 0) (n9 1) : Nat) : Int)) (n9 2) : Nat) : Int)) (Nat.lt_succ_self _) (by omega) (DvI.init) (Or.inl rfl) (rfl))
set_option maxHeartbeats 4000000 in
set_option maxRecDepth 100000 in
theorem c_X11_rank {l : Launch} {D : va_G} {cI cL cZ cX cG : ClassId} (ad : Nat → Nat) (m : Nat) (n : Nat) (yy : Int) (dn : Int) (on : Int) (tw : Int) (bt : Int) (bl : Int) (bd : Int) (na : Int) (dt : Int) (tl : Int) (ul : Int) (th : Int) (uh : Int) (hd : Bool) (cn : Int) (kk : Nat) (Gm : Nat → Nat → Int) (Mm : Nat → Nat → Int) (nr : Nat → Int) (hk : kk ≤ 3) (hGb : ∀ a b, a < kk → b < kk → -1944 ≤ Gm a b ∧ Gm a b ≤ 1944) : Ct l D (gT cI cL cZ cX cG) yX11_rank cX11_rank 5 (some .int) ({ frames := 2, cells := 0, slots := 0, locals := 54 }) [.ref (ad (0))] ([mdoC0 cI cL cZ ad (0) (((m : Nat) : Int)) (((n : Nat) : Int)) (yy) (((kk : Nat) : Int)) (dn) (on) (tw) (bt) (bl) (bd) (na) (dt) (tl) (ul) (th) (uh) (hd) (cn), mgC0 cI cL cZ cX cG ad (29) (Gm), mgC1 cI cL cZ cX cG ad (29) (Gm), mgC2 cI cL cZ cX cG ad (29) (Gm), mgC3 cI cL cZ cX cG ad (29) (Gm), mgC0 cI cL cZ cX cG ad (35) (Mm), mgC1 cI cL cZ cX cG ad (35) (Mm), mgC2 cI cL cZ cX cG ad (35) (Mm), mgC3 cI cL cZ cX cG ad (35) (Mm), l3C0 cI cL cZ ad (41) (nr)]) (fun vv_ ww_ => ∃ (rk2 : Nat), ∃ (on2 : Int), ∃ (tw2 : Int), ∃ (M2 : Nat → Nat → Int), ∃ (n2 : Nat → Int), (RkR Gm kk rk2 on2 tw2 n2) ∧ vv_ = some (iV (((rk2 : Nat) : Int))) ∧ ww_ = [mdoC0 cI cL cZ ad (0) (((m : Nat) : Int)) (((n : Nat) : Int)) (yy) (((kk : Nat) : Int)) (dn) (on2) (tw2) (bt) (bl) (bd) (na) (dt) (tl) (ul) (th) (uh) (hd) (cn), mgC0 cI cL cZ cX cG ad (29) (Gm), mgC1 cI cL cZ cX cG ad (29) (Gm), mgC2 cI cL cZ cX cG ad (29) (Gm), mgC3 cI cL cZ cX cG ad (29) (Gm), mgC0 cI cL cZ cX cG ad (35) (M2), mgC1 cI cL cZ cX cG ad (35) (M2), mgC2 cI cL cZ cX cG ad (35) (M2), mgC3 cI cL cZ cX cG ad (35) (M2), l3C0 cI cL cZ ad (41) (n2)]) := by
  refine Ct.of (by decide) (Nat.le_of_ble_eq_true rfl) (fun G hG => ?_)
  show G 0 [(0, .ref (ad (0)))] [] ([mdoC0 cI cL cZ ad (0) (((m : Nat) : Int)) (((n : Nat) : Int)) (yy) (((kk : Nat) : Int)) (dn) (on) (tw) (bt) (bl) (bd) (na) (dt) (tl) (ul) (th) (uh) (hd) (cn), mgC0 cI cL cZ cX cG ad (29) (Gm), mgC1 cI cL cZ cX cG ad (29) (Gm), mgC2 cI cL cZ cX cG ad (29) (Gm), mgC3 cI cL cZ cX cG ad (29) (Gm), mgC0 cI cL cZ cX cG ad (35) (Mm), mgC1 cI cL cZ cX cG ad (35) (Mm), mgC2 cI cL cZ cX cG ad (35) (Mm), mgC3 cI cL cZ cX cG ad (35) (Mm), l3C0 cI cL cZ ad (41) (nr)])
  refine g_aload_n (pc := 0) hG 0 rfl dX11_rank_0 ?_
  refine g_aload_n (pc := 1) hG 0 rfl dX11_rank_1 ?_
  refine g_get (pc := 2) hG fl11_101 0 rfl rfl dX11_rank_2 ?_
  refine g_callV (pc := 5) hG (As := [iV (((kk : Nat) : Int))]) (rest := []) (c_X11_copy (l := l) (D := D) (cI := cI) (cL := cL) (cZ := cZ) (cX := cX) (cG := cG) ad m n yy (((kk : Nat) : Int)) dn on tw bt bl bd na dt tl ul th uh hd cn Gm Mm kk (hk)) (Sp.mg [true, true, true, true, true, true, true, true, true] rfl) cv11_119 ⟨rfl, rfl⟩ ⟨Nat.le_of_ble_eq_true rfl, Nat.le_of_ble_eq_true rfl⟩ 0 rfl rfl rfl rfl (Nat.le_of_ble_eq_true rfl) dX11_rank_5 (fun v w1 h => ?_)
  obtain ⟨M2_5, hc_5, rfl, rfl⟩ := h
  show G 8 [(0, .ref (ad (0)))] [] ([mdoC0 cI cL cZ ad (0) (((m : Nat) : Int)) (((n : Nat) : Int)) (yy) (((kk : Nat) : Int)) (dn) (on) (tw) (bt) (bl) (bd) (na) (dt) (tl) (ul) (th) (uh) (hd) (cn), mgC0 cI cL cZ cX cG ad (29) (Gm), mgC1 cI cL cZ cX cG ad (29) (Gm), mgC2 cI cL cZ cX cG ad (29) (Gm), mgC3 cI cL cZ cX cG ad (29) (Gm), mgC0 cI cL cZ cX cG ad (35) (M2_5), mgC1 cI cL cZ cX cG ad (35) (M2_5), mgC2 cI cL cZ cX cG ad (35) (M2_5), mgC3 cI cL cZ cX cG ad (35) (M2_5), l3C0 cI cL cZ ad (41) (nr)])
  refine g_aload_n (pc := 8) hG 0 rfl dX11_rank_8 ?_
  refine g_aload_n (pc := 9) hG 0 rfl dX11_rank_9 ?_
  refine g_get (pc := 10) hG fl11_101 0 rfl rfl dX11_rank_10 ?_
  refine g_callV (pc := 13) hG (As := [iV (((kk : Nat) : Int))]) (rest := []) (c_X11_determinant (l := l) (D := D) (cI := cI) (cL := cL) (cZ := cZ) (cX := cX) (cG := cG) ad m n yy (((kk : Nat) : Int)) dn on tw bt bl bd na dt tl ul th uh hd cn M2_5 kk (hk)) (Sp.mg [true, false, false, false, false, true, true, true, true] rfl) cv11_112 ⟨rfl, rfl⟩ ⟨Nat.le_of_ble_eq_true rfl, Nat.le_of_ble_eq_true rfl⟩ 0 rfl rfl rfl rfl (Nat.le_of_ble_eq_true rfl) dX11_rank_13 (fun v w1 h => ?_)
  obtain ⟨rfl, rfl⟩ := h
  show G 16 [(0, .ref (ad (0)))] [lV (detM M2_5 kk)] ([mdoC0 cI cL cZ ad (0) (((m : Nat) : Int)) (((n : Nat) : Int)) (yy) (((kk : Nat) : Int)) (dn) (on) (tw) (bt) (bl) (bd) (na) (dt) (tl) (ul) (th) (uh) (hd) (cn), mgC0 cI cL cZ cX cG ad (29) (Gm), mgC1 cI cL cZ cX cG ad (29) (Gm), mgC2 cI cL cZ cX cG ad (29) (Gm), mgC3 cI cL cZ cX cG ad (29) (Gm), mgC0 cI cL cZ cX cG ad (35) (M2_5), mgC1 cI cL cZ cX cG ad (35) (M2_5), mgC2 cI cL cZ cX cG ad (35) (M2_5), mgC3 cI cL cZ cX cG ad (35) (M2_5), l3C0 cI cL cZ ad (41) (nr)])
  have hde : detM M2_5 kk = detM Gm kk := detM_congr hk hc_5
  have hdb := det_bd (M := Gm) (v := fun _ => 0) hk ⟨fun r c hr hc => by have := hGb r c hr hc; unfold MBd; split <;> omega, fun r _ => by simp⟩
  rw [hde]
  refine g_lconst (z := 0) (pc := 16) hG dX11_rank_16 (by decide) ?_
  refine g_lc_eq (pc := 17) hG (by omega) (by omega) (tgt := 26) (by decide) dX11_rank_17 dX11_rank_18 (fun h17 => ?_) (fun h17 => ?_)
  · refine g_iconst (pc := 26) hG dX11_rank_26 ?_
    refine g_istore_n (pc := 27) hG (by decide) (lv' := [(1, iV (0)), (0, .ref (ad (0)))]) rfl dX11_rank_27 ?_
    refine g_iconst (pc := 28) hG dX11_rank_28 ?_
    refine g_istore_n (pc := 29) hG (by decide) (lv' := [(2, iV (0)), (1, iV (0)), (0, .ref (ad (0)))]) rfl dX11_rank_29 ?_
    have L30 : ∀ (fu30 : Nat) (rr : Nat) (a : Nat), kk - a < fu30 → (a ≤ kk) → (RkI Gm kk a 0 rr) → G 30 [(0, .ref (ad (0))), (1, iV (((rr : Nat) : Int))), (2, iV (((a : Nat) : Int)))] [] ([mdoC0 cI cL cZ ad (0) (((m : Nat) : Int)) (((n : Nat) : Int)) (yy) (((kk : Nat) : Int)) (dn) (on) (tw) (bt) (bl) (bd) (na) (dt) (tl) (ul) (th) (uh) (hd) (cn), mgC0 cI cL cZ cX cG ad (29) (Gm), mgC1 cI cL cZ cX cG ad (29) (Gm), mgC2 cI cL cZ cX cG ad (29) (Gm), mgC3 cI cL cZ cX cG ad (29) (Gm), mgC0 cI cL cZ cX cG ad (35) (M2_5), mgC1 cI cL cZ cX cG ad (35) (M2_5), mgC2 cI cL cZ cX cG ad (35) (M2_5), mgC3 cI cL cZ cX cG ad (35) (M2_5), l3C0 cI cL cZ ad (41) (nr)]) := by
      intro fu30
      induction fu30 with
      | zero => intro rr a hm; exact absurd hm (Nat.not_lt_zero _)
      | succ fu30 ih30 =>
        intro rr a hm30 ha hr
        refine g_iload_n (pc := 30) hG 2 rfl dX11_rank_30 ?_
        refine g_aload_n (pc := 31) hG 0 rfl dX11_rank_31 ?_
        refine g_get (pc := 32) hG fl11_101 0 rfl rfl dX11_rank_32 ?_
        refine g_icmp_ge (pc := 35) hG (by omega) (by omega) (tgt := 79) (by decide) dX11_rank_35 (fun h35 => ?_) (fun h35 => ?_)
        · refine g_iconst (pc := 79) hG dX11_rank_79 ?_
          refine g_istore_n (pc := 80) hG (by decide) (lv' := [(2, iV (0)), (0, .ref (ad (0))), (1, iV (((rr : Nat) : Int)))]) rfl dX11_rank_80 ?_
          have L81 : ∀ (fu81 : Nat) (a2 : Nat) (on9 : Int) (tw9 : Int) (n9 : Nat → Int), 3 - a2 < fu81 → (a2 ≤ 3) → (∀ i, i < a2 → ∀ c, c < 3 → crX Gm (r1 i) (r2 i) c = 0) → G 81 [(0, .ref (ad (0))), (1, iV (((rr : Nat) : Int))), (2, iV (((a2 : Nat) : Int)))] [] ([mdoC0 cI cL cZ ad (0) (((m : Nat) : Int)) (((n : Nat) : Int)) (yy) (((kk : Nat) : Int)) (dn) (on9) (tw9) (bt) (bl) (bd) (na) (dt) (tl) (ul) (th) (uh) (hd) (cn), mgC0 cI cL cZ cX cG ad (29) (Gm), mgC1 cI cL cZ cX cG ad (29) (Gm), mgC2 cI cL cZ cX cG ad (29) (Gm), mgC3 cI cL cZ cX cG ad (29) (Gm), mgC0 cI cL cZ cX cG ad (35) (M2_5), mgC1 cI cL cZ cX cG ad (35) (M2_5), mgC2 cI cL cZ cX cG ad (35) (M2_5), mgC3 cI cL cZ cX cG ad (35) (M2_5), l3C0 cI cL cZ ad (41) (n9)]) := by
            intro fu81
            induction fu81 with
            | zero => intro a2 on9 tw9 n9 hm; exact absurd hm (Nat.not_lt_zero _)
            | succ fu81 ih81 =>
              intro a2 on9 tw9 n9 hm81 ha2 hz
              have hrl := hr.le
              refine g_iload_n (pc := 81) hG 2 rfl dX11_rank_81 ?_
              refine g_iconst (pc := 82) hG dX11_rank_82 ?_
              have J164 : ∀ (_ : Unit), (((3 ≤ ((a2 : Nat) : Int))) ∨ ((¬ 3 ≤ ((a2 : Nat) : Int)) ∧ (¬ ((kk : Nat) : Int) = 3))) → G 164 [(0, .ref (ad (0))), (1, iV (((rr : Nat) : Int))), (2, iV (((a2 : Nat) : Int)))] [] ([mdoC0 cI cL cZ ad (0) (((m : Nat) : Int)) (((n : Nat) : Int)) (yy) (((kk : Nat) : Int)) (dn) (on9) (tw9) (bt) (bl) (bd) (na) (dt) (tl) (ul) (th) (uh) (hd) (cn), mgC0 cI cL cZ cX cG ad (29) (Gm), mgC1 cI cL cZ cX cG ad (29) (Gm), mgC2 cI cL cZ cX cG ad (29) (Gm), mgC3 cI cL cZ cX cG ad (29) (Gm), mgC0 cI cL cZ cX cG ad (35) (M2_5), mgC1 cI cL cZ cX cG ad (35) (M2_5), mgC2 cI cL cZ cX cG ad (35) (M2_5), mgC3 cI cL cZ cX cG ad (35) (M2_5), l3C0 cI cL cZ ad (41) (n9)]) := by
                intro _ k164
                refine g_iload_n (pc := 164) hG 1 rfl dX11_rank_164 ?_
                exact g_ireturn (pc := 165) hG ⟨rr, on9, tw9, M2_5, n9, RkR.zero (by omega) hr (by omega) (fun e i hi => hz i (by omega)), rfl, rfl⟩ dX11_rank_165
              refine g_icmp_ge (pc := 83) hG (by omega) (by omega) (tgt := 164) (by decide) dX11_rank_83 (fun h83 => ?_) (fun h83 => ?_)
              · exact g_lv (pc := 164) hG [0, 1, 2] rfl (J164 () (Or.inl (h83)))
              · refine g_aload_n (pc := 86) hG 0 rfl dX11_rank_86 ?_
                refine g_get (pc := 87) hG fl11_101 0 rfl rfl dX11_rank_87 ?_
                refine g_iconst (pc := 90) hG dX11_rank_90 ?_
                refine g_icmp_ne (pc := 91) hG (by omega) (by omega) (tgt := 164) (by decide) dX11_rank_91 (fun h91 => ?_) (fun h91 => ?_)
                · exact g_lv (pc := 164) hG [0, 1, 2] rfl (J164 () (Or.inr (⟨h83, h91⟩)))
                · refine g_iload_n (pc := 94) hG 2 rfl dX11_rank_94 ?_
                  have J103 : ∀ (j103s0 : Nat), (((¬ ((a2 : Nat) : Int) = 0) ∧ j103s0 = 0) ∨ ((((a2 : Nat) : Int) = 0) ∧ j103s0 = 1)) → G 103 [(0, .ref (ad (0))), (1, iV (((rr : Nat) : Int))), (2, iV (((a2 : Nat) : Int)))] [iV (((j103s0 : Nat) : Int))] ([mdoC0 cI cL cZ ad (0) (((m : Nat) : Int)) (((n : Nat) : Int)) (yy) (((kk : Nat) : Int)) (dn) (on9) (tw9) (bt) (bl) (bd) (na) (dt) (tl) (ul) (th) (uh) (hd) (cn), mgC0 cI cL cZ cX cG ad (29) (Gm), mgC1 cI cL cZ cX cG ad (29) (Gm), mgC2 cI cL cZ cX cG ad (29) (Gm), mgC3 cI cL cZ cX cG ad (29) (Gm), mgC0 cI cL cZ cX cG ad (35) (M2_5), mgC1 cI cL cZ cX cG ad (35) (M2_5), mgC2 cI cL cZ cX cG ad (35) (M2_5), mgC3 cI cL cZ cX cG ad (35) (M2_5), l3C0 cI cL cZ ad (41) (n9)]) := by
                    intro j103s0 k103
                    refine g_istore_n (pc := 103) hG (by decide) (lv' := [(3, iV (((j103s0 : Nat) : Int))), (0, .ref (ad (0))), (1, iV (((rr : Nat) : Int))), (2, iV (((a2 : Nat) : Int)))]) rfl dX11_rank_103 ?_
                    refine g_iload_n (pc := 104) hG 3 rfl dX11_rank_104 ?_
                    refine g_iconst (pc := 105) hG dX11_rank_105 ?_
                    have J114 : ∀ (j114s0 : Nat), (((¬ ((a2 : Nat) : Int) = 2) ∧ j114s0 = 2) ∨ ((((a2 : Nat) : Int) = 2) ∧ j114s0 = 1)) → G 114 [(0, .ref (ad (0))), (1, iV (((rr : Nat) : Int))), (2, iV (((a2 : Nat) : Int))), (3, iV (((j103s0 : Nat) : Int)))] [iV (((j114s0 : Nat) : Int))] ([mdoC0 cI cL cZ ad (0) (((m : Nat) : Int)) (((n : Nat) : Int)) (yy) (((kk : Nat) : Int)) (dn) (on9) (tw9) (bt) (bl) (bd) (na) (dt) (tl) (ul) (th) (uh) (hd) (cn), mgC0 cI cL cZ cX cG ad (29) (Gm), mgC1 cI cL cZ cX cG ad (29) (Gm), mgC2 cI cL cZ cX cG ad (29) (Gm), mgC3 cI cL cZ cX cG ad (29) (Gm), mgC0 cI cL cZ cX cG ad (35) (M2_5), mgC1 cI cL cZ cX cG ad (35) (M2_5), mgC2 cI cL cZ cX cG ad (35) (M2_5), mgC3 cI cL cZ cX cG ad (35) (M2_5), l3C0 cI cL cZ ad (41) (n9)]) := by
                      intro j114s0 k114
                      refine g_istore (pc := 114) hG (by decide) (lv' := [(4, iV (((j114s0 : Nat) : Int))), (0, .ref (ad (0))), (1, iV (((rr : Nat) : Int))), (2, iV (((a2 : Nat) : Int))), (3, iV (((j103s0 : Nat) : Int)))]) rfl dX11_rank_114 ?_
                      have e1 : j103s0 = r1 a2 := by unfold r1; split <;> omega
                      have e2 : j114s0 = r2 a2 := by unfold r2; split <;> omega
                      refine g_aload_n (pc := 116) hG 1 rfl dX11_rank_116 ?_
                      refine g_iload_n (pc := 117) hG 4 rfl dX11_rank_117 ?_
                      refine g_iload (pc := 118) hG 0 rfl dX11_rank_118 ?_
                      refine g_callV (pc := 120) hG (As := [iV (((j103s0 : Nat) : Int)), iV (((j114s0 : Nat) : Int))]) (rest := []) (c_X11_cross (l := l) (D := D) (cI := cI) (cL := cL) (cZ := cZ) (cX := cX) (cG := cG) ad m n yy (((kk : Nat) : Int)) dn on9 tw9 bt bl bd na dt tl ul th uh hd cn Gm n9 j103s0 j114s0 (by omega) (fun c hc => ⟨hGb _ c (by omega) (by omega), hGb _ c (by omega) (by omega)⟩)) (Sp.mg [true, true, true, true, true, false, false, false, false, true] rfl) cv11_122 ⟨rfl, rfl⟩ ⟨Nat.le_of_ble_eq_true rfl, Nat.le_of_ble_eq_true rfl⟩ 0 rfl rfl rfl rfl (Nat.le_of_ble_eq_true rfl) dX11_rank_120 (fun v w1 h => ?_)
                      obtain ⟨n2_120, hcr_120, rfl, rfl⟩ := h
                      show G 123 [(4, iV (((j114s0 : Nat) : Int))), (0, .ref (ad (0))), (1, iV (((rr : Nat) : Int))), (2, iV (((a2 : Nat) : Int))), (3, iV (((j103s0 : Nat) : Int)))] [] ([mdoC0 cI cL cZ ad (0) (((m : Nat) : Int)) (((n : Nat) : Int)) (yy) (((kk : Nat) : Int)) (dn) (((j103s0 : Nat) : Int)) (((j114s0 : Nat) : Int)) (bt) (bl) (bd) (na) (dt) (tl) (ul) (th) (uh) (hd) (cn), mgC0 cI cL cZ cX cG ad (29) (Gm), mgC1 cI cL cZ cX cG ad (29) (Gm), mgC2 cI cL cZ cX cG ad (29) (Gm), mgC3 cI cL cZ cX cG ad (29) (Gm), mgC0 cI cL cZ cX cG ad (35) (M2_5), mgC1 cI cL cZ cX cG ad (35) (M2_5), mgC2 cI cL cZ cX cG ad (35) (M2_5), mgC3 cI cL cZ cX cG ad (35) (M2_5), l3C0 cI cL cZ ad (41) (n2_120)])
                      refine g_aload_n (pc := 123) hG 1 rfl dX11_rank_123 ?_
                      refine g_get (pc := 124) hG fl11_50 0 rfl rfl dX11_rank_124 ?_
                      refine g_iconst (pc := 127) hG dX11_rank_127 ?_
                      refine g_laload (pc := 128) hG 9 0 rfl rfl (by omega) (by omega) (by decide) dX11_rank_128 ?_
                      have hn0 := hcr_120.2 0 (by omega)
                      have hn1 := hcr_120.2 1 (by omega)
                      have hn2 := hcr_120.2 2 (by omega)
                      refine g_lconst (z := 0) (pc := 129) hG dX11_rank_129 (by decide) ?_
                      refine g_lc_ne (pc := 130) hG (by omega) (by omega) (tgt := 156) (by decide) dX11_rank_130 dX11_rank_131 (fun h130 => ?_) (fun h130 => ?_)
                      · refine g_iconst (pc := 156) hG dX11_rank_156 ?_
                        exact g_ireturn (pc := 157) hG ⟨2, ((j103s0 : Nat) : Int), ((j114s0 : Nat) : Int), M2_5, n2_120, Or.inr (Or.inl ⟨by omega, by omega, rfl, ⟨a2, by omega, by rw [e1], by rw [e2], by rw [← e1, ← e2]; exact hcr_120⟩, by omega⟩), rfl, rfl⟩ dX11_rank_157
                      · refine g_aload_n (pc := 134) hG 1 rfl dX11_rank_134 ?_
                        refine g_get (pc := 135) hG fl11_50 0 rfl rfl dX11_rank_135 ?_
                        refine g_iconst (pc := 138) hG dX11_rank_138 ?_
                        refine g_laload (pc := 139) hG 9 1 rfl rfl (by omega) (by omega) (by decide) dX11_rank_139 ?_
                        refine g_lconst (z := 0) (pc := 140) hG dX11_rank_140 (by decide) ?_
                        refine g_lc_ne (pc := 141) hG (by omega) (by omega) (tgt := 156) (by decide) dX11_rank_141 dX11_rank_142 (fun h141 => ?_) (fun h141 => ?_)
                        · refine g_iconst (pc := 156) hG dX11_rank_156 ?_
                          exact g_ireturn (pc := 157) hG ⟨2, ((j103s0 : Nat) : Int), ((j114s0 : Nat) : Int), M2_5, n2_120, Or.inr (Or.inl ⟨by omega, by omega, rfl, ⟨a2, by omega, by rw [e1], by rw [e2], by rw [← e1, ← e2]; exact hcr_120⟩, by omega⟩), rfl, rfl⟩ dX11_rank_157
                        · refine g_aload_n (pc := 145) hG 1 rfl dX11_rank_145 ?_
                          refine g_get (pc := 146) hG fl11_50 0 rfl rfl dX11_rank_146 ?_
                          refine g_iconst (pc := 149) hG dX11_rank_149 ?_
                          refine g_laload (pc := 150) hG 9 2 rfl rfl (by omega) (by omega) (by decide) dX11_rank_150 ?_
                          refine g_lconst (z := 0) (pc := 151) hG dX11_rank_151 (by decide) ?_
                          refine g_lc_eq (pc := 152) hG (by omega) (by omega) (tgt := 158) (by decide) dX11_rank_152 dX11_rank_153 (fun h152 => ?_) (fun h152 => ?_)
                          · refine g_iinc (pc := 158) hG 3 rfl (by decide) (lv' := [(2, iV ((((a2 : Nat) : Int)) + 1)), (4, iV (((j114s0 : Nat) : Int))), (0, .ref (ad (0))), (1, iV (((rr : Nat) : Int))), (3, iV (((j103s0 : Nat) : Int)))]) rfl dX11_rank_158 ?_
                            refine g_goto (pc := 161) hG (tgt := 81) (by decide) dX11_rank_161 ?_
                            exact g_lv (pc := 81) hG [2, 3, 0] rfl (ih81 (a2 + 1) (((j103s0 : Nat) : Int)) (((j114s0 : Nat) : Int)) n2_120 (by omega) (by omega) (fun i hi => by rcases Nat.lt_or_ge i a2 with h | h; exact hz i h; rw [show i = a2 by omega, ← e1, ← e2]; exact cr_zero hcr_120 h130 h141 h152))
                          · refine g_iconst (pc := 156) hG dX11_rank_156 ?_
                            exact g_ireturn (pc := 157) hG ⟨2, ((j103s0 : Nat) : Int), ((j114s0 : Nat) : Int), M2_5, n2_120, Or.inr (Or.inl ⟨by omega, by omega, rfl, ⟨a2, by omega, by rw [e1], by rw [e2], by rw [← e1, ← e2]; exact hcr_120⟩, by omega⟩), rfl, rfl⟩ dX11_rank_157
                    refine g_icmp_ne (pc := 106) hG (by omega) (by omega) (tgt := 113) (by decide) dX11_rank_106 (fun h106 => ?_) (fun h106 => ?_)
                    · refine g_iconst (pc := 113) hG dX11_rank_113 ?_
                      exact g_lv (pc := 114) hG [1, 2, 3, 0] rfl (J114 2 (Or.inl ⟨h106, rfl⟩))
                    · refine g_iconst (pc := 109) hG dX11_rank_109 ?_
                      refine g_goto (pc := 110) hG (tgt := 114) (by decide) dX11_rank_110 ?_
                      exact g_lv (pc := 114) hG [1, 2, 3, 0] rfl (J114 1 (Or.inr (⟨h106, rfl⟩)))
                  refine g_if_ne (pc := 95) hG (by omega) (tgt := 102) (by decide) dX11_rank_95 (fun h95 => ?_) (fun h95 => ?_)
                  · refine g_iconst (pc := 102) hG dX11_rank_102 ?_
                    exact g_lv (pc := 103) hG [0, 1, 2] rfl (J103 0 (Or.inl ⟨h95, rfl⟩))
                  · refine g_iconst (pc := 98) hG dX11_rank_98 ?_
                    refine g_goto (pc := 99) hG (tgt := 103) (by decide) dX11_rank_99 ?_
                    exact g_lv (pc := 103) hG [0, 1, 2] rfl (J103 1 (Or.inr (⟨h95, rfl⟩)))
          exact g_lv (pc := 81) hG [1, 2, 0] rfl (L81 _ 0 on tw nr (Nat.lt_succ_self _) (by omega) (fun i h => absurd h (Nat.not_lt_zero _)))
        · refine g_iconst (pc := 38) hG dX11_rank_38 ?_
          refine g_istore_n (pc := 39) hG (by decide) (lv' := [(3, iV (0)), (0, .ref (ad (0))), (1, iV (((rr : Nat) : Int))), (2, iV (((a : Nat) : Int)))]) rfl dX11_rank_39 ?_
          have L40 : ∀ (fu40 : Nat) (r8 : Nat) (b : Nat), kk - b < fu40 → (b ≤ kk) → (RkI Gm kk a b r8) → G 40 [(0, .ref (ad (0))), (1, iV (((r8 : Nat) : Int))), (2, iV (((a : Nat) : Int))), (3, iV (((b : Nat) : Int)))] [] ([mdoC0 cI cL cZ ad (0) (((m : Nat) : Int)) (((n : Nat) : Int)) (yy) (((kk : Nat) : Int)) (dn) (on) (tw) (bt) (bl) (bd) (na) (dt) (tl) (ul) (th) (uh) (hd) (cn), mgC0 cI cL cZ cX cG ad (29) (Gm), mgC1 cI cL cZ cX cG ad (29) (Gm), mgC2 cI cL cZ cX cG ad (29) (Gm), mgC3 cI cL cZ cX cG ad (29) (Gm), mgC0 cI cL cZ cX cG ad (35) (M2_5), mgC1 cI cL cZ cX cG ad (35) (M2_5), mgC2 cI cL cZ cX cG ad (35) (M2_5), mgC3 cI cL cZ cX cG ad (35) (M2_5), l3C0 cI cL cZ ad (41) (nr)]) := by
            intro fu40
            induction fu40 with
            | zero => intro r8 b hm; exact absurd hm (Nat.not_lt_zero _)
            | succ fu40 ih40 =>
              intro r8 b hm40 hb hr8
              refine g_iload_n (pc := 40) hG 3 rfl dX11_rank_40 ?_
              refine g_aload_n (pc := 41) hG 0 rfl dX11_rank_41 ?_
              refine g_get (pc := 42) hG fl11_101 0 rfl rfl dX11_rank_42 ?_
              refine g_icmp_ge (pc := 45) hG (by omega) (by omega) (tgt := 73) (by decide) dX11_rank_45 (fun h45 => ?_) (fun h45 => ?_)
              · refine g_iinc (pc := 73) hG 2 rfl (by decide) (lv' := [(2, iV ((((a : Nat) : Int)) + 1)), (0, .ref (ad (0))), (1, iV (((r8 : Nat) : Int))), (3, iV (((b : Nat) : Int)))]) rfl dX11_rank_73 ?_
                refine g_goto (pc := 76) hG (tgt := 30) (by decide) dX11_rank_76 ?_
                exact g_lv (pc := 30) hG [1, 2, 0] rfl (ih30 r8 (a + 1) (by omega) (by omega) (hr8.next (by omega)))
              · refine g_aload_n (pc := 48) hG 0 rfl dX11_rank_48 ?_
                refine g_get (pc := 49) hG fl11_31 0 rfl rfl dX11_rank_49 ?_
                refine g_iload_n (pc := 52) hG 2 rfl dX11_rank_52 ?_
                refine g_aaload (pc := 53) hG 1 4 a rfl rfl (by omega) (by omega) (by decide) dX11_rank_53 ?_
                refine g_iload_n (pc := 54) hG 3 rfl dX11_rank_54 ?_
                refine g_laload (pc := 55) hG (2 + a) b (rw_at [mdoC0 cI cL cZ ad (0) (((m : Nat) : Int)) (((n : Nat) : Int)) (yy) (((kk : Nat) : Int)) (dn) (on) (tw) (bt) (bl) (bd) (na) (dt) (tl) (ul) (th) (uh) (hd) (cn), mgC0 cI cL cZ cX cG ad (29) (Gm)] _ 3 (fun i9 => (ad (30 + i9), aL cL 3 (Gm i9))) (by omega)) rfl (by omega) (by omega) (by decide) dX11_rank_55 ?_
                have hgb := hGb a b (by omega) (by omega)
                refine g_lconst (z := 0) (pc := 56) hG dX11_rank_56 (by decide) ?_
                have J66 : ∀ (j66s0 : Nat), (((Gm a b = 0) ∧ j66s0 = r8) ∨ ((¬ Gm a b = 0) ∧ j66s0 = 1)) → G 66 [(0, .ref (ad (0))), (1, iV (((r8 : Nat) : Int))), (2, iV (((a : Nat) : Int))), (3, iV (((b : Nat) : Int)))] [iV (((j66s0 : Nat) : Int))] ([mdoC0 cI cL cZ ad (0) (((m : Nat) : Int)) (((n : Nat) : Int)) (yy) (((kk : Nat) : Int)) (dn) (on) (tw) (bt) (bl) (bd) (na) (dt) (tl) (ul) (th) (uh) (hd) (cn), mgC0 cI cL cZ cX cG ad (29) (Gm), mgC1 cI cL cZ cX cG ad (29) (Gm), mgC2 cI cL cZ cX cG ad (29) (Gm), mgC3 cI cL cZ cX cG ad (29) (Gm), mgC0 cI cL cZ cX cG ad (35) (M2_5), mgC1 cI cL cZ cX cG ad (35) (M2_5), mgC2 cI cL cZ cX cG ad (35) (M2_5), mgC3 cI cL cZ cX cG ad (35) (M2_5), l3C0 cI cL cZ ad (41) (nr)]) := by
                  intro j66s0 k66
                  refine g_istore_n (pc := 66) hG (by decide) (lv' := [(1, iV (((j66s0 : Nat) : Int))), (0, .ref (ad (0))), (2, iV (((a : Nat) : Int))), (3, iV (((b : Nat) : Int)))]) rfl dX11_rank_66 ?_
                  refine g_iinc (pc := 67) hG 3 rfl (by decide) (lv' := [(3, iV ((((b : Nat) : Int)) + 1)), (1, iV (((j66s0 : Nat) : Int))), (0, .ref (ad (0))), (2, iV (((a : Nat) : Int)))]) rfl dX11_rank_67 ?_
                  refine g_goto (pc := 70) hG (tgt := 40) (by decide) dX11_rank_70 ?_
                  exact g_lv (pc := 40) hG [2, 1, 3, 0] rfl (ih40 j66s0 (b + 1) (by omega) (by omega) (hr8.step (by omega) (by omega) k66))
                refine g_lc_eq (pc := 57) hG (by omega) (by omega) (tgt := 65) (by decide) dX11_rank_57 dX11_rank_58 (fun h57 => ?_) (fun h57 => ?_)
                · refine g_iload_n (pc := 65) hG 1 rfl dX11_rank_65 ?_
                  exact g_lv (pc := 66) hG [0, 1, 2, 3] rfl (J66 r8 (Or.inl ⟨h57, rfl⟩))
                · refine g_iconst (pc := 61) hG dX11_rank_61 ?_
                  refine g_goto (pc := 62) hG (tgt := 66) (by decide) dX11_rank_62 ?_
                  exact g_lv (pc := 66) hG [0, 1, 2, 3] rfl (J66 1 (Or.inr (⟨h57, rfl⟩)))
          exact g_lv (pc := 40) hG [1, 2, 3, 0] rfl (L40 _ rr 0 (Nat.lt_succ_self _) (Nat.zero_le _) (hr))
    exact g_lv (pc := 30) hG [2, 1, 0] rfl (L30 _ 0 0 (Nat.lt_succ_self _) (Nat.zero_le _) (RkI.init))
  · refine g_aload_n (pc := 21) hG 0 rfl dX11_rank_21 ?_
    refine g_get (pc := 22) hG fl11_101 0 rfl rfl dX11_rank_22 ?_
    exact g_ireturn (pc := 25) hG ⟨kk, on, tw, M2_5, nr, Or.inl ⟨h17, rfl⟩, rfl, rfl⟩ dX11_rank_25
set_option maxHeartbeats 4000000 in
set_option maxRecDepth 100000 in
theorem c_X11_alongOne {l : Launch} {D : va_G} {cI cL cZ cX cG : ClassId} (ad : Nat → Nat) (m : Nat) (n : Nat) (yy : Int) (dn : Int) (on : Int) (tw : Int) (bt : Int) (bl : Int) (bd : Int) (na : Int) (dt : Int) (tl : Int) (ul : Int) (th : Int) (uh : Int) (hd : Bool) (cn : Int) (kk : Nat) (o3 : Nat) (Gm : Nat → Nat → Int) (ww : Nat → Int) (uu : Nat → Int) (rr : Nat) (hk : kk ≤ 3) (hGb : ∀ a b, a < kk → b < kk → -1944 ≤ Gm a b ∧ Gm a b ≤ 1944) (hr : rr ≤ 1) (hdg : rr = 1 → ∃ a, a < kk ∧ Gm a a ≠ 0) : Ct l D (gT cI cL cZ cX cG) yX11_alongOne cX11_alongOne 14 none ({ frames := 1, cells := 0, slots := 0, locals := 29 }) [.ref (ad (0)), .ref (ad (o3)), iV (((rr : Nat) : Int))] ([mdoC0 cI cL cZ ad (0) (((m : Nat) : Int)) (((n : Nat) : Int)) (yy) (((kk : Nat) : Int)) (dn) (on) (tw) (bt) (bl) (bd) (na) (dt) (tl) (ul) (th) (uh) (hd) (cn), mgC0 cI cL cZ cX cG ad (29) (Gm), mgC1 cI cL cZ cX cG ad (29) (Gm), mgC2 cI cL cZ cX cG ad (29) (Gm), mgC3 cI cL cZ cX cG ad (29) (Gm), l3C0 cI cL cZ ad (40) (ww), l3C0 cI cL cZ ad (o3) (uu)]) (fun vv_ ww_ => ∃ (w2 : Nat → Int), ∃ (dn2 : Int), (AlR Gm kk uu rr w2 dn2) ∧ vv_ = none ∧ ww_ = [mdoC0 cI cL cZ ad (0) (((m : Nat) : Int)) (((n : Nat) : Int)) (yy) (((kk : Nat) : Int)) (dn2) (on) (tw) (bt) (bl) (bd) (na) (dt) (tl) (ul) (th) (uh) (hd) (cn), mgC0 cI cL cZ cX cG ad (29) (Gm), mgC1 cI cL cZ cX cG ad (29) (Gm), mgC2 cI cL cZ cX cG ad (29) (Gm), mgC3 cI cL cZ cX cG ad (29) (Gm), l3C0 cI cL cZ ad (40) (w2), l3C0 cI cL cZ ad (o3) (uu)]) := by
  refine Ct.of (by decide) (Nat.le_of_ble_eq_true rfl) (fun G hG => ?_)
  show G 0 [(0, .ref (ad (0))), (1, .ref (ad (o3))), (2, iV (((rr : Nat) : Int)))] [] ([mdoC0 cI cL cZ ad (0) (((m : Nat) : Int)) (((n : Nat) : Int)) (yy) (((kk : Nat) : Int)) (dn) (on) (tw) (bt) (bl) (bd) (na) (dt) (tl) (ul) (th) (uh) (hd) (cn), mgC0 cI cL cZ cX cG ad (29) (Gm), mgC1 cI cL cZ cX cG ad (29) (Gm), mgC2 cI cL cZ cX cG ad (29) (Gm), mgC3 cI cL cZ cX cG ad (29) (Gm), l3C0 cI cL cZ ad (40) (ww), l3C0 cI cL cZ ad (o3) (uu)])
  refine g_aload_n (pc := 0) hG 0 rfl dX11_alongOne_0 ?_
  refine g_lconst (z := 1) (pc := 1) hG dX11_alongOne_1 (by decide) ?_
  refine g_put (pc := 2) hG fp11_116 0 rfl rfl rfl (Nat.le_of_ble_eq_true rfl) (ws' := [mdoC0 cI cL cZ ad (0) (((m : Nat) : Int)) (((n : Nat) : Int)) (yy) (((kk : Nat) : Int)) (1) (on) (tw) (bt) (bl) (bd) (na) (dt) (tl) (ul) (th) (uh) (hd) (cn), mgC0 cI cL cZ cX cG ad (29) (Gm), mgC1 cI cL cZ cX cG ad (29) (Gm), mgC2 cI cL cZ cX cG ad (29) (Gm), mgC3 cI cL cZ cX cG ad (29) (Gm), l3C0 cI cL cZ ad (40) (ww), l3C0 cI cL cZ ad (o3) (uu)]) rfl dX11_alongOne_2 ?_
  refine g_iconst (pc := 5) hG dX11_alongOne_5 ?_
  refine g_istore_n (pc := 6) hG (by decide) (lv' := [(3, iV (0)), (0, .ref (ad (0))), (1, .ref (ad (o3))), (2, iV (((rr : Nat) : Int)))]) rfl dX11_alongOne_6 ?_
  have L7 : ∀ (fu7 : Nat) (i : Nat) (w9 : Nat → Int), kk - i < fu7 → (i ≤ kk) → (∀ j, j < i → w9 j = 0) → G 7 [(0, .ref (ad (0))), (1, .ref (ad (o3))), (2, iV (((rr : Nat) : Int))), (3, iV (((i : Nat) : Int)))] [] ([mdoC0 cI cL cZ ad (0) (((m : Nat) : Int)) (((n : Nat) : Int)) (yy) (((kk : Nat) : Int)) (1) (on) (tw) (bt) (bl) (bd) (na) (dt) (tl) (ul) (th) (uh) (hd) (cn), mgC0 cI cL cZ cX cG ad (29) (Gm), mgC1 cI cL cZ cX cG ad (29) (Gm), mgC2 cI cL cZ cX cG ad (29) (Gm), mgC3 cI cL cZ cX cG ad (29) (Gm), l3C0 cI cL cZ ad (40) (w9), l3C0 cI cL cZ ad (o3) (uu)]) := by
    intro fu7
    induction fu7 with
    | zero => intro i w9 hm; exact absurd hm (Nat.not_lt_zero _)
    | succ fu7 ih7 =>
      intro i w9 hm7 hi h9
      refine g_iload_n (pc := 7) hG 3 rfl dX11_alongOne_7 ?_
      refine g_aload_n (pc := 8) hG 0 rfl dX11_alongOne_8 ?_
      refine g_get (pc := 9) hG fl11_101 0 rfl rfl dX11_alongOne_9 ?_
      refine g_icmp_ge (pc := 12) hG (by omega) (by omega) (tgt := 28) (by decide) dX11_alongOne_12 (fun h12 => ?_) (fun h12 => ?_)
      · refine g_iconst (pc := 28) hG dX11_alongOne_28 ?_
        refine g_istore_n (pc := 29) hG (by decide) (lv' := [(3, iV (0)), (0, .ref (ad (0))), (1, .ref (ad (o3))), (2, iV (((rr : Nat) : Int)))]) rfl dX11_alongOne_29 ?_
        have L30 : ∀ (fu30 : Nat) (a : Nat), 3 - a < fu30 → (rr = 1 → ∃ b, a ≤ b ∧ b < kk ∧ Gm b b ≠ 0) → G 30 [(0, .ref (ad (0))), (1, .ref (ad (o3))), (2, iV (((rr : Nat) : Int))), (3, iV (((a : Nat) : Int)))] [] ([mdoC0 cI cL cZ ad (0) (((m : Nat) : Int)) (((n : Nat) : Int)) (yy) (((kk : Nat) : Int)) (1) (on) (tw) (bt) (bl) (bd) (na) (dt) (tl) (ul) (th) (uh) (hd) (cn), mgC0 cI cL cZ cX cG ad (29) (Gm), mgC1 cI cL cZ cX cG ad (29) (Gm), mgC2 cI cL cZ cX cG ad (29) (Gm), mgC3 cI cL cZ cX cG ad (29) (Gm), l3C0 cI cL cZ ad (40) (w9), l3C0 cI cL cZ ad (o3) (uu)]) := by
          intro fu30
          induction fu30 with
          | zero => intro a hm; exact absurd hm (Nat.not_lt_zero _)
          | succ fu30 ih30 =>
            intro a hm30 ha
            refine g_iload_n (pc := 30) hG 2 rfl dX11_alongOne_30 ?_
            refine g_iconst (pc := 31) hG dX11_alongOne_31 ?_
            have J54 : ∀ (_ : Unit), (((¬ ((rr : Nat) : Int) = 1)) ∨ ((((rr : Nat) : Int) = 1) ∧ (¬ Gm a a = 0))) → G 54 [(0, .ref (ad (0))), (1, .ref (ad (o3))), (2, iV (((rr : Nat) : Int))), (3, iV (((a : Nat) : Int)))] [] ([mdoC0 cI cL cZ ad (0) (((m : Nat) : Int)) (((n : Nat) : Int)) (yy) (((kk : Nat) : Int)) (1) (on) (tw) (bt) (bl) (bd) (na) (dt) (tl) (ul) (th) (uh) (hd) (cn), mgC0 cI cL cZ cX cG ad (29) (Gm), mgC1 cI cL cZ cX cG ad (29) (Gm), mgC2 cI cL cZ cX cG ad (29) (Gm), mgC3 cI cL cZ cX cG ad (29) (Gm), l3C0 cI cL cZ ad (40) (w9), l3C0 cI cL cZ ad (o3) (uu)]) := by
              intro _ k54
              refine g_iload_n (pc := 54) hG 2 rfl dX11_alongOne_54 ?_
              refine g_if_ne (pc := 55) hG (by omega) (tgt := 59) (by decide) dX11_alongOne_55 (fun h55 => ?_) (fun h55 => ?_)
              · have hr1 : rr = 1 := by omega
                have hga : ¬ Gm a a = 0 := by omega
                obtain ⟨b8, hb1, hb2, hb3⟩ := ha hr1
                refine g_lconst (z := 0) (pc := 59) hG dX11_alongOne_59 (by decide) ?_
                refine g_lstore (pc := 60) hG (by decide) (lv' := [(4, lV (0)), (0, .ref (ad (0))), (1, .ref (ad (o3))), (2, iV (((rr : Nat) : Int))), (3, iV (((a : Nat) : Int)))]) rfl dX11_alongOne_60 ?_
                refine g_iconst (pc := 62) hG dX11_alongOne_62 ?_
                refine g_istore (pc := 63) hG (by decide) (lv' := [(6, iV (0)), (4, lV (0)), (0, .ref (ad (0))), (1, .ref (ad (o3))), (2, iV (((rr : Nat) : Int))), (3, iV (((a : Nat) : Int)))]) rfl dX11_alongOne_63 ?_
                have L65 : ∀ (fu65 : Nat) (f : Int) (c : Nat), kk - c < fu65 → (c ≤ kk) → (AgI Gm a c f) → G 65 [(0, .ref (ad (0))), (1, .ref (ad (o3))), (2, iV (((rr : Nat) : Int))), (3, iV (((a : Nat) : Int))), (4, lV (f)), (6, iV (((c : Nat) : Int)))] [] ([mdoC0 cI cL cZ ad (0) (((m : Nat) : Int)) (((n : Nat) : Int)) (yy) (((kk : Nat) : Int)) (1) (on) (tw) (bt) (bl) (bd) (na) (dt) (tl) (ul) (th) (uh) (hd) (cn), mgC0 cI cL cZ cX cG ad (29) (Gm), mgC1 cI cL cZ cX cG ad (29) (Gm), mgC2 cI cL cZ cX cG ad (29) (Gm), mgC3 cI cL cZ cX cG ad (29) (Gm), l3C0 cI cL cZ ad (40) (w9), l3C0 cI cL cZ ad (o3) (uu)]) := by
                  intro fu65
                  induction fu65 with
                  | zero => intro f c hm; exact absurd hm (Nat.not_lt_zero _)
                  | succ fu65 ih65 =>
                    intro f c hm65 hc hf
                    refine g_iload (pc := 65) hG 5 rfl dX11_alongOne_65 ?_
                    refine g_aload_n (pc := 67) hG 0 rfl dX11_alongOne_67 ?_
                    refine g_get (pc := 68) hG fl11_101 0 rfl rfl dX11_alongOne_68 ?_
                    refine g_icmp_ge (pc := 71) hG (by omega) (by omega) (tgt := 96) (by decide) dX11_alongOne_71 (fun h71 => ?_) (fun h71 => ?_)
                    · have hf2 : AgI Gm a kk f := (show c = kk by omega) ▸ hf
                      have hfp := hf2.pos (by omega) hga
                      have hfb := hf2.1
                      refine g_lconst (z := 0) (pc := 96) hG dX11_alongOne_96 (by decide) ?_
                      refine g_lstore (pc := 97) hG (by decide) (lv' := [(6, lV (0)), (0, .ref (ad (0))), (1, .ref (ad (o3))), (2, iV (((rr : Nat) : Int))), (3, iV (((a : Nat) : Int))), (4, lV (f))]) rfl dX11_alongOne_97 ?_
                      refine g_lconst (z := 0) (pc := 99) hG dX11_alongOne_99 (by decide) ?_
                      refine g_lstore (pc := 100) hG (by decide) (lv' := [(8, lV (0)), (6, lV (0)), (0, .ref (ad (0))), (1, .ref (ad (o3))), (2, iV (((rr : Nat) : Int))), (3, iV (((a : Nat) : Int))), (4, lV (f))]) rfl dX11_alongOne_100 ?_
                      refine g_iconst (pc := 102) hG dX11_alongOne_102 ?_
                      refine g_istore (pc := 103) hG (by decide) (lv' := [(10, iV (0)), (8, lV (0)), (6, lV (0)), (0, .ref (ad (0))), (1, .ref (ad (o3))), (2, iV (((rr : Nat) : Int))), (3, iV (((a : Nat) : Int))), (4, lV (f))]) rfl dX11_alongOne_103 ?_
                      have L105 : ∀ (fu105 : Nat) (tp : Int) (lw : Int) (c5 : Nat), kk - c5 < fu105 → (c5 ≤ kk) → (tp = alT (alD Gm a f) uu c5) → (lw = alL Gm (alD Gm a f) kk c5) → G 105 [(0, .ref (ad (0))), (1, .ref (ad (o3))), (2, iV (((rr : Nat) : Int))), (3, iV (((a : Nat) : Int))), (4, lV (f)), (6, lV (tp)), (8, lV (lw)), (10, iV (((c5 : Nat) : Int)))] [] ([mdoC0 cI cL cZ ad (0) (((m : Nat) : Int)) (((n : Nat) : Int)) (yy) (((kk : Nat) : Int)) (1) (on) (tw) (bt) (bl) (bd) (na) (dt) (tl) (ul) (th) (uh) (hd) (cn), mgC0 cI cL cZ cX cG ad (29) (Gm), mgC1 cI cL cZ cX cG ad (29) (Gm), mgC2 cI cL cZ cX cG ad (29) (Gm), mgC3 cI cL cZ cX cG ad (29) (Gm), l3C0 cI cL cZ ad (40) (w9), l3C0 cI cL cZ ad (o3) (uu)]) := by
                        intro fu105
                        induction fu105 with
                        | zero => intro tp lw c5 hm; exact absurd hm (Nat.not_lt_zero _)
                        | succ fu105 ih105 =>
                          intro tp lw c5 hm105 hc5 htp hlw
                          refine g_iload (pc := 105) hG 7 rfl dX11_alongOne_105 ?_
                          refine g_aload_n (pc := 107) hG 0 rfl dX11_alongOne_107 ?_
                          refine g_get (pc := 108) hG fl11_101 0 rfl rfl dX11_alongOne_108 ?_
                          refine g_icmp_ge (pc := 111) hG (by omega) (by omega) (tgt := 195) (by decide) dX11_alongOne_111 (fun h111 => ?_) (fun h111 => ?_)
                          · refine g_iconst (pc := 195) hG dX11_alongOne_195 ?_
                            refine g_istore (pc := 196) hG (by decide) (lv' := [(10, iV (0)), (0, .ref (ad (0))), (1, .ref (ad (o3))), (2, iV (((rr : Nat) : Int))), (3, iV (((a : Nat) : Int))), (4, lV (f)), (6, lV (tp)), (8, lV (lw))]) rfl dX11_alongOne_196 ?_
                            have L198 : ∀ (fu198 : Nat) (c6 : Nat) (w6 : Nat → Int), kk - c6 < fu198 → (c6 ≤ kk) → (∀ j, j < c6 → w6 j = tp * alD Gm a f j) → G 198 [(0, .ref (ad (0))), (1, .ref (ad (o3))), (2, iV (((rr : Nat) : Int))), (3, iV (((a : Nat) : Int))), (4, lV (f)), (6, lV (tp)), (8, lV (lw)), (10, iV (((c6 : Nat) : Int)))] [] ([mdoC0 cI cL cZ ad (0) (((m : Nat) : Int)) (((n : Nat) : Int)) (yy) (((kk : Nat) : Int)) (1) (on) (tw) (bt) (bl) (bd) (na) (dt) (tl) (ul) (th) (uh) (hd) (cn), mgC0 cI cL cZ cX cG ad (29) (Gm), mgC1 cI cL cZ cX cG ad (29) (Gm), mgC2 cI cL cZ cX cG ad (29) (Gm), mgC3 cI cL cZ cX cG ad (29) (Gm), l3C0 cI cL cZ ad (40) (w6), l3C0 cI cL cZ ad (o3) (uu)]) := by
                              intro fu198
                              induction fu198 with
                              | zero => intro c6 w6 hm; exact absurd hm (Nat.not_lt_zero _)
                              | succ fu198 ih198 =>
                                intro c6 w6 hm198 hc6 h6
                                refine g_iload (pc := 198) hG 7 rfl dX11_alongOne_198 ?_
                                refine g_aload_n (pc := 200) hG 0 rfl dX11_alongOne_200 ?_
                                refine g_get (pc := 201) hG fl11_101 0 rfl rfl dX11_alongOne_201 ?_
                                refine g_icmp_ge (pc := 204) hG (by omega) (by omega) (tgt := 235) (by decide) dX11_alongOne_204 (fun h204 => ?_) (fun h204 => ?_)
                                · refine g_aload_n (pc := 235) hG 0 rfl dX11_alongOne_235 ?_
                                  refine g_lload (pc := 236) hG 6 rfl dX11_alongOne_236 ?_
                                  refine g_put (pc := 238) hG fp11_116 0 rfl rfl rfl (Nat.le_of_ble_eq_true rfl) (ws' := [mdoC0 cI cL cZ ad (0) (((m : Nat) : Int)) (((n : Nat) : Int)) (yy) (((kk : Nat) : Int)) (lw) (on) (tw) (bt) (bl) (bd) (na) (dt) (tl) (ul) (th) (uh) (hd) (cn), mgC0 cI cL cZ cX cG ad (29) (Gm), mgC1 cI cL cZ cX cG ad (29) (Gm), mgC2 cI cL cZ cX cG ad (29) (Gm), mgC3 cI cL cZ cX cG ad (29) (Gm), l3C0 cI cL cZ ad (40) (w6), l3C0 cI cL cZ ad (o3) (uu)]) rfl dX11_alongOne_238 ?_
                                  exact g_return (pc := 241) hG ⟨w6, lw, Or.inr ⟨hr1, a, f, by omega, hga, hfp, hf2.2.2, by rw [hlw, show c5 = kk by omega], fun c hc => by rw [h6 c (by omega), htp, show c5 = kk by omega]⟩, rfl, rfl⟩ dX11_alongOne_241
                                · refine g_aload_n (pc := 207) hG 0 rfl dX11_alongOne_207 ?_
                                  refine g_get (pc := 208) hG fl11_47 0 rfl rfl dX11_alongOne_208 ?_
                                  refine g_iload (pc := 211) hG 7 rfl dX11_alongOne_211 ?_
                                  refine g_lload (pc := 213) hG 5 rfl dX11_alongOne_213 ?_
                                  refine g_aload_n (pc := 215) hG 0 rfl dX11_alongOne_215 ?_
                                  refine g_get (pc := 216) hG fl11_31 0 rfl rfl dX11_alongOne_216 ?_
                                  refine g_iload_n (pc := 219) hG 3 rfl dX11_alongOne_219 ?_
                                  refine g_aaload (pc := 220) hG 1 4 a rfl rfl (by omega) (by omega) (by decide) dX11_alongOne_220 ?_
                                  refine g_iload (pc := 221) hG 7 rfl dX11_alongOne_221 ?_
                                  refine g_laload (pc := 223) hG (2 + a) c6 (rw_at [mdoC0 cI cL cZ ad (0) (((m : Nat) : Int)) (((n : Nat) : Int)) (yy) (((kk : Nat) : Int)) (1) (on) (tw) (bt) (bl) (bd) (na) (dt) (tl) (ul) (th) (uh) (hd) (cn), mgC0 cI cL cZ cX cG ad (29) (Gm)] _ 3 (fun i9 => (ad (30 + i9), aL cL 3 (Gm i9))) (by omega)) rfl (by omega) (by omega) (by decide) dX11_alongOne_223 ?_
                                  have hgb := hGb a c6 (by omega) (by omega)
                                  refine g_lload (pc := 224) hG 4 rfl dX11_alongOne_224 ?_
                                  refine g_ldiv (pc := 226) hG (by omega) (by omega) (by omega) (by omega) dX11_alongOne_226 ?_
                                  refine g_lmul (pc := 227) hG dX11_alongOne_227 ?_
                                  refine g_nmL (pc := 228) hG (fun x228 ex228 => ?_)
                                  refine g_lastore (pc := 228) hG 5 c6 rfl rfl (by omega) (by omega) (by decide) (ws' := [mdoC0 cI cL cZ ad (0) (((m : Nat) : Int)) (((n : Nat) : Int)) (yy) (((kk : Nat) : Int)) (1) (on) (tw) (bt) (bl) (bd) (na) (dt) (tl) (ul) (th) (uh) (hd) (cn), mgC0 cI cL cZ cX cG ad (29) (Gm), mgC1 cI cL cZ cX cG ad (29) (Gm), mgC2 cI cL cZ cX cG ad (29) (Gm), mgC3 cI cL cZ cX cG ad (29) (Gm), l3C0 cI cL cZ ad (40) (upZ w6 c6 x228), l3C0 cI cL cZ ad (o3) (uu)]) rfl dX11_alongOne_228 ?_
                                  refine g_iinc (pc := 229) hG 7 rfl (by decide) (lv' := [(10, iV ((((c6 : Nat) : Int)) + 1)), (0, .ref (ad (0))), (1, .ref (ad (o3))), (2, iV (((rr : Nat) : Int))), (3, iV (((a : Nat) : Int))), (4, lV (f)), (6, lV (tp)), (8, lV (lw))]) rfl dX11_alongOne_229 ?_
                                  refine g_goto (pc := 232) hG (tgt := 198) (by decide) dX11_alongOne_232 ?_
                                  exact g_lv (pc := 198) hG [1, 2, 3, 4, 5, 6, 7, 0] rfl (ih198 (c6 + 1) (upZ w6 c6 x228) (by omega) (by omega) (fill_step (g := fun j => tp * alD Gm a f j) h6 (by assumption)))
                            exact g_lv (pc := 198) hG [1, 2, 3, 4, 5, 6, 7, 0] rfl (L198 _ 0 w9 (Nat.lt_succ_self _) (Nat.zero_le _) (fun j h => absurd h (Nat.not_lt_zero _)))
                          · refine g_aload_n (pc := 114) hG 0 rfl dX11_alongOne_114 ?_
                            refine g_get (pc := 115) hG fl11_31 0 rfl rfl dX11_alongOne_115 ?_
                            refine g_iload_n (pc := 118) hG 3 rfl dX11_alongOne_118 ?_
                            refine g_aaload (pc := 119) hG 1 4 a rfl rfl (by omega) (by omega) (by decide) dX11_alongOne_119 ?_
                            refine g_iload (pc := 120) hG 7 rfl dX11_alongOne_120 ?_
                            refine g_laload (pc := 122) hG (2 + a) c5 (rw_at [mdoC0 cI cL cZ ad (0) (((m : Nat) : Int)) (((n : Nat) : Int)) (yy) (((kk : Nat) : Int)) (1) (on) (tw) (bt) (bl) (bd) (na) (dt) (tl) (ul) (th) (uh) (hd) (cn), mgC0 cI cL cZ cX cG ad (29) (Gm)] _ 3 (fun i9 => (ad (30 + i9), aL cL 3 (Gm i9))) (by omega)) rfl (by omega) (by omega) (by decide) dX11_alongOne_122 ?_
                            have hgb := hGb a c5 (by omega) (by omega)
                            refine g_lload (pc := 123) hG 4 rfl dX11_alongOne_123 ?_
                            refine g_ldiv (pc := 125) hG (by omega) (by omega) (by omega) (by omega) dX11_alongOne_125 ?_
                            refine g_nmL (pc := 126) hG (fun x126 ex126 => ?_)
                            refine g_lstore (pc := 126) hG (by decide) (lv' := [(11, lV (x126)), (0, .ref (ad (0))), (1, .ref (ad (o3))), (2, iV (((rr : Nat) : Int))), (3, iV (((a : Nat) : Int))), (4, lV (f)), (6, lV (tp)), (8, lV (lw)), (10, iV (((c5 : Nat) : Int)))]) rfl dX11_alongOne_126 ?_
                            refine g_lload (pc := 128) hG 6 rfl dX11_alongOne_128 ?_
                            refine g_lload (pc := 130) hG 0 rfl dX11_alongOne_130 ?_
                            refine g_aload_n (pc := 132) hG 2 rfl dX11_alongOne_132 ?_
                            refine g_iload (pc := 133) hG 8 rfl dX11_alongOne_133 ?_
                            refine g_laload (pc := 135) hG 6 c5 rfl rfl (by omega) (by omega) (by decide) dX11_alongOne_135 ?_
                            refine g_lmul (pc := 136) hG dX11_alongOne_136 ?_
                            refine g_ladd (pc := 137) hG dX11_alongOne_137 ?_
                            refine g_nmL (pc := 138) hG (fun x138 ex138 => ?_)
                            refine g_lstore (pc := 138) hG (by decide) (lv' := [(6, lV (x138)), (11, lV (x126)), (0, .ref (ad (0))), (1, .ref (ad (o3))), (2, iV (((rr : Nat) : Int))), (3, iV (((a : Nat) : Int))), (4, lV (f)), (8, lV (lw)), (10, iV (((c5 : Nat) : Int)))]) rfl dX11_alongOne_138 ?_
                            refine g_iconst (pc := 140) hG dX11_alongOne_140 ?_
                            refine g_istore (pc := 141) hG (by decide) (lv' := [(13, iV (0)), (6, lV (x138)), (11, lV (x126)), (0, .ref (ad (0))), (1, .ref (ad (o3))), (2, iV (((rr : Nat) : Int))), (3, iV (((a : Nat) : Int))), (4, lV (f)), (8, lV (lw)), (10, iV (((c5 : Nat) : Int)))]) rfl dX11_alongOne_141 ?_
                            have L143 : ∀ (fu143 : Nat) (lx : Int) (b7 : Nat), kk - b7 < fu143 → (b7 ≤ kk) → (lx = lw + alI Gm (alD Gm a f) c5 b7) → G 143 [(0, .ref (ad (0))), (1, .ref (ad (o3))), (2, iV (((rr : Nat) : Int))), (3, iV (((a : Nat) : Int))), (4, lV (f)), (6, lV (x138)), (8, lV (lx)), (10, iV (((c5 : Nat) : Int))), (11, lV (x126)), (13, iV (((b7 : Nat) : Int)))] [] ([mdoC0 cI cL cZ ad (0) (((m : Nat) : Int)) (((n : Nat) : Int)) (yy) (((kk : Nat) : Int)) (1) (on) (tw) (bt) (bl) (bd) (na) (dt) (tl) (ul) (th) (uh) (hd) (cn), mgC0 cI cL cZ cX cG ad (29) (Gm), mgC1 cI cL cZ cX cG ad (29) (Gm), mgC2 cI cL cZ cX cG ad (29) (Gm), mgC3 cI cL cZ cX cG ad (29) (Gm), l3C0 cI cL cZ ad (40) (w9), l3C0 cI cL cZ ad (o3) (uu)]) := by
                              intro fu143
                              induction fu143 with
                              | zero => intro lx b7 hm; exact absurd hm (Nat.not_lt_zero _)
                              | succ fu143 ih143 =>
                                intro lx b7 hm143 hb7 hlx
                                refine g_iload (pc := 143) hG 9 rfl dX11_alongOne_143 ?_
                                refine g_aload_n (pc := 145) hG 0 rfl dX11_alongOne_145 ?_
                                refine g_get (pc := 146) hG fl11_101 0 rfl rfl dX11_alongOne_146 ?_
                                refine g_icmp_ge (pc := 149) hG (by omega) (by omega) (tgt := 189) (by decide) dX11_alongOne_149 (fun h149 => ?_) (fun h149 => ?_)
                                · refine g_iinc (pc := 189) hG 7 rfl (by decide) (lv' := [(10, iV ((((c5 : Nat) : Int)) + 1)), (0, .ref (ad (0))), (1, .ref (ad (o3))), (2, iV (((rr : Nat) : Int))), (3, iV (((a : Nat) : Int))), (4, lV (f)), (6, lV (x138)), (8, lV (lx)), (11, lV (x126)), (13, iV (((b7 : Nat) : Int)))]) rfl dX11_alongOne_189 ?_
                                  refine g_goto (pc := 192) hG (tgt := 105) (by decide) dX11_alongOne_192 ?_
                                  exact g_lv (pc := 105) hG [1, 2, 3, 4, 5, 6, 7, 0] rfl (ih105 x138 lx (c5 + 1) (by omega) (by omega) (by rw [ex138, htp, ex126]; rfl) (by rw [hlx, hlw, show b7 = kk by omega]; rfl))
                                · refine g_lload (pc := 152) hG 6 rfl dX11_alongOne_152 ?_
                                  refine g_lload (pc := 154) hG 8 rfl dX11_alongOne_154 ?_
                                  refine g_aload_n (pc := 156) hG 0 rfl dX11_alongOne_156 ?_
                                  refine g_get (pc := 157) hG fl11_31 0 rfl rfl dX11_alongOne_157 ?_
                                  refine g_iload (pc := 160) hG 7 rfl dX11_alongOne_160 ?_
                                  refine g_aaload (pc := 162) hG 1 4 c5 rfl rfl (by omega) (by omega) (by decide) dX11_alongOne_162 ?_
                                  refine g_iload (pc := 163) hG 9 rfl dX11_alongOne_163 ?_
                                  refine g_laload (pc := 165) hG (2 + c5) b7 (rw_at [mdoC0 cI cL cZ ad (0) (((m : Nat) : Int)) (((n : Nat) : Int)) (yy) (((kk : Nat) : Int)) (1) (on) (tw) (bt) (bl) (bd) (na) (dt) (tl) (ul) (th) (uh) (hd) (cn), mgC0 cI cL cZ cX cG ad (29) (Gm)] _ 3 (fun i9 => (ad (30 + i9), aL cL 3 (Gm i9))) (by omega)) rfl (by omega) (by omega) (by decide) dX11_alongOne_165 ?_
                                  refine g_lmul (pc := 166) hG dX11_alongOne_166 ?_
                                  refine g_aload_n (pc := 167) hG 0 rfl dX11_alongOne_167 ?_
                                  refine g_get (pc := 168) hG fl11_31 0 rfl rfl dX11_alongOne_168 ?_
                                  refine g_iload_n (pc := 171) hG 3 rfl dX11_alongOne_171 ?_
                                  refine g_aaload (pc := 172) hG 1 4 a rfl rfl (by omega) (by omega) (by decide) dX11_alongOne_172 ?_
                                  refine g_iload (pc := 173) hG 9 rfl dX11_alongOne_173 ?_
                                  refine g_laload (pc := 175) hG (2 + a) b7 (rw_at [mdoC0 cI cL cZ ad (0) (((m : Nat) : Int)) (((n : Nat) : Int)) (yy) (((kk : Nat) : Int)) (1) (on) (tw) (bt) (bl) (bd) (na) (dt) (tl) (ul) (th) (uh) (hd) (cn), mgC0 cI cL cZ cX cG ad (29) (Gm)] _ 3 (fun i9 => (ad (30 + i9), aL cL 3 (Gm i9))) (by omega)) rfl (by omega) (by omega) (by decide) dX11_alongOne_175 ?_
                                  have hgb := hGb a b7 (by omega) (by omega)
                                  refine g_lload (pc := 176) hG 4 rfl dX11_alongOne_176 ?_
                                  refine g_ldiv (pc := 178) hG (by omega) (by omega) (by omega) (by omega) dX11_alongOne_178 ?_
                                  refine g_lmul (pc := 179) hG dX11_alongOne_179 ?_
                                  refine g_ladd (pc := 180) hG dX11_alongOne_180 ?_
                                  refine g_nmL (pc := 181) hG (fun x181 ex181 => ?_)
                                  refine g_lstore (pc := 181) hG (by decide) (lv' := [(8, lV (x181)), (0, .ref (ad (0))), (1, .ref (ad (o3))), (2, iV (((rr : Nat) : Int))), (3, iV (((a : Nat) : Int))), (4, lV (f)), (6, lV (x138)), (10, iV (((c5 : Nat) : Int))), (11, lV (x126)), (13, iV (((b7 : Nat) : Int)))]) rfl dX11_alongOne_181 ?_
                                  refine g_iinc (pc := 183) hG 9 rfl (by decide) (lv' := [(13, iV ((((b7 : Nat) : Int)) + 1)), (8, lV (x181)), (0, .ref (ad (0))), (1, .ref (ad (o3))), (2, iV (((rr : Nat) : Int))), (3, iV (((a : Nat) : Int))), (4, lV (f)), (6, lV (x138)), (10, iV (((c5 : Nat) : Int))), (11, lV (x126))]) rfl dX11_alongOne_183 ?_
                                  refine g_goto (pc := 186) hG (tgt := 143) (by decide) dX11_alongOne_186 ?_
                                  exact g_lv (pc := 143) hG [2, 3, 4, 5, 6, 7, 1, 8, 9, 0] rfl (ih143 x181 (b7 + 1) (by omega) (by omega) (by rw [ex181, hlx, ex126, Int.add_assoc]; rfl))
                            exact g_lv (pc := 143) hG [3, 4, 5, 6, 7, 1, 8, 9, 2, 0] rfl (L143 _ lw 0 (Nat.lt_succ_self _) (Nat.zero_le _) (by simp [alI]))
                      exact g_lv (pc := 105) hG [3, 4, 5, 6, 7, 2, 1, 0] rfl (L105 _ 0 0 0 (Nat.lt_succ_self _) (Nat.zero_le _) (rfl) (rfl))
                    · refine g_lload (pc := 74) hG 4 rfl dX11_alongOne_74 ?_
                      refine g_aload_n (pc := 76) hG 0 rfl dX11_alongOne_76 ?_
                      refine g_get (pc := 77) hG fl11_31 0 rfl rfl dX11_alongOne_77 ?_
                      refine g_iload_n (pc := 80) hG 3 rfl dX11_alongOne_80 ?_
                      refine g_aaload (pc := 81) hG 1 4 a rfl rfl (by omega) (by omega) (by decide) dX11_alongOne_81 ?_
                      refine g_iload (pc := 82) hG 5 rfl dX11_alongOne_82 ?_
                      refine g_laload (pc := 84) hG (2 + a) c (rw_at [mdoC0 cI cL cZ ad (0) (((m : Nat) : Int)) (((n : Nat) : Int)) (yy) (((kk : Nat) : Int)) (1) (on) (tw) (bt) (bl) (bd) (na) (dt) (tl) (ul) (th) (uh) (hd) (cn), mgC0 cI cL cZ cX cG ad (29) (Gm)] _ 3 (fun i9 => (ad (30 + i9), aL cL 3 (Gm i9))) (by omega)) rfl (by omega) (by omega) (by decide) dX11_alongOne_84 ?_
                      have hgb := hGb a c (by omega) (by omega)
                      have hfb := hf.1
                      refine g_callP (pc := 85) hG (As := [lV (f), lV (Gm a c)]) (rest := []) (c_X11_divisor (l := l) (D := D) (cI := cI) (cL := cL) (cZ := cZ) (cX := cX) (cG := cG) f (Gm a c) (by omega) (by omega)) cs11_85 ⟨rfl, rfl⟩ ⟨Nat.le_of_ble_eq_true rfl, Nat.le_of_ble_eq_true rfl⟩ rfl rfl (Nat.le_of_ble_eq_true rfl) dX11_alongOne_85 (fun v h => ?_)
                      obtain ⟨rfl, -⟩ := h
                      show G 88 [(0, .ref (ad (0))), (1, .ref (ad (o3))), (2, iV (((rr : Nat) : Int))), (3, iV (((a : Nat) : Int))), (4, lV (f)), (6, iV (((c : Nat) : Int)))] [lV (((Int.gcd f (Gm a c) : Nat) : Int))] ([mdoC0 cI cL cZ ad (0) (((m : Nat) : Int)) (((n : Nat) : Int)) (yy) (((kk : Nat) : Int)) (1) (on) (tw) (bt) (bl) (bd) (na) (dt) (tl) (ul) (th) (uh) (hd) (cn), mgC0 cI cL cZ cX cG ad (29) (Gm), mgC1 cI cL cZ cX cG ad (29) (Gm), mgC2 cI cL cZ cX cG ad (29) (Gm), mgC3 cI cL cZ cX cG ad (29) (Gm), l3C0 cI cL cZ ad (40) (w9), l3C0 cI cL cZ ad (o3) (uu)])
                      refine g_lstore (pc := 88) hG (by decide) (lv' := [(4, lV (((Int.gcd f (Gm a c) : Nat) : Int))), (0, .ref (ad (0))), (1, .ref (ad (o3))), (2, iV (((rr : Nat) : Int))), (3, iV (((a : Nat) : Int))), (6, iV (((c : Nat) : Int)))]) rfl dX11_alongOne_88 ?_
                      refine g_iinc (pc := 90) hG 5 rfl (by decide) (lv' := [(6, iV ((((c : Nat) : Int)) + 1)), (4, lV (((Int.gcd f (Gm a c) : Nat) : Int))), (0, .ref (ad (0))), (1, .ref (ad (o3))), (2, iV (((rr : Nat) : Int))), (3, iV (((a : Nat) : Int)))]) rfl dX11_alongOne_90 ?_
                      refine g_goto (pc := 93) hG (tgt := 65) (by decide) dX11_alongOne_93 ?_
                      exact g_lv (pc := 65) hG [2, 3, 4, 5, 1, 0] rfl (ih65 (((Int.gcd f (Gm a c) : Nat) : Int)) (c + 1) (by omega) (by omega) (hf.step hgb))
                exact g_lv (pc := 65) hG [2, 3, 4, 5, 1, 0] rfl (L65 _ 0 0 (Nat.lt_succ_self _) (Nat.zero_le _) (AgI.init))
              · exact g_return (pc := 58) hG ⟨w9, 1, Or.inl ⟨by omega, rfl, fun c hc => h9 c (by omega)⟩, rfl, rfl⟩ dX11_alongOne_58
            refine g_icmp_ne (pc := 32) hG (by omega) (by omega) (tgt := 54) (by decide) dX11_alongOne_32 (fun h32 => ?_) (fun h32 => ?_)
            · exact g_lv (pc := 54) hG [0, 1, 2, 3] rfl (J54 () (Or.inl (h32)))
            · obtain ⟨b8, hb1, hb2, hb3⟩ := ha (by omega)
              refine g_aload_n (pc := 35) hG 0 rfl dX11_alongOne_35 ?_
              refine g_get (pc := 36) hG fl11_31 0 rfl rfl dX11_alongOne_36 ?_
              refine g_iload_n (pc := 39) hG 3 rfl dX11_alongOne_39 ?_
              refine g_aaload (pc := 40) hG 1 4 a rfl rfl (by omega) (by omega) (by decide) dX11_alongOne_40 ?_
              refine g_iload_n (pc := 41) hG 3 rfl dX11_alongOne_41 ?_
              refine g_laload (pc := 42) hG (2 + a) a (rw_at [mdoC0 cI cL cZ ad (0) (((m : Nat) : Int)) (((n : Nat) : Int)) (yy) (((kk : Nat) : Int)) (1) (on) (tw) (bt) (bl) (bd) (na) (dt) (tl) (ul) (th) (uh) (hd) (cn), mgC0 cI cL cZ cX cG ad (29) (Gm)] _ 3 (fun i9 => (ad (30 + i9), aL cL 3 (Gm i9))) (by omega)) rfl (by omega) (by omega) (by decide) dX11_alongOne_42 ?_
              have hgb := hGb a a (by omega) (by omega)
              refine g_lconst (z := 0) (pc := 43) hG dX11_alongOne_43 (by decide) ?_
              refine g_lc_ne (pc := 44) hG (by omega) (by omega) (tgt := 54) (by decide) dX11_alongOne_44 dX11_alongOne_45 (fun h44 => ?_) (fun h44 => ?_)
              · exact g_lv (pc := 54) hG [0, 1, 2, 3] rfl (J54 () (Or.inr (⟨h32, h44⟩)))
              · refine g_iinc (pc := 48) hG 3 rfl (by decide) (lv' := [(3, iV ((((a : Nat) : Int)) + 1)), (0, .ref (ad (0))), (1, .ref (ad (o3))), (2, iV (((rr : Nat) : Int)))]) rfl dX11_alongOne_48 ?_
                refine g_goto (pc := 51) hG (tgt := 30) (by decide) dX11_alongOne_51 ?_
                exact g_lv (pc := 30) hG [1, 2, 3, 0] rfl (ih30 (a + 1) (by clear hdg ha; omega) (fun _ => ⟨b8, by rcases Nat.lt_or_ge a b8 with h | h; exact h; exact absurd h44 (by rw [show a = b8 by omega]; exact hb3), hb2, hb3⟩))
        exact g_lv (pc := 30) hG [1, 2, 3, 0] rfl (L30 _ 0 (Nat.lt_succ_self _) (fun h => by obtain ⟨a, h1, h2⟩ := hdg h; exact ⟨a, Nat.zero_le _, h1, h2⟩))
      · refine g_aload_n (pc := 15) hG 0 rfl dX11_alongOne_15 ?_
        refine g_get (pc := 16) hG fl11_47 0 rfl rfl dX11_alongOne_16 ?_
        refine g_iload_n (pc := 19) hG 3 rfl dX11_alongOne_19 ?_
        refine g_lconst (z := 0) (pc := 20) hG dX11_alongOne_20 (by decide) ?_
        refine g_lastore (pc := 21) hG 5 i rfl rfl (by omega) (by omega) (by decide) (ws' := [mdoC0 cI cL cZ ad (0) (((m : Nat) : Int)) (((n : Nat) : Int)) (yy) (((kk : Nat) : Int)) (1) (on) (tw) (bt) (bl) (bd) (na) (dt) (tl) (ul) (th) (uh) (hd) (cn), mgC0 cI cL cZ cX cG ad (29) (Gm), mgC1 cI cL cZ cX cG ad (29) (Gm), mgC2 cI cL cZ cX cG ad (29) (Gm), mgC3 cI cL cZ cX cG ad (29) (Gm), l3C0 cI cL cZ ad (40) (upZ w9 i 0), l3C0 cI cL cZ ad (o3) (uu)]) rfl dX11_alongOne_21 ?_
        refine g_iinc (pc := 22) hG 3 rfl (by decide) (lv' := [(3, iV ((((i : Nat) : Int)) + 1)), (0, .ref (ad (0))), (1, .ref (ad (o3))), (2, iV (((rr : Nat) : Int)))]) rfl dX11_alongOne_22 ?_
        refine g_goto (pc := 25) hG (tgt := 7) (by decide) dX11_alongOne_25 ?_
        exact g_lv (pc := 7) hG [1, 2, 3, 0] rfl (ih7 (i + 1) (upZ w9 i 0) (by omega) (by omega) (fill_step (g := fun _ => 0) h9 rfl))
  exact g_lv (pc := 7) hG [1, 2, 3, 0] rfl (L7 _ 0 ww (Nat.lt_succ_self _) (Nat.zero_le _) (fun j h => absurd h (Nat.not_lt_zero _)))
set_option maxHeartbeats 4000000 in
set_option maxRecDepth 100000 in
theorem c_X11_fit {l : Launch} {D : va_G} {cI cL cZ cX cG : ClassId} (ad : Nat → Nat) (m : Nat) (n : Nat) (yy : Int) (dn : Int) (on : Int) (tw : Int) (bt : Int) (bl : Int) (bd : Int) (na : Int) (dt : Int) (tl : Int) (ul : Int) (th : Int) (uh : Int) (hd : Bool) (cn : Int) (kk : Nat) (o3 : Nat) (Gm : Nat → Nat → Int) (Mm : Nat → Nat → Int) (vv : Nat → Int) (ww : Nat → Int) (nr : Nat → Int) (uu : Nat → Int) (hk : kk ≤ 3) (hGb : ∀ a b, a < kk → b < kk → -1944 ≤ Gm a b ∧ Gm a b ≤ 1944) (hu : ∀ j, j < kk → -21384 ≤ uu j ∧ uu j ≤ 21384) (hdg : (∃ a b, a < kk ∧ b < kk ∧ Gm a b ≠ 0) → ∃ a, a < kk ∧ Gm a a ≠ 0) : Ct l D (gT cI cL cZ cX cG) yX11_fit cX11_fit 4 none ({ frames := 3, cells := 0, slots := 0, locals := 78 }) [.ref (ad (0)), .ref (ad (o3))] ([mdoC0 cI cL cZ ad (0) (((m : Nat) : Int)) (((n : Nat) : Int)) (yy) (((kk : Nat) : Int)) (dn) (on) (tw) (bt) (bl) (bd) (na) (dt) (tl) (ul) (th) (uh) (hd) (cn), mgC0 cI cL cZ cX cG ad (29) (Gm), mgC1 cI cL cZ cX cG ad (29) (Gm), mgC2 cI cL cZ cX cG ad (29) (Gm), mgC3 cI cL cZ cX cG ad (29) (Gm), mgC0 cI cL cZ cX cG ad (35) (Mm), mgC1 cI cL cZ cX cG ad (35) (Mm), mgC2 cI cL cZ cX cG ad (35) (Mm), mgC3 cI cL cZ cX cG ad (35) (Mm), l3C0 cI cL cZ ad (39) (vv), l3C0 cI cL cZ ad (40) (ww), l3C0 cI cL cZ ad (41) (nr), l3C0 cI cL cZ ad (o3) (uu)]) (fun vv_ ww_ => ∃ (on2 : Int), ∃ (tw2 : Int), ∃ (M2 : Nat → Nat → Int), ∃ (v2 : Nat → Int), ∃ (w2 : Nat → Int), ∃ (dn2 : Int), ∃ (n2 : Nat → Int), (FitR Gm kk uu w2 dn2) ∧ vv_ = none ∧ ww_ = [mdoC0 cI cL cZ ad (0) (((m : Nat) : Int)) (((n : Nat) : Int)) (yy) (((kk : Nat) : Int)) (dn2) (on2) (tw2) (bt) (bl) (bd) (na) (dt) (tl) (ul) (th) (uh) (hd) (cn), mgC0 cI cL cZ cX cG ad (29) (Gm), mgC1 cI cL cZ cX cG ad (29) (Gm), mgC2 cI cL cZ cX cG ad (29) (Gm), mgC3 cI cL cZ cX cG ad (29) (Gm), mgC0 cI cL cZ cX cG ad (35) (M2), mgC1 cI cL cZ cX cG ad (35) (M2), mgC2 cI cL cZ cX cG ad (35) (M2), mgC3 cI cL cZ cX cG ad (35) (M2), l3C0 cI cL cZ ad (39) (v2), l3C0 cI cL cZ ad (40) (w2), l3C0 cI cL cZ ad (41) (n2), l3C0 cI cL cZ ad (o3) (uu)]) := by
  refine Ct.of (by decide) (Nat.le_of_ble_eq_true rfl) (fun G hG => ?_)
  show G 0 [(0, .ref (ad (0))), (1, .ref (ad (o3)))] [] ([mdoC0 cI cL cZ ad (0) (((m : Nat) : Int)) (((n : Nat) : Int)) (yy) (((kk : Nat) : Int)) (dn) (on) (tw) (bt) (bl) (bd) (na) (dt) (tl) (ul) (th) (uh) (hd) (cn), mgC0 cI cL cZ cX cG ad (29) (Gm), mgC1 cI cL cZ cX cG ad (29) (Gm), mgC2 cI cL cZ cX cG ad (29) (Gm), mgC3 cI cL cZ cX cG ad (29) (Gm), mgC0 cI cL cZ cX cG ad (35) (Mm), mgC1 cI cL cZ cX cG ad (35) (Mm), mgC2 cI cL cZ cX cG ad (35) (Mm), mgC3 cI cL cZ cX cG ad (35) (Mm), l3C0 cI cL cZ ad (39) (vv), l3C0 cI cL cZ ad (40) (ww), l3C0 cI cL cZ ad (41) (nr), l3C0 cI cL cZ ad (o3) (uu)])
  refine g_aload_n (pc := 0) hG 0 rfl dX11_fit_0 ?_
  refine g_callV (pc := 1) hG (As := []) (rest := []) (c_X11_rank (l := l) (D := D) (cI := cI) (cL := cL) (cZ := cZ) (cX := cX) (cG := cG) ad m n yy dn on tw bt bl bd na dt tl ul th uh hd cn kk Gm Mm nr (hk) (hGb)) (Sp.mg [true, true, true, true, true, true, true, true, true, false, false, true] rfl) cv11_132 ⟨rfl, rfl⟩ ⟨Nat.le_of_ble_eq_true rfl, Nat.le_of_ble_eq_true rfl⟩ 0 rfl rfl rfl rfl (Nat.le_of_ble_eq_true rfl) dX11_fit_1 (fun v w1 h => ?_)
  obtain ⟨rk2_1, on2_1, tw2_1, M2_1, n2_1, hrk_1, rfl, rfl⟩ := h
  show G 4 [(0, .ref (ad (0))), (1, .ref (ad (o3)))] [iV (((rk2_1 : Nat) : Int))] ([mdoC0 cI cL cZ ad (0) (((m : Nat) : Int)) (((n : Nat) : Int)) (yy) (((kk : Nat) : Int)) (dn) (on2_1) (tw2_1) (bt) (bl) (bd) (na) (dt) (tl) (ul) (th) (uh) (hd) (cn), mgC0 cI cL cZ cX cG ad (29) (Gm), mgC1 cI cL cZ cX cG ad (29) (Gm), mgC2 cI cL cZ cX cG ad (29) (Gm), mgC3 cI cL cZ cX cG ad (29) (Gm), mgC0 cI cL cZ cX cG ad (35) (M2_1), mgC1 cI cL cZ cX cG ad (35) (M2_1), mgC2 cI cL cZ cX cG ad (35) (M2_1), mgC3 cI cL cZ cX cG ad (35) (M2_1), l3C0 cI cL cZ ad (39) (vv), l3C0 cI cL cZ ad (40) (ww), l3C0 cI cL cZ ad (41) (n2_1), l3C0 cI cL cZ ad (o3) (uu)])
  refine g_istore_n (pc := 4) hG (by decide) (lv' := [(2, iV (((rk2_1 : Nat) : Int))), (0, .ref (ad (0))), (1, .ref (ad (o3)))]) rfl dX11_fit_4 ?_
  refine g_iload_n (pc := 5) hG 0 rfl dX11_fit_5 ?_
  refine g_aload_n (pc := 6) hG 1 rfl dX11_fit_6 ?_
  refine g_get (pc := 7) hG fl11_101 0 rfl rfl dX11_fit_7 ?_
  have hrl := hrk_1.le hk
  refine g_icmp_ne (pc := 10) hG (by omega) (by omega) (tgt := 57) (by decide) dX11_fit_10 (fun h10 => ?_) (fun h10 => ?_)
  · refine g_iload_n (pc := 57) hG 0 rfl dX11_fit_57 ?_
    refine g_iconst (pc := 58) hG dX11_fit_58 ?_
    refine g_icmp_ne (pc := 59) hG (by omega) (by omega) (tgt := 166) (by decide) dX11_fit_59 (fun h59 => ?_) (fun h59 => ?_)
    · obtain ⟨hd0, hz0, hr0⟩ := hrk_1.low (by omega) (by omega)
      refine g_aload_n (pc := 166) hG 1 rfl dX11_fit_166 ?_
      refine g_aload_n (pc := 167) hG 2 rfl dX11_fit_167 ?_
      refine g_iload_n (pc := 168) hG 0 rfl dX11_fit_168 ?_
      refine g_callV (pc := 169) hG (As := [.ref (ad (o3)), iV (((rk2_1 : Nat) : Int))]) (rest := []) (c_X11_alongOne (l := l) (D := D) (cI := cI) (cL := cL) (cZ := cZ) (cX := cX) (cG := cG) ad m n yy dn on2_1 tw2_1 bt bl bd na dt tl ul th uh hd cn kk o3 Gm ww uu rk2_1 (hk) (hGb) (by rcases hr0 with h | h <;> omega) (fun h => hdg (by rcases hr0 with h2 | h2; exact h2.2; omega))) (Sp.mg [true, true, true, true, true, false, false, false, false, false, true, false, true] rfl) cv11_139 ⟨rfl, rfl⟩ ⟨Nat.le_of_ble_eq_true rfl, Nat.le_of_ble_eq_true rfl⟩ 0 rfl rfl rfl rfl (Nat.le_of_ble_eq_true rfl) dX11_fit_169 (fun v w1 h => ?_)
      obtain ⟨w2_169, dn2_169, hal_169, rfl, rfl⟩ := h
      show G 172 [(2, iV (((rk2_1 : Nat) : Int))), (0, .ref (ad (0))), (1, .ref (ad (o3)))] [] ([mdoC0 cI cL cZ ad (0) (((m : Nat) : Int)) (((n : Nat) : Int)) (yy) (((kk : Nat) : Int)) (dn2_169) (on2_1) (tw2_1) (bt) (bl) (bd) (na) (dt) (tl) (ul) (th) (uh) (hd) (cn), mgC0 cI cL cZ cX cG ad (29) (Gm), mgC1 cI cL cZ cX cG ad (29) (Gm), mgC2 cI cL cZ cX cG ad (29) (Gm), mgC3 cI cL cZ cX cG ad (29) (Gm), mgC0 cI cL cZ cX cG ad (35) (M2_1), mgC1 cI cL cZ cX cG ad (35) (M2_1), mgC2 cI cL cZ cX cG ad (35) (M2_1), mgC3 cI cL cZ cX cG ad (35) (M2_1), l3C0 cI cL cZ ad (39) (vv), l3C0 cI cL cZ ad (40) (w2_169), l3C0 cI cL cZ ad (41) (n2_1), l3C0 cI cL cZ ad (o3) (uu)])
      exact g_return (pc := 172) hG ⟨on2_1, tw2_1, M2_1, vv, w2_169, dn2_169, n2_1, by first | exact Or.inl ⟨hfull, hsl_51.congr hk hc_43 (fun r hr => h9 r (by omega))⟩ | exact Or.inr (Or.inl ⟨hd0, hk3, i8, n2_1, hi8, hcr, hnz, hsl_160.congr (by omega) hM3 hv3⟩) | exact Or.inr (Or.inr ⟨hd0, hz0, _, hr0, hal_169⟩), rfl, rfl⟩ dX11_fit_172
    · obtain ⟨hd0, hk3, ⟨i8, hi8, he1, he2, hcr⟩, hnz⟩ := hrk_1.two (by omega) (by omega)
      have hl1 := r1_lt i8
      have hl2 := r2_lt i8
      refine g_ws (pc := 62) hG (ws' := [mdoC0 cI cL cZ ad (0) (((m : Nat) : Int)) (((n : Nat) : Int)) (yy) (((kk : Nat) : Int)) (dn) (((r1 i8 : Nat) : Int)) (((r2 i8 : Nat) : Int)) (bt) (bl) (bd) (na) (dt) (tl) (ul) (th) (uh) (hd) (cn), mgC0 cI cL cZ cX cG ad (29) (Gm), mgC1 cI cL cZ cX cG ad (29) (Gm), mgC2 cI cL cZ cX cG ad (29) (Gm), mgC3 cI cL cZ cX cG ad (29) (Gm), mgC0 cI cL cZ cX cG ad (35) (M2_1), mgC1 cI cL cZ cX cG ad (35) (M2_1), mgC2 cI cL cZ cX cG ad (35) (M2_1), mgC3 cI cL cZ cX cG ad (35) (M2_1), l3C0 cI cL cZ ad (39) (vv), l3C0 cI cL cZ ad (40) (ww), l3C0 cI cL cZ ad (41) (n2_1), l3C0 cI cL cZ ad (o3) (uu)]) (by rw [he1, he2]) ?_
      refine g_iconst (pc := 62) hG dX11_fit_62 ?_
      refine g_istore_n (pc := 63) hG (by decide) (lv' := [(3, iV (0)), (2, iV (((rk2_1 : Nat) : Int))), (0, .ref (ad (0))), (1, .ref (ad (o3)))]) rfl dX11_fit_63 ?_
      have L64 : ∀ (fu64 : Nat) (c : Nat) (M9 : Nat → Nat → Int), 3 - c < fu64 → (c ≤ 3) → (∀ r j, r < 3 → j < c → M9 r j = rwM Gm i8 n2_1 r j) → G 64 [(0, .ref (ad (0))), (1, .ref (ad (o3))), (2, iV (((rk2_1 : Nat) : Int))), (3, iV (((c : Nat) : Int)))] [] ([mdoC0 cI cL cZ ad (0) (((m : Nat) : Int)) (((n : Nat) : Int)) (yy) (((kk : Nat) : Int)) (dn) (((r1 i8 : Nat) : Int)) (((r2 i8 : Nat) : Int)) (bt) (bl) (bd) (na) (dt) (tl) (ul) (th) (uh) (hd) (cn), mgC0 cI cL cZ cX cG ad (29) (Gm), mgC1 cI cL cZ cX cG ad (29) (Gm), mgC2 cI cL cZ cX cG ad (29) (Gm), mgC3 cI cL cZ cX cG ad (29) (Gm), mgC0 cI cL cZ cX cG ad (35) (M9), mgC1 cI cL cZ cX cG ad (35) (M9), mgC2 cI cL cZ cX cG ad (35) (M9), mgC3 cI cL cZ cX cG ad (35) (M9), l3C0 cI cL cZ ad (39) (vv), l3C0 cI cL cZ ad (40) (ww), l3C0 cI cL cZ ad (41) (n2_1), l3C0 cI cL cZ ad (o3) (uu)]) := by
        intro fu64
        induction fu64 with
        | zero => intro c M9 hm; exact absurd hm (Nat.not_lt_zero _)
        | succ fu64 ih64 =>
          intro c M9 hm64 hc hM
          refine g_iload_n (pc := 64) hG 3 rfl dX11_fit_64 ?_
          refine g_iconst (pc := 65) hG dX11_fit_65 ?_
          refine g_icmp_ge (pc := 66) hG (by omega) (by omega) (tgt := 127) (by decide) dX11_fit_66 (fun h66 => ?_) (fun h66 => ?_)
          · refine g_aload_n (pc := 127) hG 0 rfl dX11_fit_127 ?_
            refine g_get (pc := 128) hG fl11_44 0 rfl rfl dX11_fit_128 ?_
            refine g_iconst (pc := 131) hG dX11_fit_131 ?_
            refine g_aload_n (pc := 132) hG 1 rfl dX11_fit_132 ?_
            refine g_aload_n (pc := 133) hG 0 rfl dX11_fit_133 ?_
            refine g_get (pc := 134) hG fl11_126 0 rfl rfl dX11_fit_134 ?_
            refine g_laload (pc := 137) hG 12 (r1 i8) rfl rfl (by omega) (by omega) (by decide) dX11_fit_137 ?_
            refine g_lastore (pc := 138) hG 9 0 rfl rfl (by omega) (by omega) (by decide) (ws' := [mdoC0 cI cL cZ ad (0) (((m : Nat) : Int)) (((n : Nat) : Int)) (yy) (((kk : Nat) : Int)) (dn) (((r1 i8 : Nat) : Int)) (((r2 i8 : Nat) : Int)) (bt) (bl) (bd) (na) (dt) (tl) (ul) (th) (uh) (hd) (cn), mgC0 cI cL cZ cX cG ad (29) (Gm), mgC1 cI cL cZ cX cG ad (29) (Gm), mgC2 cI cL cZ cX cG ad (29) (Gm), mgC3 cI cL cZ cX cG ad (29) (Gm), mgC0 cI cL cZ cX cG ad (35) (M9), mgC1 cI cL cZ cX cG ad (35) (M9), mgC2 cI cL cZ cX cG ad (35) (M9), mgC3 cI cL cZ cX cG ad (35) (M9), l3C0 cI cL cZ ad (39) (upZ vv 0 (uu (r1 i8))), l3C0 cI cL cZ ad (40) (ww), l3C0 cI cL cZ ad (41) (n2_1), l3C0 cI cL cZ ad (o3) (uu)]) rfl dX11_fit_138 ?_
            refine g_aload_n (pc := 139) hG 0 rfl dX11_fit_139 ?_
            refine g_get (pc := 140) hG fl11_44 0 rfl rfl dX11_fit_140 ?_
            refine g_iconst (pc := 143) hG dX11_fit_143 ?_
            refine g_aload_n (pc := 144) hG 1 rfl dX11_fit_144 ?_
            refine g_aload_n (pc := 145) hG 0 rfl dX11_fit_145 ?_
            refine g_get (pc := 146) hG fl11_129 0 rfl rfl dX11_fit_146 ?_
            refine g_laload (pc := 149) hG 12 (r2 i8) rfl rfl (by omega) (by omega) (by decide) dX11_fit_149 ?_
            refine g_lastore (pc := 150) hG 9 1 rfl rfl (by omega) (by omega) (by decide) (ws' := [mdoC0 cI cL cZ ad (0) (((m : Nat) : Int)) (((n : Nat) : Int)) (yy) (((kk : Nat) : Int)) (dn) (((r1 i8 : Nat) : Int)) (((r2 i8 : Nat) : Int)) (bt) (bl) (bd) (na) (dt) (tl) (ul) (th) (uh) (hd) (cn), mgC0 cI cL cZ cX cG ad (29) (Gm), mgC1 cI cL cZ cX cG ad (29) (Gm), mgC2 cI cL cZ cX cG ad (29) (Gm), mgC3 cI cL cZ cX cG ad (29) (Gm), mgC0 cI cL cZ cX cG ad (35) (M9), mgC1 cI cL cZ cX cG ad (35) (M9), mgC2 cI cL cZ cX cG ad (35) (M9), mgC3 cI cL cZ cX cG ad (35) (M9), l3C0 cI cL cZ ad (39) (upZ (upZ vv 0 (uu (r1 i8))) 1 (uu (r2 i8))), l3C0 cI cL cZ ad (40) (ww), l3C0 cI cL cZ ad (41) (n2_1), l3C0 cI cL cZ ad (o3) (uu)]) rfl dX11_fit_150 ?_
            refine g_aload_n (pc := 151) hG 0 rfl dX11_fit_151 ?_
            refine g_get (pc := 152) hG fl11_44 0 rfl rfl dX11_fit_152 ?_
            refine g_iconst (pc := 155) hG dX11_fit_155 ?_
            refine g_lconst (z := 0) (pc := 156) hG dX11_fit_156 (by decide) ?_
            refine g_lastore (pc := 157) hG 9 2 rfl rfl (by omega) (by omega) (by decide) (ws' := [mdoC0 cI cL cZ ad (0) (((m : Nat) : Int)) (((n : Nat) : Int)) (yy) (((kk : Nat) : Int)) (dn) (((r1 i8 : Nat) : Int)) (((r2 i8 : Nat) : Int)) (bt) (bl) (bd) (na) (dt) (tl) (ul) (th) (uh) (hd) (cn), mgC0 cI cL cZ cX cG ad (29) (Gm), mgC1 cI cL cZ cX cG ad (29) (Gm), mgC2 cI cL cZ cX cG ad (29) (Gm), mgC3 cI cL cZ cX cG ad (29) (Gm), mgC0 cI cL cZ cX cG ad (35) (M9), mgC1 cI cL cZ cX cG ad (35) (M9), mgC2 cI cL cZ cX cG ad (35) (M9), mgC3 cI cL cZ cX cG ad (35) (M9), l3C0 cI cL cZ ad (39) (upZ (upZ (upZ vv 0 (uu (r1 i8))) 1 (uu (r2 i8))) 2 0), l3C0 cI cL cZ ad (40) (ww), l3C0 cI cL cZ ad (41) (n2_1), l3C0 cI cL cZ ad (o3) (uu)]) rfl dX11_fit_157 ?_
            have hM3 : ∀ r j, r < 3 → j < 3 → M9 r j = rwM Gm i8 n2_1 r j := fun r j hr hj => hM r j hr (by omega)
            have hv3 := vcM_arr (vv := vv) (u := uu) i8
            have hsm := rwM_sm hk3 hGb hu hi8 hcr
            refine g_aload_n (pc := 158) hG 0 rfl dX11_fit_158 ?_
            refine g_iconst (pc := 159) hG dX11_fit_159 ?_
            refine g_callV (pc := 160) hG (As := [iV (3)]) (rest := []) (c_X11_solve (l := l) (D := D) (cI := cI) (cL := cL) (cZ := cZ) (cX := cX) (cG := cG) ad m n yy (((kk : Nat) : Int)) dn (((r1 i8 : Nat) : Int)) (((r2 i8 : Nat) : Int)) bt bl bd na dt tl ul th uh hd cn M9 (upZ (upZ (upZ vv 0 (uu (r1 i8))) 1 (uu (r2 i8))) 2 0) ww 3 (by omega) (hsm.congr hM3 hv3) (by rw [detM_congr (by omega) hM3]; exact rw_det hcr hnz)) (Sp.mg [true, false, false, false, false, true, true, true, true, true, true] rfl) cv11_136 ⟨rfl, rfl⟩ ⟨Nat.le_of_ble_eq_true rfl, Nat.le_of_ble_eq_true rfl⟩ 0 rfl rfl rfl rfl (Nat.le_of_ble_eq_true rfl) dX11_fit_160 (fun v w1 h => ?_)
            obtain ⟨w2_160, dn2_160, hsl_160, rfl, rfl⟩ := h
            show G 163 [(0, .ref (ad (0))), (1, .ref (ad (o3))), (2, iV (((rk2_1 : Nat) : Int))), (3, iV (((c : Nat) : Int)))] [] ([mdoC0 cI cL cZ ad (0) (((m : Nat) : Int)) (((n : Nat) : Int)) (yy) (((kk : Nat) : Int)) (dn2_160) (((r1 i8 : Nat) : Int)) (((r2 i8 : Nat) : Int)) (bt) (bl) (bd) (na) (dt) (tl) (ul) (th) (uh) (hd) (cn), mgC0 cI cL cZ cX cG ad (29) (Gm), mgC1 cI cL cZ cX cG ad (29) (Gm), mgC2 cI cL cZ cX cG ad (29) (Gm), mgC3 cI cL cZ cX cG ad (29) (Gm), mgC0 cI cL cZ cX cG ad (35) (M9), mgC1 cI cL cZ cX cG ad (35) (M9), mgC2 cI cL cZ cX cG ad (35) (M9), mgC3 cI cL cZ cX cG ad (35) (M9), l3C0 cI cL cZ ad (39) (upZ (upZ (upZ vv 0 (uu (r1 i8))) 1 (uu (r2 i8))) 2 0), l3C0 cI cL cZ ad (40) (w2_160), l3C0 cI cL cZ ad (41) (n2_1), l3C0 cI cL cZ ad (o3) (uu)])
            refine g_goto (pc := 163) hG (tgt := 172) (by decide) dX11_fit_163 ?_
            exact g_return (pc := 172) hG ⟨((r1 i8 : Nat) : Int), ((r2 i8 : Nat) : Int), M9, upZ (upZ (upZ vv 0 (uu (r1 i8))) 1 (uu (r2 i8))) 2 0, w2_160, dn2_160, n2_1, by first | exact Or.inl ⟨hfull, hsl_51.congr hk hc_43 (fun r hr => h9 r (by omega))⟩ | exact Or.inr (Or.inl ⟨hd0, hk3, i8, n2_1, hi8, hcr, hnz, hsl_160.congr (by omega) hM3 hv3⟩) | exact Or.inr (Or.inr ⟨hd0, hz0, _, hr0, hal_169⟩), rfl, rfl⟩ dX11_fit_172
          · refine g_aload_n (pc := 69) hG 0 rfl dX11_fit_69 ?_
            refine g_get (pc := 70) hG fl11_41 0 rfl rfl dX11_fit_70 ?_
            refine g_iconst (pc := 73) hG dX11_fit_73 ?_
            refine g_aaload (pc := 74) hG 5 4 0 rfl rfl (by omega) (by omega) (by decide) dX11_fit_74 ?_
            refine g_iload_n (pc := 75) hG 3 rfl dX11_fit_75 ?_
            refine g_aload_n (pc := 76) hG 0 rfl dX11_fit_76 ?_
            refine g_get (pc := 77) hG fl11_31 0 rfl rfl dX11_fit_77 ?_
            refine g_aload_n (pc := 80) hG 0 rfl dX11_fit_80 ?_
            refine g_get (pc := 81) hG fl11_126 0 rfl rfl dX11_fit_81 ?_
            refine g_aaload (pc := 84) hG 1 4 (r1 i8) rfl rfl (by omega) (by omega) (by decide) dX11_fit_84 ?_
            refine g_iload_n (pc := 85) hG 3 rfl dX11_fit_85 ?_
            refine g_laload (pc := 86) hG (2 + (r1 i8)) c (rw_at [mdoC0 cI cL cZ ad (0) (((m : Nat) : Int)) (((n : Nat) : Int)) (yy) (((kk : Nat) : Int)) (dn) (((r1 i8 : Nat) : Int)) (((r2 i8 : Nat) : Int)) (bt) (bl) (bd) (na) (dt) (tl) (ul) (th) (uh) (hd) (cn), mgC0 cI cL cZ cX cG ad (29) (Gm)] _ 3 (fun i9 => (ad (30 + i9), aL cL 3 (Gm i9))) (by omega)) rfl (by omega) (by omega) (by decide) dX11_fit_86 ?_
            refine g_nmL (pc := 87) hG (fun x87 ex87 => ?_)
            refine g_lastore (pc := 87) hG (6 + 0) c (rw_at [mdoC0 cI cL cZ ad (0) (((m : Nat) : Int)) (((n : Nat) : Int)) (yy) (((kk : Nat) : Int)) (dn) (((r1 i8 : Nat) : Int)) (((r2 i8 : Nat) : Int)) (bt) (bl) (bd) (na) (dt) (tl) (ul) (th) (uh) (hd) (cn), mgC0 cI cL cZ cX cG ad (29) (Gm), mgC1 cI cL cZ cX cG ad (29) (Gm), mgC2 cI cL cZ cX cG ad (29) (Gm), mgC3 cI cL cZ cX cG ad (29) (Gm), mgC0 cI cL cZ cX cG ad (35) (M9)] _ 3 (fun i9 => (ad (36 + i9), aL cL 3 (M9 i9))) (by omega)) rfl (by omega) (by omega) (by decide) (ws' := [mdoC0 cI cL cZ ad (0) (((m : Nat) : Int)) (((n : Nat) : Int)) (yy) (((kk : Nat) : Int)) (dn) (((r1 i8 : Nat) : Int)) (((r2 i8 : Nat) : Int)) (bt) (bl) (bd) (na) (dt) (tl) (ul) (th) (uh) (hd) (cn), mgC0 cI cL cZ cX cG ad (29) (Gm), mgC1 cI cL cZ cX cG ad (29) (Gm), mgC2 cI cL cZ cX cG ad (29) (Gm), mgC3 cI cL cZ cX cG ad (29) (Gm), mgC0 cI cL cZ cX cG ad (35) (up2 M9 0 c x87), mgC1 cI cL cZ cX cG ad (35) (up2 M9 0 c x87), mgC2 cI cL cZ cX cG ad (35) (up2 M9 0 c x87), mgC3 cI cL cZ cX cG ad (35) (up2 M9 0 c x87), l3C0 cI cL cZ ad (39) (vv), l3C0 cI cL cZ ad (40) (ww), l3C0 cI cL cZ ad (41) (n2_1), l3C0 cI cL cZ ad (o3) (uu)]) (rw_setL [mdoC0 cI cL cZ ad (0) (((m : Nat) : Int)) (((n : Nat) : Int)) (yy) (((kk : Nat) : Int)) (dn) (((r1 i8 : Nat) : Int)) (((r2 i8 : Nat) : Int)) (bt) (bl) (bd) (na) (dt) (tl) (ul) (th) (uh) (hd) (cn), mgC0 cI cL cZ cX cG ad (29) (Gm), mgC1 cI cL cZ cX cG ad (29) (Gm), mgC2 cI cL cZ cX cG ad (29) (Gm), mgC3 cI cL cZ cX cG ad (29) (Gm), mgC0 cI cL cZ cX cG ad (35) (M9)] _ (X := M9) (n := 3) (k := 0) (by omega)) dX11_fit_87 ?_
            refine g_aload_n (pc := 88) hG 0 rfl dX11_fit_88 ?_
            refine g_get (pc := 89) hG fl11_41 0 rfl rfl dX11_fit_89 ?_
            refine g_iconst (pc := 92) hG dX11_fit_92 ?_
            refine g_aaload (pc := 93) hG 5 4 1 rfl rfl (by omega) (by omega) (by decide) dX11_fit_93 ?_
            refine g_iload_n (pc := 94) hG 3 rfl dX11_fit_94 ?_
            refine g_aload_n (pc := 95) hG 0 rfl dX11_fit_95 ?_
            refine g_get (pc := 96) hG fl11_31 0 rfl rfl dX11_fit_96 ?_
            refine g_aload_n (pc := 99) hG 0 rfl dX11_fit_99 ?_
            refine g_get (pc := 100) hG fl11_129 0 rfl rfl dX11_fit_100 ?_
            refine g_aaload (pc := 103) hG 1 4 (r2 i8) rfl rfl (by omega) (by omega) (by decide) dX11_fit_103 ?_
            refine g_iload_n (pc := 104) hG 3 rfl dX11_fit_104 ?_
            refine g_laload (pc := 105) hG (2 + (r2 i8)) c (rw_at [mdoC0 cI cL cZ ad (0) (((m : Nat) : Int)) (((n : Nat) : Int)) (yy) (((kk : Nat) : Int)) (dn) (((r1 i8 : Nat) : Int)) (((r2 i8 : Nat) : Int)) (bt) (bl) (bd) (na) (dt) (tl) (ul) (th) (uh) (hd) (cn), mgC0 cI cL cZ cX cG ad (29) (Gm)] _ 3 (fun i9 => (ad (30 + i9), aL cL 3 (Gm i9))) (by omega)) rfl (by omega) (by omega) (by decide) dX11_fit_105 ?_
            refine g_nmL (pc := 106) hG (fun x106 ex106 => ?_)
            refine g_lastore (pc := 106) hG (6 + 1) c (rw_at [mdoC0 cI cL cZ ad (0) (((m : Nat) : Int)) (((n : Nat) : Int)) (yy) (((kk : Nat) : Int)) (dn) (((r1 i8 : Nat) : Int)) (((r2 i8 : Nat) : Int)) (bt) (bl) (bd) (na) (dt) (tl) (ul) (th) (uh) (hd) (cn), mgC0 cI cL cZ cX cG ad (29) (Gm), mgC1 cI cL cZ cX cG ad (29) (Gm), mgC2 cI cL cZ cX cG ad (29) (Gm), mgC3 cI cL cZ cX cG ad (29) (Gm), mgC0 cI cL cZ cX cG ad (35) (up2 M9 0 c x87)] _ 3 (fun i9 => (ad (36 + i9), aL cL 3 ((up2 M9 0 c x87) i9))) (by omega)) rfl (by omega) (by omega) (by decide) (ws' := [mdoC0 cI cL cZ ad (0) (((m : Nat) : Int)) (((n : Nat) : Int)) (yy) (((kk : Nat) : Int)) (dn) (((r1 i8 : Nat) : Int)) (((r2 i8 : Nat) : Int)) (bt) (bl) (bd) (na) (dt) (tl) (ul) (th) (uh) (hd) (cn), mgC0 cI cL cZ cX cG ad (29) (Gm), mgC1 cI cL cZ cX cG ad (29) (Gm), mgC2 cI cL cZ cX cG ad (29) (Gm), mgC3 cI cL cZ cX cG ad (29) (Gm), mgC0 cI cL cZ cX cG ad (35) (up2 (up2 M9 0 c x87) 1 c x106), mgC1 cI cL cZ cX cG ad (35) (up2 (up2 M9 0 c x87) 1 c x106), mgC2 cI cL cZ cX cG ad (35) (up2 (up2 M9 0 c x87) 1 c x106), mgC3 cI cL cZ cX cG ad (35) (up2 (up2 M9 0 c x87) 1 c x106), l3C0 cI cL cZ ad (39) (vv), l3C0 cI cL cZ ad (40) (ww), l3C0 cI cL cZ ad (41) (n2_1), l3C0 cI cL cZ ad (o3) (uu)]) (rw_setL [mdoC0 cI cL cZ ad (0) (((m : Nat) : Int)) (((n : Nat) : Int)) (yy) (((kk : Nat) : Int)) (dn) (((r1 i8 : Nat) : Int)) (((r2 i8 : Nat) : Int)) (bt) (bl) (bd) (na) (dt) (tl) (ul) (th) (uh) (hd) (cn), mgC0 cI cL cZ cX cG ad (29) (Gm), mgC1 cI cL cZ cX cG ad (29) (Gm), mgC2 cI cL cZ cX cG ad (29) (Gm), mgC3 cI cL cZ cX cG ad (29) (Gm), mgC0 cI cL cZ cX cG ad (35) (up2 M9 0 c x87)] _ (X := up2 M9 0 c x87) (n := 3) (k := 1) (by omega)) dX11_fit_106 ?_
            refine g_aload_n (pc := 107) hG 0 rfl dX11_fit_107 ?_
            refine g_get (pc := 108) hG fl11_41 0 rfl rfl dX11_fit_108 ?_
            refine g_iconst (pc := 111) hG dX11_fit_111 ?_
            refine g_aaload (pc := 112) hG 5 4 2 rfl rfl (by omega) (by omega) (by decide) dX11_fit_112 ?_
            refine g_iload_n (pc := 113) hG 3 rfl dX11_fit_113 ?_
            refine g_aload_n (pc := 114) hG 0 rfl dX11_fit_114 ?_
            refine g_get (pc := 115) hG fl11_50 0 rfl rfl dX11_fit_115 ?_
            refine g_iload_n (pc := 118) hG 3 rfl dX11_fit_118 ?_
            refine g_laload (pc := 119) hG 11 c rfl rfl (by omega) (by omega) (by decide) dX11_fit_119 ?_
            refine g_lastore (pc := 120) hG (6 + 2) c (rw_at [mdoC0 cI cL cZ ad (0) (((m : Nat) : Int)) (((n : Nat) : Int)) (yy) (((kk : Nat) : Int)) (dn) (((r1 i8 : Nat) : Int)) (((r2 i8 : Nat) : Int)) (bt) (bl) (bd) (na) (dt) (tl) (ul) (th) (uh) (hd) (cn), mgC0 cI cL cZ cX cG ad (29) (Gm), mgC1 cI cL cZ cX cG ad (29) (Gm), mgC2 cI cL cZ cX cG ad (29) (Gm), mgC3 cI cL cZ cX cG ad (29) (Gm), mgC0 cI cL cZ cX cG ad (35) (up2 (up2 M9 0 c x87) 1 c x106)] _ 3 (fun i9 => (ad (36 + i9), aL cL 3 ((up2 (up2 M9 0 c x87) 1 c x106) i9))) (by omega)) rfl (by omega) (by omega) (by decide) (ws' := [mdoC0 cI cL cZ ad (0) (((m : Nat) : Int)) (((n : Nat) : Int)) (yy) (((kk : Nat) : Int)) (dn) (((r1 i8 : Nat) : Int)) (((r2 i8 : Nat) : Int)) (bt) (bl) (bd) (na) (dt) (tl) (ul) (th) (uh) (hd) (cn), mgC0 cI cL cZ cX cG ad (29) (Gm), mgC1 cI cL cZ cX cG ad (29) (Gm), mgC2 cI cL cZ cX cG ad (29) (Gm), mgC3 cI cL cZ cX cG ad (29) (Gm), mgC0 cI cL cZ cX cG ad (35) (up2 (up2 (up2 M9 0 c x87) 1 c x106) 2 c (n2_1 c)), mgC1 cI cL cZ cX cG ad (35) (up2 (up2 (up2 M9 0 c x87) 1 c x106) 2 c (n2_1 c)), mgC2 cI cL cZ cX cG ad (35) (up2 (up2 (up2 M9 0 c x87) 1 c x106) 2 c (n2_1 c)), mgC3 cI cL cZ cX cG ad (35) (up2 (up2 (up2 M9 0 c x87) 1 c x106) 2 c (n2_1 c)), l3C0 cI cL cZ ad (39) (vv), l3C0 cI cL cZ ad (40) (ww), l3C0 cI cL cZ ad (41) (n2_1), l3C0 cI cL cZ ad (o3) (uu)]) (rw_setL [mdoC0 cI cL cZ ad (0) (((m : Nat) : Int)) (((n : Nat) : Int)) (yy) (((kk : Nat) : Int)) (dn) (((r1 i8 : Nat) : Int)) (((r2 i8 : Nat) : Int)) (bt) (bl) (bd) (na) (dt) (tl) (ul) (th) (uh) (hd) (cn), mgC0 cI cL cZ cX cG ad (29) (Gm), mgC1 cI cL cZ cX cG ad (29) (Gm), mgC2 cI cL cZ cX cG ad (29) (Gm), mgC3 cI cL cZ cX cG ad (29) (Gm), mgC0 cI cL cZ cX cG ad (35) (up2 (up2 M9 0 c x87) 1 c x106)] _ (X := up2 (up2 M9 0 c x87) 1 c x106) (n := 3) (k := 2) (by omega)) dX11_fit_120 ?_
            refine g_iinc (pc := 121) hG 3 rfl (by decide) (lv' := [(3, iV ((((c : Nat) : Int)) + 1)), (0, .ref (ad (0))), (1, .ref (ad (o3))), (2, iV (((rk2_1 : Nat) : Int)))]) rfl dX11_fit_121 ?_
            refine g_goto (pc := 124) hG (tgt := 64) (by decide) dX11_fit_124 ?_
            exact g_lv (pc := 64) hG [1, 2, 3, 0] rfl (ih64 (c + 1) (up2 (up2 (up2 M9 0 c x87) 1 c x106) 2 c (n2_1 c)) (by omega) (by omega) (rwM_step hM ex87 ex106 rfl))
      exact g_lv (pc := 64) hG [2, 3, 1, 0] rfl (L64 _ 0 M2_1 (Nat.lt_succ_self _) (by omega) (fun r j _ h => absurd h (Nat.not_lt_zero _)))
  · refine g_iconst (pc := 13) hG dX11_fit_13 ?_
    refine g_istore_n (pc := 14) hG (by decide) (lv' := [(3, iV (0)), (2, iV (((rk2_1 : Nat) : Int))), (0, .ref (ad (0))), (1, .ref (ad (o3)))]) rfl dX11_fit_14 ?_
    have L15 : ∀ (fu15 : Nat) (i : Nat) (v9 : Nat → Int), kk - i < fu15 → (i ≤ kk) → (∀ j, j < i → v9 j = uu j) → G 15 [(0, .ref (ad (0))), (1, .ref (ad (o3))), (2, iV (((rk2_1 : Nat) : Int))), (3, iV (((i : Nat) : Int)))] [] ([mdoC0 cI cL cZ ad (0) (((m : Nat) : Int)) (((n : Nat) : Int)) (yy) (((kk : Nat) : Int)) (dn) (on2_1) (tw2_1) (bt) (bl) (bd) (na) (dt) (tl) (ul) (th) (uh) (hd) (cn), mgC0 cI cL cZ cX cG ad (29) (Gm), mgC1 cI cL cZ cX cG ad (29) (Gm), mgC2 cI cL cZ cX cG ad (29) (Gm), mgC3 cI cL cZ cX cG ad (29) (Gm), mgC0 cI cL cZ cX cG ad (35) (M2_1), mgC1 cI cL cZ cX cG ad (35) (M2_1), mgC2 cI cL cZ cX cG ad (35) (M2_1), mgC3 cI cL cZ cX cG ad (35) (M2_1), l3C0 cI cL cZ ad (39) (v9), l3C0 cI cL cZ ad (40) (ww), l3C0 cI cL cZ ad (41) (n2_1), l3C0 cI cL cZ ad (o3) (uu)]) := by
      intro fu15
      induction fu15 with
      | zero => intro i v9 hm; exact absurd hm (Nat.not_lt_zero _)
      | succ fu15 ih15 =>
        intro i v9 hm15 hi h9
        refine g_iload_n (pc := 15) hG 3 rfl dX11_fit_15 ?_
        refine g_aload_n (pc := 16) hG 0 rfl dX11_fit_16 ?_
        refine g_get (pc := 17) hG fl11_101 0 rfl rfl dX11_fit_17 ?_
        refine g_icmp_ge (pc := 20) hG (by omega) (by omega) (tgt := 38) (by decide) dX11_fit_20 (fun h20 => ?_) (fun h20 => ?_)
        · have hfull := hrk_1.full hk (by omega)
          refine g_aload_n (pc := 38) hG 0 rfl dX11_fit_38 ?_
          refine g_aload_n (pc := 39) hG 0 rfl dX11_fit_39 ?_
          refine g_get (pc := 40) hG fl11_101 0 rfl rfl dX11_fit_40 ?_
          refine g_callV (pc := 43) hG (As := [iV (((kk : Nat) : Int))]) (rest := []) (c_X11_copy (l := l) (D := D) (cI := cI) (cL := cL) (cZ := cZ) (cX := cX) (cG := cG) ad m n yy (((kk : Nat) : Int)) dn on2_1 tw2_1 bt bl bd na dt tl ul th uh hd cn Gm M2_1 kk (hk)) (Sp.mg [true, true, true, true, true, true, true, true, true] rfl) cv11_119 ⟨rfl, rfl⟩ ⟨Nat.le_of_ble_eq_true rfl, Nat.le_of_ble_eq_true rfl⟩ 0 rfl rfl rfl rfl (Nat.le_of_ble_eq_true rfl) dX11_fit_43 (fun v w1 h => ?_)
          obtain ⟨M2_43, hc_43, rfl, rfl⟩ := h
          show G 46 [(0, .ref (ad (0))), (1, .ref (ad (o3))), (2, iV (((rk2_1 : Nat) : Int))), (3, iV (((i : Nat) : Int)))] [] ([mdoC0 cI cL cZ ad (0) (((m : Nat) : Int)) (((n : Nat) : Int)) (yy) (((kk : Nat) : Int)) (dn) (on2_1) (tw2_1) (bt) (bl) (bd) (na) (dt) (tl) (ul) (th) (uh) (hd) (cn), mgC0 cI cL cZ cX cG ad (29) (Gm), mgC1 cI cL cZ cX cG ad (29) (Gm), mgC2 cI cL cZ cX cG ad (29) (Gm), mgC3 cI cL cZ cX cG ad (29) (Gm), mgC0 cI cL cZ cX cG ad (35) (M2_43), mgC1 cI cL cZ cX cG ad (35) (M2_43), mgC2 cI cL cZ cX cG ad (35) (M2_43), mgC3 cI cL cZ cX cG ad (35) (M2_43), l3C0 cI cL cZ ad (39) (v9), l3C0 cI cL cZ ad (40) (ww), l3C0 cI cL cZ ad (41) (n2_1), l3C0 cI cL cZ ad (o3) (uu)])
          refine g_aload_n (pc := 46) hG 0 rfl dX11_fit_46 ?_
          refine g_aload_n (pc := 47) hG 0 rfl dX11_fit_47 ?_
          refine g_get (pc := 48) hG fl11_101 0 rfl rfl dX11_fit_48 ?_
          refine g_callV (pc := 51) hG (As := [iV (((kk : Nat) : Int))]) (rest := []) (c_X11_solve (l := l) (D := D) (cI := cI) (cL := cL) (cZ := cZ) (cX := cX) (cG := cG) ad m n yy (((kk : Nat) : Int)) dn on2_1 tw2_1 bt bl bd na dt tl ul th uh hd cn M2_43 v9 ww kk (hk) (SmM.congr (M := Gm) (v := uu) ⟨fun r c hr hc => by have := hGb r c hr hc; unfold MBd; split <;> omega, hu⟩ hc_43 (fun r hr => h9 r (by omega))) (by rw [detM_congr hk hc_43]; exact hfull)) (Sp.mg [true, false, false, false, false, true, true, true, true, true, true] rfl) cv11_136 ⟨rfl, rfl⟩ ⟨Nat.le_of_ble_eq_true rfl, Nat.le_of_ble_eq_true rfl⟩ 0 rfl rfl rfl rfl (Nat.le_of_ble_eq_true rfl) dX11_fit_51 (fun v w1 h => ?_)
          obtain ⟨w2_51, dn2_51, hsl_51, rfl, rfl⟩ := h
          show G 54 [(0, .ref (ad (0))), (1, .ref (ad (o3))), (2, iV (((rk2_1 : Nat) : Int))), (3, iV (((i : Nat) : Int)))] [] ([mdoC0 cI cL cZ ad (0) (((m : Nat) : Int)) (((n : Nat) : Int)) (yy) (((kk : Nat) : Int)) (dn2_51) (on2_1) (tw2_1) (bt) (bl) (bd) (na) (dt) (tl) (ul) (th) (uh) (hd) (cn), mgC0 cI cL cZ cX cG ad (29) (Gm), mgC1 cI cL cZ cX cG ad (29) (Gm), mgC2 cI cL cZ cX cG ad (29) (Gm), mgC3 cI cL cZ cX cG ad (29) (Gm), mgC0 cI cL cZ cX cG ad (35) (M2_43), mgC1 cI cL cZ cX cG ad (35) (M2_43), mgC2 cI cL cZ cX cG ad (35) (M2_43), mgC3 cI cL cZ cX cG ad (35) (M2_43), l3C0 cI cL cZ ad (39) (v9), l3C0 cI cL cZ ad (40) (w2_51), l3C0 cI cL cZ ad (41) (n2_1), l3C0 cI cL cZ ad (o3) (uu)])
          refine g_goto (pc := 54) hG (tgt := 172) (by decide) dX11_fit_54 ?_
          exact g_return (pc := 172) hG ⟨on2_1, tw2_1, M2_43, v9, w2_51, dn2_51, n2_1, by first | exact Or.inl ⟨hfull, hsl_51.congr hk hc_43 (fun r hr => h9 r (by omega))⟩ | exact Or.inr (Or.inl ⟨hd0, hk3, i8, n2_1, hi8, hcr, hnz, hsl_160.congr (by omega) hM3 hv3⟩) | exact Or.inr (Or.inr ⟨hd0, hz0, _, hr0, hal_169⟩), rfl, rfl⟩ dX11_fit_172
        · refine g_aload_n (pc := 23) hG 0 rfl dX11_fit_23 ?_
          refine g_get (pc := 24) hG fl11_44 0 rfl rfl dX11_fit_24 ?_
          refine g_iload_n (pc := 27) hG 3 rfl dX11_fit_27 ?_
          refine g_aload_n (pc := 28) hG 1 rfl dX11_fit_28 ?_
          refine g_iload_n (pc := 29) hG 3 rfl dX11_fit_29 ?_
          refine g_laload (pc := 30) hG 12 i rfl rfl (by omega) (by omega) (by decide) dX11_fit_30 ?_
          refine g_lastore (pc := 31) hG 9 i rfl rfl (by omega) (by omega) (by decide) (ws' := [mdoC0 cI cL cZ ad (0) (((m : Nat) : Int)) (((n : Nat) : Int)) (yy) (((kk : Nat) : Int)) (dn) (on2_1) (tw2_1) (bt) (bl) (bd) (na) (dt) (tl) (ul) (th) (uh) (hd) (cn), mgC0 cI cL cZ cX cG ad (29) (Gm), mgC1 cI cL cZ cX cG ad (29) (Gm), mgC2 cI cL cZ cX cG ad (29) (Gm), mgC3 cI cL cZ cX cG ad (29) (Gm), mgC0 cI cL cZ cX cG ad (35) (M2_1), mgC1 cI cL cZ cX cG ad (35) (M2_1), mgC2 cI cL cZ cX cG ad (35) (M2_1), mgC3 cI cL cZ cX cG ad (35) (M2_1), l3C0 cI cL cZ ad (39) (upZ v9 i (uu i)), l3C0 cI cL cZ ad (40) (ww), l3C0 cI cL cZ ad (41) (n2_1), l3C0 cI cL cZ ad (o3) (uu)]) rfl dX11_fit_31 ?_
          refine g_iinc (pc := 32) hG 3 rfl (by decide) (lv' := [(3, iV ((((i : Nat) : Int)) + 1)), (0, .ref (ad (0))), (1, .ref (ad (o3))), (2, iV (((rk2_1 : Nat) : Int)))]) rfl dX11_fit_32 ?_
          refine g_goto (pc := 35) hG (tgt := 15) (by decide) dX11_fit_35 ?_
          exact g_lv (pc := 15) hG [1, 2, 3, 0] rfl (ih15 (i + 1) (upZ v9 i (uu i)) (by omega) (by omega) (fill_step h9 rfl))
    exact g_lv (pc := 15) hG [2, 3, 1, 0] rfl (L15 _ 0 vv (Nat.lt_succ_self _) (Nat.zero_le _) (fun j h => absurd h (Nat.not_lt_zero _)))
set_option maxHeartbeats 4000000 in
set_option maxRecDepth 100000 in
theorem c_X11_missed {l : Launch} {D : va_G} {cI cL cZ cX cG : ClassId} (ad : Nat → Nat) (m : Nat) (n : Nat) (yy : Int) (dn : Int) (on : Int) (tw : Int) (bt : Int) (bl : Int) (bd : Int) (na : Int) (dt : Int) (tl : Int) (ul : Int) (th : Int) (uh : Int) (hd : Bool) (cn : Int) (kk : Nat) (hh : Nat → Int) (ww : Nat → Int) (hk : kk ≤ 3) : Ct l D (gT cI cL cZ cX cG) yX11_missed cX11_missed 4 (some .long) ({ frames := 0, cells := 0, slots := 0, locals := 0 }) [.ref (ad (0))] ([mdoC0 cI cL cZ ad (0) (((m : Nat) : Int)) (((n : Nat) : Int)) (yy) (((kk : Nat) : Int)) (dn) (on) (tw) (bt) (bl) (bd) (na) (dt) (tl) (ul) (th) (uh) (hd) (cn), l3C0 cI cL cZ ad (33) (hh), l3C0 cI cL cZ ad (40) (ww)]) (fun vv_ ww_ => vv_ = some (lV (mis yy dn hh ww kk)) ∧ ww_ = [mdoC0 cI cL cZ ad (0) (((m : Nat) : Int)) (((n : Nat) : Int)) (yy) (((kk : Nat) : Int)) (dn) (on) (tw) (bt) (bl) (bd) (na) (dt) (tl) (ul) (th) (uh) (hd) (cn), l3C0 cI cL cZ ad (33) (hh), l3C0 cI cL cZ ad (40) (ww)]) := by
  refine Ct.of (by decide) (Nat.le_of_ble_eq_true rfl) (fun G hG => ?_)
  show G 0 [(0, .ref (ad (0)))] [] ([mdoC0 cI cL cZ ad (0) (((m : Nat) : Int)) (((n : Nat) : Int)) (yy) (((kk : Nat) : Int)) (dn) (on) (tw) (bt) (bl) (bd) (na) (dt) (tl) (ul) (th) (uh) (hd) (cn), l3C0 cI cL cZ ad (33) (hh), l3C0 cI cL cZ ad (40) (ww)])
  refine g_aload_n (pc := 0) hG 0 rfl dX11_missed_0 ?_
  refine g_get (pc := 1) hG fl11_104 0 rfl rfl dX11_missed_1 ?_
  refine g_aload_n (pc := 4) hG 0 rfl dX11_missed_4 ?_
  refine g_get (pc := 5) hG fl11_116 0 rfl rfl dX11_missed_5 ?_
  refine g_lmul (pc := 8) hG dX11_missed_8 ?_
  refine g_nmL (pc := 9) hG (fun x9 ex9 => ?_)
  refine g_lstore_n (pc := 9) hG (by decide) (lv' := [(1, lV (x9)), (0, .ref (ad (0)))]) rfl dX11_missed_9 ?_
  refine g_iconst (pc := 10) hG dX11_missed_10 ?_
  refine g_istore_n (pc := 11) hG (by decide) (lv' := [(3, iV (0)), (1, lV (x9)), (0, .ref (ad (0)))]) rfl dX11_missed_11 ?_
  have L12 : ∀ (fu12 : Nat) (s : Int) (c : Nat), kk - c < fu12 → (c ≤ kk) → (s = mis yy dn hh ww c) → G 12 [(0, .ref (ad (0))), (1, lV (s)), (3, iV (((c : Nat) : Int)))] [] ([mdoC0 cI cL cZ ad (0) (((m : Nat) : Int)) (((n : Nat) : Int)) (yy) (((kk : Nat) : Int)) (dn) (on) (tw) (bt) (bl) (bd) (na) (dt) (tl) (ul) (th) (uh) (hd) (cn), l3C0 cI cL cZ ad (33) (hh), l3C0 cI cL cZ ad (40) (ww)]) := by
    intro fu12
    induction fu12 with
    | zero => intro s c hm; exact absurd hm (Nat.not_lt_zero _)
    | succ fu12 ih12 =>
      intro s c hm12 hc hs
      refine g_iload_n (pc := 12) hG 2 rfl dX11_missed_12 ?_
      refine g_aload_n (pc := 13) hG 0 rfl dX11_missed_13 ?_
      refine g_get (pc := 14) hG fl11_101 0 rfl rfl dX11_missed_14 ?_
      refine g_icmp_ge (pc := 17) hG (by omega) (by omega) (tgt := 42) (by decide) dX11_missed_17 (fun h17 => ?_) (fun h17 => ?_)
      · refine g_lload_n (pc := 42) hG 1 rfl dX11_missed_42 ?_
        exact g_lreturn (pc := 43) hG ⟨sL (by rw [hs, show c = kk by omega]), rfl⟩ dX11_missed_43
      · refine g_lload_n (pc := 20) hG 1 rfl dX11_missed_20 ?_
        refine g_aload_n (pc := 21) hG 0 rfl dX11_missed_21 ?_
        refine g_get (pc := 22) hG fl11_34 0 rfl rfl dX11_missed_22 ?_
        refine g_iload_n (pc := 25) hG 2 rfl dX11_missed_25 ?_
        refine g_laload (pc := 26) hG 1 c rfl rfl (by omega) (by omega) (by decide) dX11_missed_26 ?_
        refine g_aload_n (pc := 27) hG 0 rfl dX11_missed_27 ?_
        refine g_get (pc := 28) hG fl11_47 0 rfl rfl dX11_missed_28 ?_
        refine g_iload_n (pc := 31) hG 2 rfl dX11_missed_31 ?_
        refine g_laload (pc := 32) hG 2 c rfl rfl (by omega) (by omega) (by decide) dX11_missed_32 ?_
        refine g_lmul (pc := 33) hG dX11_missed_33 ?_
        refine g_lsub (pc := 34) hG dX11_missed_34 ?_
        refine g_nmL (pc := 35) hG (fun x35 ex35 => ?_)
        refine g_lstore_n (pc := 35) hG (by decide) (lv' := [(1, lV (x35)), (0, .ref (ad (0))), (3, iV (((c : Nat) : Int)))]) rfl dX11_missed_35 ?_
        refine g_iinc (pc := 36) hG 2 rfl (by decide) (lv' := [(3, iV ((((c : Nat) : Int)) + 1)), (1, lV (x35)), (0, .ref (ad (0)))]) rfl dX11_missed_36 ?_
        refine g_goto (pc := 39) hG (tgt := 12) (by decide) dX11_missed_39 ?_
        exact g_lv (pc := 12) hG [2, 1, 0] rfl (ih12 x35 (c + 1) (by omega) (by omega) (by rw [ex35, hs]; rfl))
  exact g_lv (pc := 12) hG [2, 1, 0] rfl (L12 _ x9 0 (Nat.lt_succ_self _) (Nat.zero_le _) (by assumption))
