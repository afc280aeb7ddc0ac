set_option maxHeartbeats 4000000 in
set_option maxRecDepth 100000 in
theorem c_X11_isRight {l : Launch} {D : va_G} {cI cL cZ cX cG : ClassId} (ad : Nat → Nat) (m : Nat) (n : Nat) (yy : Int) (k : Int) (dn : Int) (on : Int) (tw : Int) (bt : Int) (bl : Int) (bd : Int) (tl : Int) (ul : Int) (th : Int) (uh : Int) (hd : Bool) (cn : Int) (Gm : Nat → Nat → Int) (hh : Nat → Int) (sg : Nat → Int) (ac : Nat → Int) (ba : Nat → Int) (sl : Nat → Int) (p : Nat) (bar : Int) (hm : m ≤ 3) (hGb : ∀ a b, a < m → b < m → -1944 ≤ Gm a b ∧ Gm a b ≤ 1944) (hhb : ∀ j, j < m → -21384 ≤ hh j ∧ hh j ≤ 21384) (hp : p < 27) (hpt : PatR Gm hh m p ((naM p m : Nat) : Int) (dtM Gm p m) sg ac ba sl) (hPb : PaB1 Gm hh m p) (hbar : 0 ≤ bar ∧ bar ≤ 50000) : Ct l D (gT cI cL cZ cX cG) yX11_isRight cX11_isRight 9 (some .boolean) ({ frames := 1, cells := 0, slots := 0, locals := 21 }) [.ref (ad (0)), lV (bar)] ([mdoC0 cI cL cZ ad (0) (((m : Nat) : Int)) (((n : Nat) : Int)) (yy) (k) (dn) (on) (tw) (bt) (bl) (bd) (((naM p m : Nat) : Int)) (dtM Gm p m) (tl) (ul) (th) (uh) (hd) (cn), mgC0 cI cL cZ cX cG ad (29) (Gm), mgC1 cI cL cZ cX cG ad (29) (Gm), mgC2 cI cL cZ cX cG ad (29) (Gm), mgC3 cI cL cZ cX cG ad (29) (Gm), l3C0 cI cL cZ ad (33) (hh), i3C0 cI cL cZ ad (46) (sg), i3C0 cI cL cZ ad (47) (ac), l3C0 cI cL cZ ad (48) (ba), l3C0 cI cL cZ ad (49) (sl)]) (fun vv_ ww_ => ∃ (v : Bool), ((v = true ∧ RightM Gm hh m p bar) ∨ (v = false ∧ ¬ RightM Gm hh m p bar)) ∧ vv_ = some (bV (v)) ∧ ww_ = [mdoC0 cI cL cZ ad (0) (((m : Nat) : Int)) (((n : Nat) : Int)) (yy) (k) (dn) (on) (tw) (bt) (bl) (bd) (((naM p m : Nat) : Int)) (dtM Gm p m) (tl) (ul) (th) (uh) (hd) (cn), mgC0 cI cL cZ cX cG ad (29) (Gm), mgC1 cI cL cZ cX cG ad (29) (Gm), mgC2 cI cL cZ cX cG ad (29) (Gm), mgC3 cI cL cZ cX cG ad (29) (Gm), l3C0 cI cL cZ ad (33) (hh), i3C0 cI cL cZ ad (46) (sg), i3C0 cI cL cZ ad (47) (ac), l3C0 cI cL cZ ad (48) (ba), l3C0 cI cL cZ ad (49) (sl)]) := by
  refine Ct.of (by decide) (Nat.le_of_ble_eq_true rfl) (fun G hG => ?_)
  show G 0 [(0, .ref (ad (0))), (1, lV (bar))] [] ([mdoC0 cI cL cZ ad (0) (((m : Nat) : Int)) (((n : Nat) : Int)) (yy) (k) (dn) (on) (tw) (bt) (bl) (bd) (((naM p m : Nat) : Int)) (dtM Gm p m) (tl) (ul) (th) (uh) (hd) (cn), mgC0 cI cL cZ cX cG ad (29) (Gm), mgC1 cI cL cZ cX cG ad (29) (Gm), mgC2 cI cL cZ cX cG ad (29) (Gm), mgC3 cI cL cZ cX cG ad (29) (Gm), l3C0 cI cL cZ ad (33) (hh), i3C0 cI cL cZ ad (46) (sg), i3C0 cI cL cZ ad (47) (ac), l3C0 cI cL cZ ad (48) (ba), l3C0 cI cL cZ ad (49) (sl)])
  have hnl := na_le (p := p) hm
  refine g_iconst (pc := 0) hG dX11_isRight_0 ?_
  refine g_istore_n (pc := 1) hG (by decide) (lv' := [(3, iV (0)), (0, .ref (ad (0))), (1, lV (bar))]) rfl dX11_isRight_1 ?_
  have L2 : ∀ (fu2 : Nat) (c : Nat), m - c < fu2 → (c ≤ m) → (∀ j, j < c → RtM Gm hh m p bar j) → G 2 [(0, .ref (ad (0))), (1, lV (bar)), (3, iV (((c : Nat) : Int)))] [] ([mdoC0 cI cL cZ ad (0) (((m : Nat) : Int)) (((n : Nat) : Int)) (yy) (k) (dn) (on) (tw) (bt) (bl) (bd) (((naM p m : Nat) : Int)) (dtM Gm p m) (tl) (ul) (th) (uh) (hd) (cn), mgC0 cI cL cZ cX cG ad (29) (Gm), mgC1 cI cL cZ cX cG ad (29) (Gm), mgC2 cI cL cZ cX cG ad (29) (Gm), mgC3 cI cL cZ cX cG ad (29) (Gm), l3C0 cI cL cZ ad (33) (hh), i3C0 cI cL cZ ad (46) (sg), i3C0 cI cL cZ ad (47) (ac), l3C0 cI cL cZ ad (48) (ba), l3C0 cI cL cZ ad (49) (sl)]) := by
    intro fu2
    induction fu2 with
    | zero => intro c hm; exact absurd hm (Nat.not_lt_zero _)
    | succ fu2 ih2 =>
      intro c hm2 hc hok
      refine g_iload_n (pc := 2) hG 2 rfl dX11_isRight_2 ?_
      refine g_aload_n (pc := 3) hG 0 rfl dX11_isRight_3 ?_
      refine g_get (pc := 4) hG fl11_7 0 rfl rfl dX11_isRight_4 ?_
      refine g_icmp_ge (pc := 7) hG (by omega) (by omega) (tgt := 176) (by decide) dX11_isRight_7 (fun h7 => ?_) (fun h7 => ?_)
      · refine g_iconst (pc := 176) hG dX11_isRight_176 ?_
        exact g_zreturn (pc := 177) hG (true) rfl ⟨true, Or.inl ⟨rfl, fun j hj => hok j (by omega)⟩, rfl, rfl⟩ dX11_isRight_177
      · have hb9 := hPb.2 c (by omega)
        have hba := hpt.2.2.2.2.1 c (by omega)
        have hsl := hpt.2.2.2.2.2 c (by omega)
        have hsgc := hpt.2.2.1 c (by omega)
        have hsb := sgM_bd p c
        have hms := mul_bd (a := bar) (A := 50000) (by omega) hb9.2
        refine g_aload_n (pc := 10) hG 0 rfl dX11_isRight_10 ?_
        refine g_get (pc := 11) hG fl11_71 0 rfl rfl dX11_isRight_11 ?_
        refine g_iload_n (pc := 14) hG 2 rfl dX11_isRight_14 ?_
        refine g_laload (pc := 15) hG 8 c rfl rfl (by omega) (by omega) (by decide) dX11_isRight_15 ?_
        refine g_lload_n (pc := 16) hG 1 rfl dX11_isRight_16 ?_
        refine g_aload_n (pc := 17) hG 0 rfl dX11_isRight_17 ?_
        refine g_get (pc := 18) hG fl11_74 0 rfl rfl dX11_isRight_18 ?_
        refine g_iload_n (pc := 21) hG 2 rfl dX11_isRight_21 ?_
        refine g_laload (pc := 22) hG 9 c rfl rfl (by omega) (by omega) (by decide) dX11_isRight_22 ?_
        refine g_lmul (pc := 23) hG dX11_isRight_23 ?_
        refine g_ladd (pc := 24) hG dX11_isRight_24 ?_
        refine g_nmL (pc := 25) hG (fun x25 ex25 => ?_)
        refine g_lstore (pc := 25) hG (by decide) (lv' := [(4, lV (x25)), (0, .ref (ad (0))), (1, lV (bar)), (3, iV (((c : Nat) : Int)))]) rfl dX11_isRight_25 ?_
        rw [hba, hsl] at ex25
        refine g_aload_n (pc := 27) hG 1 rfl dX11_isRight_27 ?_
        refine g_get (pc := 28) hG fl11_65 0 rfl rfl dX11_isRight_28 ?_
        refine g_iload_n (pc := 31) hG 3 rfl dX11_isRight_31 ?_
        refine g_iaload (pc := 32) hG 6 c rfl rfl (by omega) (by omega) (by decide) dX11_isRight_32 ?_
        refine g_eqI (pc := 33) hG (show sg c = sgM p c by exact hsgc) ?_
        have J52 : ∀ (_ : Unit), (((sgM p c = 0)) ∨ ((¬ sgM p c = 0) ∧ (sgnZ x25 = sgM p c))) → G 52 [(0, .ref (ad (0))), (1, lV (bar)), (3, iV (((c : Nat) : Int))), (4, lV (x25))] [] ([mdoC0 cI cL cZ ad (0) (((m : Nat) : Int)) (((n : Nat) : Int)) (yy) (k) (dn) (on) (tw) (bt) (bl) (bd) (((naM p m : Nat) : Int)) (dtM Gm p m) (tl) (ul) (th) (uh) (hd) (cn), mgC0 cI cL cZ cX cG ad (29) (Gm), mgC1 cI cL cZ cX cG ad (29) (Gm), mgC2 cI cL cZ cX cG ad (29) (Gm), mgC3 cI cL cZ cX cG ad (29) (Gm), l3C0 cI cL cZ ad (33) (hh), i3C0 cI cL cZ ad (46) (sg), i3C0 cI cL cZ ad (47) (ac), l3C0 cI cL cZ ad (48) (ba), l3C0 cI cL cZ ad (49) (sl)]) := by
          intro _ k52
          refine g_aload_n (pc := 52) hG 0 rfl dX11_isRight_52 ?_
          refine g_get (pc := 53) hG fl11_65 0 rfl rfl dX11_isRight_53 ?_
          refine g_iload_n (pc := 56) hG 2 rfl dX11_isRight_56 ?_
          refine g_iaload (pc := 57) hG 6 c rfl rfl (by omega) (by omega) (by decide) dX11_isRight_57 ?_
          refine g_eqI (pc := 58) hG (show sg c = sgM p c by exact hsgc) ?_
          refine g_if_ne (pc := 58) hG (by omega) (tgt := 170) (by decide) dX11_isRight_58 (fun h58 => ?_) (fun h58 => ?_)
          · refine g_iinc (pc := 170) hG 2 rfl (by decide) (lv' := [(3, iV ((((c : Nat) : Int)) + 1)), (0, .ref (ad (0))), (1, lV (bar)), (4, lV (x25))]) rfl dX11_isRight_170 ?_
            refine g_goto (pc := 173) hG (tgt := 2) (by decide) dX11_isRight_173 ?_
            exact g_lv (pc := 2) hG [1, 2, 0] rfl (ih2 (c + 1) (by omega) (by omega) (fun j hj => by rcases Nat.lt_or_ge j c with h | h; exact hok j h; rw [show j = c by omega]; first | exact (rt_z h58).mpr (by have h9 := h164; rw [he8, show a8 = naM p m by omega] at k158; rcases k158 with q | q <;> rw [q.2] at h9 <;> omega) | exact rt_n h58 (by rw [← ex25]; rcases k52 with q | q; exact absurd q h58; exact q.2)))
          · refine g_ldc2 (z := 2) (pc := 61) hG (v := 2) (inB wd_1056 rfl) (by decide) dX11_isRight_61 ?_
            refine g_aload_n (pc := 64) hG 0 rfl dX11_isRight_64 ?_
            refine g_get (pc := 65) hG fl11_34 0 rfl rfl dX11_isRight_65 ?_
            refine g_iload_n (pc := 68) hG 2 rfl dX11_isRight_68 ?_
            refine g_laload (pc := 69) hG 5 c rfl rfl (by omega) (by omega) (by decide) dX11_isRight_69 ?_
            refine g_lmul (pc := 70) hG dX11_isRight_70 ?_
            refine g_aload_n (pc := 71) hG 0 rfl dX11_isRight_71 ?_
            refine g_get (pc := 72) hG fl11_223 0 rfl rfl dX11_isRight_72 ?_
            refine g_lmul (pc := 75) hG dX11_isRight_75 ?_
            refine g_nmL (pc := 76) hG (fun x76 ex76 => ?_)
            refine g_lstore (pc := 76) hG (by decide) (lv' := [(6, lV (x76)), (0, .ref (ad (0))), (1, lV (bar)), (3, iV (((c : Nat) : Int))), (4, lV (x25))]) rfl dX11_isRight_76 ?_
            refine g_iconst (pc := 78) hG dX11_isRight_78 ?_
            refine g_istore (pc := 79) hG (by decide) (lv' := [(8, iV (0)), (6, lV (x76)), (0, .ref (ad (0))), (1, lV (bar)), (3, iV (((c : Nat) : Int))), (4, lV (x25))]) rfl dX11_isRight_79 ?_
            have L81 : ∀ (fu81 : Nat) (e8 : Int) (a8 : Nat), naM p m - a8 < fu81 → (a8 ≤ naM p m) → (e8 = eM Gm hh (baM Gm hh p m) (slM Gm p m) (clF (stM p m)) (dtM Gm p m) bar c a8) → G 81 [(0, .ref (ad (0))), (1, lV (bar)), (3, iV (((c : Nat) : Int))), (4, lV (x25)), (6, lV (e8)), (8, iV (((a8 : Nat) : Int)))] [] ([mdoC0 cI cL cZ ad (0) (((m : Nat) : Int)) (((n : Nat) : Int)) (yy) (k) (dn) (on) (tw) (bt) (bl) (bd) (((naM p m : Nat) : Int)) (dtM Gm p m) (tl) (ul) (th) (uh) (hd) (cn), mgC0 cI cL cZ cX cG ad (29) (Gm), mgC1 cI cL cZ cX cG ad (29) (Gm), mgC2 cI cL cZ cX cG ad (29) (Gm), mgC3 cI cL cZ cX cG ad (29) (Gm), l3C0 cI cL cZ ad (33) (hh), i3C0 cI cL cZ ad (46) (sg), i3C0 cI cL cZ ad (47) (ac), l3C0 cI cL cZ ad (48) (ba), l3C0 cI cL cZ ad (49) (sl)]) := by
              intro fu81
              induction fu81 with
              | zero => intro e8 a8 hm; exact absurd hm (Nat.not_lt_zero _)
              | succ fu81 ih81 =>
                intro e8 a8 hm81 ha8 he8
                refine g_iload (pc := 81) hG 5 rfl dX11_isRight_81 ?_
                refine g_aload_n (pc := 83) hG 0 rfl dX11_isRight_83 ?_
                refine g_get (pc := 84) hG fl11_220 0 rfl rfl dX11_isRight_84 ?_
                refine g_icmp_ge (pc := 87) hG (by omega) (by omega) (tgt := 143) (by decide) dX11_isRight_87 (fun h87 => ?_) (fun h87 => ?_)
                · refine g_lload (pc := 143) hG 4 rfl dX11_isRight_143 ?_
                  have heb := eM_b (h := hh) (ac := clF (stM p m)) (na := naM p m) (c := c) (show c < m by omega) (fun a ha => (cl_bit (stM_lt hp hm) hm ha).2.1) hGb hhb hPb.1 hbar (fun j hj => (hPb.2 j hj).1) (fun j hj => (hPb.2 j hj).2) a8 ha8
                  rw [← he8] at heb
                  have hbd := mul_bd (a := bar) (A := 50000) (b := dtM Gm p m) (B := 100000000000) (by omega) (by have := hPb.1; omega)
                  refine g_lconst (z := 0) (pc := 145) hG dX11_isRight_145 (by decide) ?_
                  have J158 : ∀ (j158s0 : Int), (((0 ≤ e8) ∧ j158s0 = e8) ∨ ((¬ 0 ≤ e8) ∧ j158s0 = -e8)) → G 158 [(0, .ref (ad (0))), (1, lV (bar)), (3, iV (((c : Nat) : Int))), (4, lV (x25)), (6, lV (e8)), (8, iV (((a8 : Nat) : Int)))] [lV (j158s0)] ([mdoC0 cI cL cZ ad (0) (((m : Nat) : Int)) (((n : Nat) : Int)) (yy) (k) (dn) (on) (tw) (bt) (bl) (bd) (((naM p m : Nat) : Int)) (dtM Gm p m) (tl) (ul) (th) (uh) (hd) (cn), mgC0 cI cL cZ cX cG ad (29) (Gm), mgC1 cI cL cZ cX cG ad (29) (Gm), mgC2 cI cL cZ cX cG ad (29) (Gm), mgC3 cI cL cZ cX cG ad (29) (Gm), l3C0 cI cL cZ ad (33) (hh), i3C0 cI cL cZ ad (46) (sg), i3C0 cI cL cZ ad (47) (ac), l3C0 cI cL cZ ad (48) (ba), l3C0 cI cL cZ ad (49) (sl)]) := by
                    intro j158s0 k158
                    refine g_lload_n (pc := 158) hG 1 rfl dX11_isRight_158 ?_
                    refine g_aload_n (pc := 159) hG 0 rfl dX11_isRight_159 ?_
                    refine g_get (pc := 160) hG fl11_223 0 rfl rfl dX11_isRight_160 ?_
                    refine g_lmul (pc := 163) hG dX11_isRight_163 ?_
                    refine g_lc_le (pc := 164) hG (by omega) (by omega) (tgt := 170) (by decide) dX11_isRight_164 dX11_isRight_165 (fun h164 => ?_) (fun h164 => ?_)
                    · refine g_iinc (pc := 170) hG 2 rfl (by decide) (lv' := [(3, iV ((((c : Nat) : Int)) + 1)), (0, .ref (ad (0))), (1, lV (bar)), (4, lV (x25)), (6, lV (e8)), (8, iV (((a8 : Nat) : Int)))]) rfl dX11_isRight_170 ?_
                      refine g_goto (pc := 173) hG (tgt := 2) (by decide) dX11_isRight_173 ?_
                      exact g_lv (pc := 2) hG [1, 2, 0] rfl (ih2 (c + 1) (by omega) (by omega) (fun j hj => by rcases Nat.lt_or_ge j c with h | h; exact hok j h; rw [show j = c by omega]; first | exact (rt_z h58).mpr (by have h9 := h164; rw [he8, show a8 = naM p m by omega] at k158; rcases k158 with q | q <;> rw [q.2] at h9 <;> omega) | exact rt_n h58 (by rw [← ex25]; rcases k52 with q | q; exact absurd q h58; exact q.2)))
                    · refine g_iconst (pc := 168) hG dX11_isRight_168 ?_
                      exact g_zreturn (pc := 169) hG (false) rfl ⟨false, Or.inr ⟨rfl, fun q => by have h9 := (rt_z h58).mp (q c (by omega)); rw [show naM p m = a8 by omega, ← he8] at h9; rcases k158 with r | r <;> rw [r.2] at h164 <;> omega⟩, rfl, rfl⟩ dX11_isRight_169
                  refine g_lc_ge (pc := 146) hG (by omega) (by omega) (tgt := 156) (by decide) dX11_isRight_146 dX11_isRight_147 (fun h146 => ?_) (fun h146 => ?_)
                  · refine g_lload (pc := 156) hG 4 rfl dX11_isRight_156 ?_
                    exact g_lv (pc := 158) hG [0, 1, 2, 3, 4, 5] rfl (J158 e8 (Or.inl ⟨h146, rfl⟩))
                  · refine g_lload (pc := 150) hG 4 rfl dX11_isRight_150 ?_
                    refine g_lneg (pc := 152) hG dX11_isRight_152 ?_
                    refine g_goto (pc := 153) hG (tgt := 158) (by decide) dX11_isRight_153 ?_
                    exact g_lv (pc := 158) hG [0, 1, 2, 3, 4, 5] rfl (J158 (-e8) (Or.inr (⟨h146, rfl⟩)))
                · refine g_lload (pc := 90) hG 4 rfl dX11_isRight_90 ?_
                  refine g_aload_n (pc := 92) hG 0 rfl dX11_isRight_92 ?_
                  refine g_get (pc := 93) hG fl11_31 0 rfl rfl dX11_isRight_93 ?_
                  refine g_iload_n (pc := 96) hG 2 rfl dX11_isRight_96 ?_
                  refine g_aaload (pc := 97) hG 1 4 c rfl rfl (by omega) (by omega) (by decide) dX11_isRight_97 ?_
                  refine g_aload_n (pc := 98) hG 0 rfl dX11_isRight_98 ?_
                  refine g_get (pc := 99) hG fl11_68 0 rfl rfl dX11_isRight_99 ?_
                  refine g_iload (pc := 102) hG 5 rfl dX11_isRight_102 ?_
                  have hk := (cl_bit (stM_lt hp hm) hm (show a8 < naM p m by omega)).2.1
                  have hba2 := hpt.2.2.2.2.1 _ hk
                  have hsl2 := hpt.2.2.2.2.2 _ hk
                  refine g_iaload (pc := 104) hG 7 a8 rfl rfl (by omega) (by omega) (by decide) dX11_isRight_104 ?_
                  refine g_eqI (pc := 105) hG (show (ac a8) = ((clF (stM p m) a8 : Nat) : Int) by exact hpt.2.2.2.1 a8 (by omega)) ?_
                  refine g_laload (pc := 105) hG (2 + c) (clF (stM p m) a8) (rw_at [mdoC0 cI cL cZ ad (0) (((m : Nat) : Int)) (((n : Nat) : Int)) (yy) (k) (dn) (on) (tw) (bt) (bl) (bd) (((naM p m : Nat) : Int)) (dtM Gm p m) (tl) (ul) (th) (uh) (hd) (cn), mgC0 cI cL cZ cX cG ad (29) (Gm)] _ 3 (fun i9 => (ad (30 + i9), aL cL 3 (Gm i9))) (by omega)) rfl (by omega) (by omega) (by decide) dX11_isRight_105 ?_
                  refine g_aload_n (pc := 106) hG 0 rfl dX11_isRight_106 ?_
                  refine g_get (pc := 107) hG fl11_71 0 rfl rfl dX11_isRight_107 ?_
                  refine g_aload_n (pc := 110) hG 0 rfl dX11_isRight_110 ?_
                  refine g_get (pc := 111) hG fl11_68 0 rfl rfl dX11_isRight_111 ?_
                  refine g_iload (pc := 114) hG 5 rfl dX11_isRight_114 ?_
                  refine g_iaload (pc := 116) hG 7 a8 rfl rfl (by omega) (by omega) (by decide) dX11_isRight_116 ?_
                  refine g_eqI (pc := 117) hG (show (ac a8) = ((clF (stM p m) a8 : Nat) : Int) by exact hpt.2.2.2.1 a8 (by omega)) ?_
                  refine g_laload (pc := 117) hG 8 (clF (stM p m) a8) rfl rfl (by omega) (by omega) (by decide) dX11_isRight_117 ?_
                  refine g_lload_n (pc := 118) hG 1 rfl dX11_isRight_118 ?_
                  refine g_aload_n (pc := 119) hG 0 rfl dX11_isRight_119 ?_
                  refine g_get (pc := 120) hG fl11_74 0 rfl rfl dX11_isRight_120 ?_
                  refine g_aload_n (pc := 123) hG 0 rfl dX11_isRight_123 ?_
                  refine g_get (pc := 124) hG fl11_68 0 rfl rfl dX11_isRight_124 ?_
                  refine g_iload (pc := 127) hG 5 rfl dX11_isRight_127 ?_
                  refine g_iaload (pc := 129) hG 7 a8 rfl rfl (by omega) (by omega) (by decide) dX11_isRight_129 ?_
                  refine g_eqI (pc := 130) hG (show (ac a8) = ((clF (stM p m) a8 : Nat) : Int) by exact hpt.2.2.2.1 a8 (by omega)) ?_
                  refine g_laload (pc := 130) hG 9 (clF (stM p m) a8) rfl rfl (by omega) (by omega) (by decide) dX11_isRight_130 ?_
                  refine g_lmul (pc := 131) hG dX11_isRight_131 ?_
                  refine g_ladd (pc := 132) hG dX11_isRight_132 ?_
                  refine g_lmul (pc := 133) hG dX11_isRight_133 ?_
                  refine g_lsub (pc := 134) hG dX11_isRight_134 ?_
                  refine g_nmL (pc := 135) hG (fun x135 ex135 => ?_)
                  refine g_lstore (pc := 135) hG (by decide) (lv' := [(6, lV (x135)), (0, .ref (ad (0))), (1, lV (bar)), (3, iV (((c : Nat) : Int))), (4, lV (x25)), (8, iV (((a8 : Nat) : Int)))]) rfl dX11_isRight_135 ?_
                  refine g_iinc (pc := 137) hG 5 rfl (by decide) (lv' := [(8, iV ((((a8 : Nat) : Int)) + 1)), (6, lV (x135)), (0, .ref (ad (0))), (1, lV (bar)), (3, iV (((c : Nat) : Int))), (4, lV (x25))]) rfl dX11_isRight_137 ?_
                  refine g_goto (pc := 140) hG (tgt := 81) (by decide) dX11_isRight_140 ?_
                  exact g_lv (pc := 81) hG [2, 3, 4, 5, 1, 0] rfl (ih81 x135 (a8 + 1) (by omega) (by omega) (by rw [ex135, he8, hba2, hsl2]; rfl))
            exact g_lv (pc := 81) hG [2, 3, 4, 5, 1, 0] rfl (L81 _ x76 0 (Nat.lt_succ_self _) (Nat.zero_le _) (by rw [ex76]; rfl))
        refine g_if_eq (pc := 33) hG (by omega) (tgt := 52) (by decide) dX11_isRight_33 (fun h33 => ?_) (fun h33 => ?_)
        · exact g_lv (pc := 52) hG [1, 2, 3, 0] rfl (J52 () (Or.inl (h33)))
        · refine g_lload (pc := 36) hG 0 rfl dX11_isRight_36 ?_
          refine g_callP (pc := 38) hG (As := [lV (x25)]) (rest := []) (c_J13_signum_95d88 (l := l) (D := D) (cI := cI) (cL := cL) (cZ := cZ) (cX := cX) (cG := cG) x25 (by omega)) cs11_228 ⟨rfl, rfl⟩ ⟨Nat.le_of_ble_eq_true rfl, Nat.le_of_ble_eq_true rfl⟩ rfl rfl (Nat.le_of_ble_eq_true rfl) dX11_isRight_38 (fun v h => ?_)
          obtain ⟨rfl, -⟩ := h
          show G 41 [(4, lV (x25)), (0, .ref (ad (0))), (1, lV (bar)), (3, iV (((c : Nat) : Int)))] [iV (sgnZ x25)] ([mdoC0 cI cL cZ ad (0) (((m : Nat) : Int)) (((n : Nat) : Int)) (yy) (k) (dn) (on) (tw) (bt) (bl) (bd) (((naM p m : Nat) : Int)) (dtM Gm p m) (tl) (ul) (th) (uh) (hd) (cn), mgC0 cI cL cZ cX cG ad (29) (Gm), mgC1 cI cL cZ cX cG ad (29) (Gm), mgC2 cI cL cZ cX cG ad (29) (Gm), mgC3 cI cL cZ cX cG ad (29) (Gm), l3C0 cI cL cZ ad (33) (hh), i3C0 cI cL cZ ad (46) (sg), i3C0 cI cL cZ ad (47) (ac), l3C0 cI cL cZ ad (48) (ba), l3C0 cI cL cZ ad (49) (sl)])
          have hsz := sgn_bd x25
          refine g_aload_n (pc := 41) hG 1 rfl dX11_isRight_41 ?_
          refine g_get (pc := 42) hG fl11_65 0 rfl rfl dX11_isRight_42 ?_
          refine g_iload_n (pc := 45) hG 3 rfl dX11_isRight_45 ?_
          refine g_iaload (pc := 46) hG 6 c rfl rfl (by omega) (by omega) (by decide) dX11_isRight_46 ?_
          refine g_eqI (pc := 47) hG (show sg c = sgM p c by exact hsgc) ?_
          refine g_icmp_eq (pc := 47) hG (by omega) (by omega) (tgt := 52) (by decide) dX11_isRight_47 (fun h47 => ?_) (fun h47 => ?_)
          · exact g_lv (pc := 52) hG [1, 2, 3, 0] rfl (J52 () (Or.inr (⟨h33, h47⟩)))
          · refine g_iconst (pc := 50) hG dX11_isRight_50 ?_
            exact g_zreturn (pc := 51) hG (false) rfl ⟨false, Or.inr ⟨rfl, fun q => rt_no1 h33 (by rw [← ex25]; exact h47) (q c (by omega))⟩, rfl, rfl⟩ dX11_isRight_51
  exact g_lv (pc := 2) hG [1, 2, 0] rfl (L2 _ 0 (Nat.lt_succ_self _) (Nat.zero_le _) (fun j h => absurd h (Nat.not_lt_zero _)))
set_option maxHeartbeats 4000000 in
set_option maxRecDepth 100000 in
theorem c_X11_findPattern {l : Launch} {D : va_G} {cI cL cZ cX cG : ClassId} (ad : Nat → Nat) (m : Nat) (n : Nat) (yy : Int) (k : Int) (dn : Int) (on : Int) (tw : Int) (bt : Int) (bl : Int) (bd : Int) (na : Int) (dt : Int) (tl : Int) (ul : Int) (th : Int) (uh : Int) (hd : Bool) (cn : Int) (Gm : Nat → Nat → Int) (Mm : Nat → Nat → Int) (hh : Nat → Int) (sg : Nat → Int) (ac : Nat → Int) (ba : Nat → Int) (sl : Nat → Int) (bar : Int) (hm : 1 ≤ m ∧ m ≤ 3) (hGb : ∀ a b, a < m → b < m → -1944 ≤ Gm a b ∧ Gm a b ≤ 1944) (hhb : ∀ j, j < m → -21384 ≤ hh j ∧ hh j ≤ 21384) (hPa : ∀ p, p < 3 ^ m → PaB1 Gm hh m p) (hEx : ∃ p, p < 3 ^ m ∧ RightM Gm hh m p bar) (hbar : 0 ≤ bar ∧ bar ≤ 50000) : Ct l D (gT cI cL cZ cX cG) yX11_findPattern cX11_findPattern 4 (some .boolean) ({ frames := 3, cells := 0, slots := 0, locals := 73 }) [.ref (ad (0)), lV (bar)] ([mdoC0 cI cL cZ ad (0) (((m : Nat) : Int)) (((n : Nat) : Int)) (yy) (k) (dn) (on) (tw) (bt) (bl) (bd) (na) (dt) (tl) (ul) (th) (uh) (hd) (cn), mgC0 cI cL cZ cX cG ad (29) (Gm), mgC1 cI cL cZ cX cG ad (29) (Gm), mgC2 cI cL cZ cX cG ad (29) (Gm), mgC3 cI cL cZ cX cG ad (29) (Gm), mgC0 cI cL cZ cX cG ad (35) (Mm), mgC1 cI cL cZ cX cG ad (35) (Mm), mgC2 cI cL cZ cX cG ad (35) (Mm), mgC3 cI cL cZ cX cG ad (35) (Mm), l3C0 cI cL cZ ad (33) (hh), i3C0 cI cL cZ ad (46) (sg), i3C0 cI cL cZ ad (47) (ac), l3C0 cI cL cZ ad (48) (ba), l3C0 cI cL cZ ad (49) (sl)]) (fun vv_ ww_ => ∃ (v : Bool), ∃ (p2 : Nat), ∃ (M2 : Nat → Nat → Int), ∃ (sg2 : Nat → Int), ∃ (ac2 : Nat → Int), ∃ (ba2 : Nat → Int), ∃ (sl2 : Nat → Int), (p2 < 3 ^ m ∧ RightM Gm hh m p2 bar) ∧ (PatR Gm hh m p2 ((naM p2 m : Nat) : Int) (dtM Gm p2 m) sg2 ac2 ba2 sl2) ∧ vv_ = some (bV (v)) ∧ ww_ = [mdoC0 cI cL cZ ad (0) (((m : Nat) : Int)) (((n : Nat) : Int)) (yy) (k) (dn) (on) (tw) (bt) (bl) (bd) (((naM p2 m : Nat) : Int)) (dtM Gm p2 m) (tl) (ul) (th) (uh) (hd) (cn), mgC0 cI cL cZ cX cG ad (29) (Gm), mgC1 cI cL cZ cX cG ad (29) (Gm), mgC2 cI cL cZ cX cG ad (29) (Gm), mgC3 cI cL cZ cX cG ad (29) (Gm), mgC0 cI cL cZ cX cG ad (35) (M2), mgC1 cI cL cZ cX cG ad (35) (M2), mgC2 cI cL cZ cX cG ad (35) (M2), mgC3 cI cL cZ cX cG ad (35) (M2), l3C0 cI cL cZ ad (33) (hh), i3C0 cI cL cZ ad (46) (sg2), i3C0 cI cL cZ ad (47) (ac2), l3C0 cI cL cZ ad (48) (ba2), l3C0 cI cL cZ ad (49) (sl2)]) := by
  refine Ct.of (by decide) (Nat.le_of_ble_eq_true rfl) (fun G hG => ?_)
  show G 0 [(0, .ref (ad (0))), (1, lV (bar))] [] ([mdoC0 cI cL cZ ad (0) (((m : Nat) : Int)) (((n : Nat) : Int)) (yy) (k) (dn) (on) (tw) (bt) (bl) (bd) (na) (dt) (tl) (ul) (th) (uh) (hd) (cn), mgC0 cI cL cZ cX cG ad (29) (Gm), mgC1 cI cL cZ cX cG ad (29) (Gm), mgC2 cI cL cZ cX cG ad (29) (Gm), mgC3 cI cL cZ cX cG ad (29) (Gm), mgC0 cI cL cZ cX cG ad (35) (Mm), mgC1 cI cL cZ cX cG ad (35) (Mm), mgC2 cI cL cZ cX cG ad (35) (Mm), mgC3 cI cL cZ cX cG ad (35) (Mm), l3C0 cI cL cZ ad (33) (hh), i3C0 cI cL cZ ad (46) (sg), i3C0 cI cL cZ ad (47) (ac), l3C0 cI cL cZ ad (48) (ba), l3C0 cI cL cZ ad (49) (sl)])
  refine g_iconst (pc := 0) hG dX11_findPattern_0 ?_
  refine g_istore_n (pc := 1) hG (by decide) (lv' := [(3, iV (0)), (0, .ref (ad (0))), (1, lV (bar))]) rfl dX11_findPattern_1 ?_
  have L2 : ∀ (fu2 : Nat) (p : Nat) (na6 : Int) (dt6 : Int) (M6 : Nat → Nat → Int) (sg6 : Nat → Int) (ac6 : Nat → Int) (ba6 : Nat → Int) (sl6 : Nat → Int), 3 ^ m - p < fu2 → (p ≤ 3 ^ m) → (∀ q, q < p → ¬ RightM Gm hh m q bar) → G 2 [(0, .ref (ad (0))), (1, lV (bar)), (3, iV (((p : Nat) : Int)))] [] ([mdoC0 cI cL cZ ad (0) (((m : Nat) : Int)) (((n : Nat) : Int)) (yy) (k) (dn) (on) (tw) (bt) (bl) (bd) (na6) (dt6) (tl) (ul) (th) (uh) (hd) (cn), mgC0 cI cL cZ cX cG ad (29) (Gm), mgC1 cI cL cZ cX cG ad (29) (Gm), mgC2 cI cL cZ cX cG ad (29) (Gm), mgC3 cI cL cZ cX cG ad (29) (Gm), mgC0 cI cL cZ cX cG ad (35) (M6), mgC1 cI cL cZ cX cG ad (35) (M6), mgC2 cI cL cZ cX cG ad (35) (M6), mgC3 cI cL cZ cX cG ad (35) (M6), l3C0 cI cL cZ ad (33) (hh), i3C0 cI cL cZ ad (46) (sg6), i3C0 cI cL cZ ad (47) (ac6), l3C0 cI cL cZ ad (48) (ba6), l3C0 cI cL cZ ad (49) (sl6)]) := by
    intro fu2
    induction fu2 with
    | zero => intro p na6 dt6 M6 sg6 ac6 ba6 sl6 hm; exact absurd hm (Nat.not_lt_zero _)
    | succ fu2 ih2 =>
      intro p na6 dt6 M6 sg6 ac6 ba6 sl6 hm2 hpm hno
      have hp3 := pow3_le hm.2
      refine g_iload_n (pc := 2) hG 2 rfl dX11_findPattern_2 ?_
      refine g_aload_n (pc := 3) hG 0 rfl dX11_findPattern_3 ?_
      refine g_get (pc := 4) hG fl11_7 0 rfl rfl dX11_findPattern_4 ?_
      refine g_callP (pc := 7) hG (As := [iV (((m : Nat) : Int))]) (rest := [iV (((p : Nat) : Int))]) (c_X11_patterns (l := l) (D := D) (cI := cI) (cL := cL) (cZ := cZ) (cX := cX) (cG := cG) m (hm)) cs11_234 ⟨rfl, rfl⟩ ⟨Nat.le_of_ble_eq_true rfl, Nat.le_of_ble_eq_true rfl⟩ rfl rfl (Nat.le_of_ble_eq_true rfl) dX11_findPattern_7 (fun v h => ?_)
      obtain ⟨rfl, -⟩ := h
      show G 10 [(0, .ref (ad (0))), (1, lV (bar)), (3, iV (((p : Nat) : Int)))] [iV (((3 ^ m : Nat) : Int)), iV (((p : Nat) : Int))] ([mdoC0 cI cL cZ ad (0) (((m : Nat) : Int)) (((n : Nat) : Int)) (yy) (k) (dn) (on) (tw) (bt) (bl) (bd) (na6) (dt6) (tl) (ul) (th) (uh) (hd) (cn), mgC0 cI cL cZ cX cG ad (29) (Gm), mgC1 cI cL cZ cX cG ad (29) (Gm), mgC2 cI cL cZ cX cG ad (29) (Gm), mgC3 cI cL cZ cX cG ad (29) (Gm), mgC0 cI cL cZ cX cG ad (35) (M6), mgC1 cI cL cZ cX cG ad (35) (M6), mgC2 cI cL cZ cX cG ad (35) (M6), mgC3 cI cL cZ cX cG ad (35) (M6), l3C0 cI cL cZ ad (33) (hh), i3C0 cI cL cZ ad (46) (sg6), i3C0 cI cL cZ ad (47) (ac6), l3C0 cI cL cZ ad (48) (ba6), l3C0 cI cL cZ ad (49) (sl6)])
      refine g_icmp_ge (pc := 10) hG (by omega) (by omega) (tgt := 34) (by decide) dX11_findPattern_10 (fun h10 => ?_) (fun h10 => ?_)
      · refine g_iconst (pc := 34) hG dX11_findPattern_34 ?_
        exact g_zreturn (pc := 35) hG (false) rfl ⟨false, 0, M6, sg6, ac6, ba6, sl6, by obtain ⟨q, h1, h2⟩ := hEx; exact absurd h2 (hno q (by omega)), by obtain ⟨q, h1, h2⟩ := hEx; exact absurd h2 (hno q (by omega)), rfl, by obtain ⟨q, h1, h2⟩ := hEx; exact absurd h2 (hno q (by omega))⟩ dX11_findPattern_35
      · refine g_aload_n (pc := 13) hG 0 rfl dX11_findPattern_13 ?_
        refine g_iload_n (pc := 14) hG 2 rfl dX11_findPattern_14 ?_
        refine g_callV (pc := 15) hG (As := [iV (((p : Nat) : Int))]) (rest := []) (c_X11_pattern (l := l) (D := D) (cI := cI) (cL := cL) (cZ := cZ) (cX := cX) (cG := cG) ad m n yy k dn on tw bt bl bd na6 dt6 tl ul th uh hd cn Gm M6 hh sg6 ac6 ba6 sl6 p (hm.2) (by omega)) (Sp.whole _) cv11_237 ⟨rfl, rfl⟩ ⟨Nat.le_of_ble_eq_true rfl, Nat.le_of_ble_eq_true rfl⟩ 0 rfl rfl rfl rfl (Nat.le_of_ble_eq_true rfl) dX11_findPattern_15 (fun v w1 h => ?_)
        obtain ⟨na2_15, dt2_15, M2_15, sg2_15, ac2_15, ba2_15, sl2_15, hpt_15, rfl, rfl⟩ := h
        show G 18 [(0, .ref (ad (0))), (1, lV (bar)), (3, iV (((p : Nat) : Int)))] [] ([mdoC0 cI cL cZ ad (0) (((m : Nat) : Int)) (((n : Nat) : Int)) (yy) (k) (dn) (on) (tw) (bt) (bl) (bd) (na2_15) (dt2_15) (tl) (ul) (th) (uh) (hd) (cn), mgC0 cI cL cZ cX cG ad (29) (Gm), mgC1 cI cL cZ cX cG ad (29) (Gm), mgC2 cI cL cZ cX cG ad (29) (Gm), mgC3 cI cL cZ cX cG ad (29) (Gm), mgC0 cI cL cZ cX cG ad (35) (M2_15), mgC1 cI cL cZ cX cG ad (35) (M2_15), mgC2 cI cL cZ cX cG ad (35) (M2_15), mgC3 cI cL cZ cX cG ad (35) (M2_15), l3C0 cI cL cZ ad (33) (hh), i3C0 cI cL cZ ad (46) (sg2_15), i3C0 cI cL cZ ad (47) (ac2_15), l3C0 cI cL cZ ad (48) (ba2_15), l3C0 cI cL cZ ad (49) (sl2_15)])
        have hp1 := hpt_15.1
        have hp2 := hpt_15.2.1
        refine g_ws (pc := 18) hG (ws' := [mdoC0 cI cL cZ ad (0) (((m : Nat) : Int)) (((n : Nat) : Int)) (yy) (k) (dn) (on) (tw) (bt) (bl) (bd) (((naM p m : Nat) : Int)) (dtM Gm p m) (tl) (ul) (th) (uh) (hd) (cn), mgC0 cI cL cZ cX cG ad (29) (Gm), mgC1 cI cL cZ cX cG ad (29) (Gm), mgC2 cI cL cZ cX cG ad (29) (Gm), mgC3 cI cL cZ cX cG ad (29) (Gm), mgC0 cI cL cZ cX cG ad (35) (M2_15), mgC1 cI cL cZ cX cG ad (35) (M2_15), mgC2 cI cL cZ cX cG ad (35) (M2_15), mgC3 cI cL cZ cX cG ad (35) (M2_15), l3C0 cI cL cZ ad (33) (hh), i3C0 cI cL cZ ad (46) (sg2_15), i3C0 cI cL cZ ad (47) (ac2_15), l3C0 cI cL cZ ad (48) (ba2_15), l3C0 cI cL cZ ad (49) (sl2_15)]) (by rw [hp1, hp2]) ?_
        rw [hp1, hp2] at hpt_15
        refine g_aload_n (pc := 18) hG 0 rfl dX11_findPattern_18 ?_
        refine g_lload_n (pc := 19) hG 1 rfl dX11_findPattern_19 ?_
        refine g_callV (pc := 20) hG (As := [lV (bar)]) (rest := []) (c_X11_isRight (l := l) (D := D) (cI := cI) (cL := cL) (cZ := cZ) (cX := cX) (cG := cG) ad m n yy k dn on tw bt bl bd tl ul th uh hd cn Gm hh sg2_15 ac2_15 ba2_15 sl2_15 p bar (hm.2) (hGb) (hhb) (by omega) (hpt_15) (hPa p (by omega)) (hbar)) (Sp.mg [true, true, true, true, true, false, false, false, false, true, true, true, true, true] rfl) cv11_240 ⟨rfl, rfl⟩ ⟨Nat.le_of_ble_eq_true rfl, Nat.le_of_ble_eq_true rfl⟩ 0 rfl rfl rfl rfl (Nat.le_of_ble_eq_true rfl) dX11_findPattern_20 (fun v w1 h => ?_)
        obtain ⟨v_20, hv_20, rfl, rfl⟩ := h
        show G 23 [(0, .ref (ad (0))), (1, lV (bar)), (3, iV (((p : Nat) : Int)))] [bV (v_20)] ([mdoC0 cI cL cZ ad (0) (((m : Nat) : Int)) (((n : Nat) : Int)) (yy) (k) (dn) (on) (tw) (bt) (bl) (bd) (((naM p m : Nat) : Int)) (dtM Gm p m) (tl) (ul) (th) (uh) (hd) (cn), mgC0 cI cL cZ cX cG ad (29) (Gm), mgC1 cI cL cZ cX cG ad (29) (Gm), mgC2 cI cL cZ cX cG ad (29) (Gm), mgC3 cI cL cZ cX cG ad (29) (Gm), mgC0 cI cL cZ cX cG ad (35) (M2_15), mgC1 cI cL cZ cX cG ad (35) (M2_15), mgC2 cI cL cZ cX cG ad (35) (M2_15), mgC3 cI cL cZ cX cG ad (35) (M2_15), l3C0 cI cL cZ ad (33) (hh), i3C0 cI cL cZ ad (46) (sg2_15), i3C0 cI cL cZ ad (47) (ac2_15), l3C0 cI cL cZ ad (48) (ba2_15), l3C0 cI cL cZ ad (49) (sl2_15)])
        refine g_ifb_eq (pc := 23) hG (tgt := 28) (by decide) dX11_findPattern_23 (fun h23 => ?_) (fun h23 => ?_)
        · refine g_iinc (pc := 28) hG 2 rfl (by decide) (lv' := [(3, iV ((((p : Nat) : Int)) + 1)), (0, .ref (ad (0))), (1, lV (bar))]) rfl dX11_findPattern_28 ?_
          refine g_goto (pc := 31) hG (tgt := 2) (by decide) dX11_findPattern_31 ?_
          exact g_lv (pc := 2) hG [1, 2, 0] rfl (ih2 (p + 1) (((naM p m : Nat) : Int)) (dtM Gm p m) M2_15 sg2_15 ac2_15 ba2_15 sl2_15 (by omega) (by omega) (fun q hq => by rcases Nat.lt_or_ge q p with h | h; exact hno q h; rw [show q = p by omega]; exact fs_no (hv_20.symm) h23))
        · refine g_iconst (pc := 26) hG dX11_findPattern_26 ?_
          exact g_zreturn (pc := 27) hG (true) rfl ⟨true, p, M2_15, sg2_15, ac2_15, ba2_15, sl2_15, ⟨by omega, by rcases hv_20 with h | h; exact h.2; (rw [h.1] at h23; cases h23)⟩, hpt_15, rfl, rfl⟩ dX11_findPattern_27
  exact g_lv (pc := 2) hG [1, 2, 0] rfl (L2 _ 0 na dt Mm sg ac ba sl (Nat.lt_succ_self _) (Nat.zero_le _) (fun j h => absurd h (Nat.not_lt_zero _)))
set_option maxHeartbeats 4000000 in
set_option maxRecDepth 100000 in
theorem c_X11_barred {l : Launch} {D : va_G} {cI cL cZ cX cG : ClassId} (ad : Nat → Nat) (m : Nat) (n : Nat) (yy : Int) (k : Int) (dn : Int) (on : Int) (tw : Int) (bt : Int) (bl : Int) (bd : Int) (na : Int) (dt : Int) (tl : Int) (ul : Int) (th : Int) (uh : Int) (hd : Bool) (cn : Int) (X : Nat → Nat → Int) (Y : Nat → Int) (K : Nat → Bool) (U : Nat → Bool) (Gm : Nat → Nat → Int) (hh : Nat → Int) (cl : Nat → Int) (Mm : Nat → Nat → Int) (nr : Nat → Int) (sg : Nat → Int) (ac : Nat → Int) (ba : Nat → Int) (sl : Nat → Int) (bar : Int) (c : Int) (wh : Int) (hm : 1 ≤ m ∧ m ≤ 3) (hB : MbB X Y n) (hPa : (¬ detM (gmA X K n) m = 0) → PaB (gmA X K n) (rhA X Y K n) m) (hEx : (¬ detM (gmA X K n) m = 0) → ∀ b : Int, 0 ≤ b → b ≤ 50000 → ∃ p, p < 3 ^ m ∧ RightM (gmA X K n) (rhA X Y K n) m p b) (hbar : InI bar) (hc : InI c) (hw : InI wh) : Ct l D (gT cI cL cZ cX cG) yX11_barred cX11_barred 4 (some .long) ({ frames := 5, cells := 0, slots := 0, locals := 118 }) [.ref (ad (0)), iV (bar), iV (c), iV (wh)] ([mdoC0 cI cL cZ ad (0) (((m : Nat) : Int)) (((n : Nat) : Int)) (yy) (k) (dn) (on) (tw) (bt) (bl) (bd) (na) (dt) (tl) (ul) (th) (uh) (hd) (cn), i24C0 cI cL cZ ad (26) (Y), z24C0 cI cL cZ ad (27) (K), z24C0 cI cL cZ ad (28) (U), mgC0 cI cL cZ cX cG ad (29) (Gm), mgC1 cI cL cZ cX cG ad (29) (Gm), mgC2 cI cL cZ cX cG ad (29) (Gm), mgC3 cI cL cZ cX cG ad (29) (Gm), i3C0 cI cL cZ ad (34) (cl), mgC0 cI cL cZ cX cG ad (35) (Mm), mgC1 cI cL cZ cX cG ad (35) (Mm), mgC2 cI cL cZ cX cG ad (35) (Mm), mgC3 cI cL cZ cX cG ad (35) (Mm), l3C0 cI cL cZ ad (41) (nr), l3C0 cI cL cZ ad (33) (hh), i3C0 cI cL cZ ad (46) (sg), i3C0 cI cL cZ ad (47) (ac), l3C0 cI cL cZ ad (48) (ba), l3C0 cI cL cZ ad (49) (sl), mxC0 cI cL cZ cX cG ad (1) (X), mxC1 cI cL cZ cX cG ad (1) (X), mxC2 cI cL cZ cX cG ad (1) (X), mxC3 cI cL cZ cX cG ad (1) (X), mxC4 cI cL cZ cX cG ad (1) (X), mxC5 cI cL cZ cX cG ad (1) (X), mxC6 cI cL cZ cX cG ad (1) (X), mxC7 cI cL cZ cX cG ad (1) (X), mxC8 cI cL cZ cX cG ad (1) (X), mxC9 cI cL cZ cX cG ad (1) (X), mxC10 cI cL cZ cX cG ad (1) (X), mxC11 cI cL cZ cX cG ad (1) (X), mxC12 cI cL cZ cX cG ad (1) (X), mxC13 cI cL cZ cX cG ad (1) (X), mxC14 cI cL cZ cX cG ad (1) (X), mxC15 cI cL cZ cX cG ad (1) (X), mxC16 cI cL cZ cX cG ad (1) (X), mxC17 cI cL cZ cX cG ad (1) (X), mxC18 cI cL cZ cX cG ad (1) (X), mxC19 cI cL cZ cX cG ad (1) (X), mxC20 cI cL cZ cX cG ad (1) (X), mxC21 cI cL cZ cX cG ad (1) (X), mxC22 cI cL cZ cX cG ad (1) (X), mxC23 cI cL cZ cX cG ad (1) (X), mxC24 cI cL cZ cX cG ad (1) (X)]) (fun vv_ ww_ => ∃ (v : Int), ∃ (U2 : Nat → Bool), ∃ (k2 : Int), ∃ (yy2 : Int), ∃ (G2 : Nat → Nat → Int), ∃ (h2 : Nat → Int), ∃ (cl2 : Nat → Int), ∃ (on2 : Int), ∃ (tw2 : Int), ∃ (M2 : Nat → Nat → Int), ∃ (n2 : Nat → Int), ∃ (na2 : Int), ∃ (dt2 : Int), ∃ (sg2 : Nat → Int), ∃ (ac2 : Nat → Int), ∃ (ba2 : Nat → Int), ∃ (sl2 : Nat → Int), ((((0 ≤ bar ∧ bar ≤ 50000) ∧ (0 ≤ c ∧ c < ((m : Nat) : Int)) ∧ (¬ detM (gmA X K n) m = 0)) ∧ ∃ p, p < 3 ^ m ∧ RightM (gmA X K n) (rhA X Y K n) m p bar ∧ v = tellZ (baM (gmA X K n) (rhA X Y K n) p m c.toNat + bar * slM (gmA X K n) p m c.toNat) (2 * dtM (gmA X K n) p m) wh) ∨ (¬ ((0 ≤ bar ∧ bar ≤ 50000) ∧ (0 ≤ c ∧ c < ((m : Nat) : Int)) ∧ (¬ detM (gmA X K n) m = 0)) ∧ v = -1)) ∧ vv_ = some (lV (v)) ∧ ww_ = [mdoC0 cI cL cZ ad (0) (((m : Nat) : Int)) (((n : Nat) : Int)) (yy2) (k2) (dn) (on2) (tw2) (bt) (bl) (bd) (na2) (dt2) (tl) (ul) (th) (uh) (hd) (cn), i24C0 cI cL cZ ad (26) (Y), z24C0 cI cL cZ ad (27) (K), z24C0 cI cL cZ ad (28) (U2), mgC0 cI cL cZ cX cG ad (29) (G2), mgC1 cI cL cZ cX cG ad (29) (G2), mgC2 cI cL cZ cX cG ad (29) (G2), mgC3 cI cL cZ cX cG ad (29) (G2), i3C0 cI cL cZ ad (34) (cl2), mgC0 cI cL cZ cX cG ad (35) (M2), mgC1 cI cL cZ cX cG ad (35) (M2), mgC2 cI cL cZ cX cG ad (35) (M2), mgC3 cI cL cZ cX cG ad (35) (M2), l3C0 cI cL cZ ad (41) (n2), l3C0 cI cL cZ ad (33) (h2), i3C0 cI cL cZ ad (46) (sg2), i3C0 cI cL cZ ad (47) (ac2), l3C0 cI cL cZ ad (48) (ba2), l3C0 cI cL cZ ad (49) (sl2), mxC0 cI cL cZ cX cG ad (1) (X), mxC1 cI cL cZ cX cG ad (1) (X), mxC2 cI cL cZ cX cG ad (1) (X), mxC3 cI cL cZ cX cG ad (1) (X), mxC4 cI cL cZ cX cG ad (1) (X), mxC5 cI cL cZ cX cG ad (1) (X), mxC6 cI cL cZ cX cG ad (1) (X), mxC7 cI cL cZ cX cG ad (1) (X), mxC8 cI cL cZ cX cG ad (1) (X), mxC9 cI cL cZ cX cG ad (1) (X), mxC10 cI cL cZ cX cG ad (1) (X), mxC11 cI cL cZ cX cG ad (1) (X), mxC12 cI cL cZ cX cG ad (1) (X), mxC13 cI cL cZ cX cG ad (1) (X), mxC14 cI cL cZ cX cG ad (1) (X), mxC15 cI cL cZ cX cG ad (1) (X), mxC16 cI cL cZ cX cG ad (1) (X), mxC17 cI cL cZ cX cG ad (1) (X), mxC18 cI cL cZ cX cG ad (1) (X), mxC19 cI cL cZ cX cG ad (1) (X), mxC20 cI cL cZ cX cG ad (1) (X), mxC21 cI cL cZ cX cG ad (1) (X), mxC22 cI cL cZ cX cG ad (1) (X), mxC23 cI cL cZ cX cG ad (1) (X), mxC24 cI cL cZ cX cG ad (1) (X)]) := by
  refine Ct.of (by decide) (Nat.le_of_ble_eq_true rfl) (fun G hG => ?_)
  show G 0 [(0, .ref (ad (0))), (1, iV (bar)), (2, iV (c)), (3, iV (wh))] [] ([mdoC0 cI cL cZ ad (0) (((m : Nat) : Int)) (((n : Nat) : Int)) (yy) (k) (dn) (on) (tw) (bt) (bl) (bd) (na) (dt) (tl) (ul) (th) (uh) (hd) (cn), i24C0 cI cL cZ ad (26) (Y), z24C0 cI cL cZ ad (27) (K), z24C0 cI cL cZ ad (28) (U), mgC0 cI cL cZ cX cG ad (29) (Gm), mgC1 cI cL cZ cX cG ad (29) (Gm), mgC2 cI cL cZ cX cG ad (29) (Gm), mgC3 cI cL cZ cX cG ad (29) (Gm), i3C0 cI cL cZ ad (34) (cl), mgC0 cI cL cZ cX cG ad (35) (Mm), mgC1 cI cL cZ cX cG ad (35) (Mm), mgC2 cI cL cZ cX cG ad (35) (Mm), mgC3 cI cL cZ cX cG ad (35) (Mm), l3C0 cI cL cZ ad (41) (nr), l3C0 cI cL cZ ad (33) (hh), i3C0 cI cL cZ ad (46) (sg), i3C0 cI cL cZ ad (47) (ac), l3C0 cI cL cZ ad (48) (ba), l3C0 cI cL cZ ad (49) (sl), mxC0 cI cL cZ cX cG ad (1) (X), mxC1 cI cL cZ cX cG ad (1) (X), mxC2 cI cL cZ cX cG ad (1) (X), mxC3 cI cL cZ cX cG ad (1) (X), mxC4 cI cL cZ cX cG ad (1) (X), mxC5 cI cL cZ cX cG ad (1) (X), mxC6 cI cL cZ cX cG ad (1) (X), mxC7 cI cL cZ cX cG ad (1) (X), mxC8 cI cL cZ cX cG ad (1) (X), mxC9 cI cL cZ cX cG ad (1) (X), mxC10 cI cL cZ cX cG ad (1) (X), mxC11 cI cL cZ cX cG ad (1) (X), mxC12 cI cL cZ cX cG ad (1) (X), mxC13 cI cL cZ cX cG ad (1) (X), mxC14 cI cL cZ cX cG ad (1) (X), mxC15 cI cL cZ cX cG ad (1) (X), mxC16 cI cL cZ cX cG ad (1) (X), mxC17 cI cL cZ cX cG ad (1) (X), mxC18 cI cL cZ cX cG ad (1) (X), mxC19 cI cL cZ cX cG ad (1) (X), mxC20 cI cL cZ cX cG ad (1) (X), mxC21 cI cL cZ cX cG ad (1) (X), mxC22 cI cL cZ cX cG ad (1) (X), mxC23 cI cL cZ cX cG ad (1) (X), mxC24 cI cL cZ cX cG ad (1) (X)])
  refine g_iload_n (pc := 0) hG 1 rfl dX11_barred_0 ?_
  refine g_if_lt (pc := 1) hG (by omega) (tgt := 25) (by decide) dX11_barred_1 (fun h1 => ?_) (fun h1 => ?_)
  · refine g_ldc2 (z := -1) (pc := 25) hG (v := -1) (inB wd_935 rfl) (by decide) dX11_barred_25 ?_
    exact g_lreturn (pc := 28) hG ⟨-1, U, k, yy, Gm, hh, cl, on, tw, Mm, nr, na, dt, sg, ac, ba, sl, Or.inr ⟨by first | (intro q; exact absurd q.2.2 (of_decide_eq_false h22)) | (intro q; exact absurd q.2.1 (of_decide_eq_false h15)) | (intro q; omega), rfl⟩, rfl, rfl⟩ dX11_barred_28
  · refine g_iload_n (pc := 4) hG 1 rfl dX11_barred_4 ?_
    refine g_ldc (z := 50000) (pc := 5) hG (v := 50000) (inB wd_1044 rfl) (by decide) dX11_barred_5 ?_
    refine g_icmp_gt (pc := 7) hG (by omega) (by omega) (tgt := 25) (by decide) dX11_barred_7 (fun h7 => ?_) (fun h7 => ?_)
    · refine g_ldc2 (z := -1) (pc := 25) hG (v := -1) (inB wd_935 rfl) (by decide) dX11_barred_25 ?_
      exact g_lreturn (pc := 28) hG ⟨-1, U, k, yy, Gm, hh, cl, on, tw, Mm, nr, na, dt, sg, ac, ba, sl, Or.inr ⟨by first | (intro q; exact absurd q.2.2 (of_decide_eq_false h22)) | (intro q; exact absurd q.2.1 (of_decide_eq_false h15)) | (intro q; omega), rfl⟩, rfl, rfl⟩ dX11_barred_28
    · refine g_aload_n (pc := 10) hG 0 rfl dX11_barred_10 ?_
      refine g_iload_n (pc := 11) hG 2 rfl dX11_barred_11 ?_
      refine g_callV (pc := 12) hG (As := [iV (c)]) (rest := []) (c_X11_isColumn (l := l) (D := D) (cI := cI) (cL := cL) (cZ := cZ) (cX := cX) (cG := cG) ad m n yy k dn on tw bt bl bd na dt tl ul th uh hd cn c (hm.2) (hc)) (Sp.mg [true] rfl) cv11_157 ⟨rfl, rfl⟩ ⟨Nat.le_of_ble_eq_true rfl, Nat.le_of_ble_eq_true rfl⟩ 0 rfl rfl rfl rfl (Nat.le_of_ble_eq_true rfl) dX11_barred_12 (fun v w1 h => ?_)
      obtain ⟨rfl, rfl⟩ := h
      show G 15 [(0, .ref (ad (0))), (1, iV (bar)), (2, iV (c)), (3, iV (wh))] [bV (decide (0 ≤ c ∧ c < ((m : Nat) : Int)))] ([mdoC0 cI cL cZ ad (0) (((m : Nat) : Int)) (((n : Nat) : Int)) (yy) (k) (dn) (on) (tw) (bt) (bl) (bd) (na) (dt) (tl) (ul) (th) (uh) (hd) (cn), i24C0 cI cL cZ ad (26) (Y), z24C0 cI cL cZ ad (27) (K), z24C0 cI cL cZ ad (28) (U), mgC0 cI cL cZ cX cG ad (29) (Gm), mgC1 cI cL cZ cX cG ad (29) (Gm), mgC2 cI cL cZ cX cG ad (29) (Gm), mgC3 cI cL cZ cX cG ad (29) (Gm), i3C0 cI cL cZ ad (34) (cl), mgC0 cI cL cZ cX cG ad (35) (Mm), mgC1 cI cL cZ cX cG ad (35) (Mm), mgC2 cI cL cZ cX cG ad (35) (Mm), mgC3 cI cL cZ cX cG ad (35) (Mm), l3C0 cI cL cZ ad (41) (nr), l3C0 cI cL cZ ad (33) (hh), i3C0 cI cL cZ ad (46) (sg), i3C0 cI cL cZ ad (47) (ac), l3C0 cI cL cZ ad (48) (ba), l3C0 cI cL cZ ad (49) (sl), mxC0 cI cL cZ cX cG ad (1) (X), mxC1 cI cL cZ cX cG ad (1) (X), mxC2 cI cL cZ cX cG ad (1) (X), mxC3 cI cL cZ cX cG ad (1) (X), mxC4 cI cL cZ cX cG ad (1) (X), mxC5 cI cL cZ cX cG ad (1) (X), mxC6 cI cL cZ cX cG ad (1) (X), mxC7 cI cL cZ cX cG ad (1) (X), mxC8 cI cL cZ cX cG ad (1) (X), mxC9 cI cL cZ cX cG ad (1) (X), mxC10 cI cL cZ cX cG ad (1) (X), mxC11 cI cL cZ cX cG ad (1) (X), mxC12 cI cL cZ cX cG ad (1) (X), mxC13 cI cL cZ cX cG ad (1) (X), mxC14 cI cL cZ cX cG ad (1) (X), mxC15 cI cL cZ cX cG ad (1) (X), mxC16 cI cL cZ cX cG ad (1) (X), mxC17 cI cL cZ cX cG ad (1) (X), mxC18 cI cL cZ cX cG ad (1) (X), mxC19 cI cL cZ cX cG ad (1) (X), mxC20 cI cL cZ cX cG ad (1) (X), mxC21 cI cL cZ cX cG ad (1) (X), mxC22 cI cL cZ cX cG ad (1) (X), mxC23 cI cL cZ cX cG ad (1) (X), mxC24 cI cL cZ cX cG ad (1) (X)])
      refine g_ifb_eq (pc := 15) hG (tgt := 25) (by decide) dX11_barred_15 (fun h15 => ?_) (fun h15 => ?_)
      · refine g_ldc2 (z := -1) (pc := 25) hG (v := -1) (inB wd_935 rfl) (by decide) dX11_barred_25 ?_
        exact g_lreturn (pc := 28) hG ⟨-1, U, k, yy, Gm, hh, cl, on, tw, Mm, nr, na, dt, sg, ac, ba, sl, Or.inr ⟨by first | (intro q; exact absurd q.2.2 (of_decide_eq_false h22)) | (intro q; exact absurd q.2.1 (of_decide_eq_false h15)) | (intro q; omega), rfl⟩, rfl, rfl⟩ dX11_barred_28
      · refine g_aload_n (pc := 18) hG 0 rfl dX11_barred_18 ?_
        refine g_callV (pc := 19) hG (As := []) (rest := []) (c_X11_isWhole (l := l) (D := D) (cI := cI) (cL := cL) (cZ := cZ) (cX := cX) (cG := cG) ad m n yy k dn on tw bt bl bd na dt tl ul th uh hd cn X Y K U Gm hh cl Mm nr (hm.2) (hB)) (Sp.mg [true, true, true, true, true, true, true, true, true, true, true, true, true, true, true, false, false, false, false, true, true, true, true, true, true, true, true, true, true, true, true, true, true, true, true, true, true, true, true, true, true, true, true, true] rfl) cv11_214 ⟨rfl, rfl⟩ ⟨Nat.le_of_ble_eq_true rfl, Nat.le_of_ble_eq_true rfl⟩ 0 rfl rfl rfl rfl (Nat.le_of_ble_eq_true rfl) dX11_barred_19 (fun v w1 h => ?_)
        obtain ⟨U2_19, k2_19, yy2_19, G2_19, h2_19, cl2_19, on2_19, tw2_19, M2_19, n2_19, hall_19, rfl, rfl⟩ := h
        show G 22 [(0, .ref (ad (0))), (1, iV (bar)), (2, iV (c)), (3, iV (wh))] [bV (decide (¬ detM (gmA X K n) m = 0))] ([mdoC0 cI cL cZ ad (0) (((m : Nat) : Int)) (((n : Nat) : Int)) (yy2_19) (((k2_19 : Nat) : Int)) (dn) (on2_19) (tw2_19) (bt) (bl) (bd) (na) (dt) (tl) (ul) (th) (uh) (hd) (cn), i24C0 cI cL cZ ad (26) (Y), z24C0 cI cL cZ ad (27) (K), z24C0 cI cL cZ ad (28) (U2_19), mgC0 cI cL cZ cX cG ad (29) (G2_19), mgC1 cI cL cZ cX cG ad (29) (G2_19), mgC2 cI cL cZ cX cG ad (29) (G2_19), mgC3 cI cL cZ cX cG ad (29) (G2_19), i3C0 cI cL cZ ad (34) (cl2_19), mgC0 cI cL cZ cX cG ad (35) (M2_19), mgC1 cI cL cZ cX cG ad (35) (M2_19), mgC2 cI cL cZ cX cG ad (35) (M2_19), mgC3 cI cL cZ cX cG ad (35) (M2_19), l3C0 cI cL cZ ad (41) (n2_19), l3C0 cI cL cZ ad (33) (h2_19), i3C0 cI cL cZ ad (46) (sg), i3C0 cI cL cZ ad (47) (ac), l3C0 cI cL cZ ad (48) (ba), l3C0 cI cL cZ ad (49) (sl), mxC0 cI cL cZ cX cG ad (1) (X), mxC1 cI cL cZ cX cG ad (1) (X), mxC2 cI cL cZ cX cG ad (1) (X), mxC3 cI cL cZ cX cG ad (1) (X), mxC4 cI cL cZ cX cG ad (1) (X), mxC5 cI cL cZ cX cG ad (1) (X), mxC6 cI cL cZ cX cG ad (1) (X), mxC7 cI cL cZ cX cG ad (1) (X), mxC8 cI cL cZ cX cG ad (1) (X), mxC9 cI cL cZ cX cG ad (1) (X), mxC10 cI cL cZ cX cG ad (1) (X), mxC11 cI cL cZ cX cG ad (1) (X), mxC12 cI cL cZ cX cG ad (1) (X), mxC13 cI cL cZ cX cG ad (1) (X), mxC14 cI cL cZ cX cG ad (1) (X), mxC15 cI cL cZ cX cG ad (1) (X), mxC16 cI cL cZ cX cG ad (1) (X), mxC17 cI cL cZ cX cG ad (1) (X), mxC18 cI cL cZ cX cG ad (1) (X), mxC19 cI cL cZ cX cG ad (1) (X), mxC20 cI cL cZ cX cG ad (1) (X), mxC21 cI cL cZ cX cG ad (1) (X), mxC22 cI cL cZ cX cG ad (1) (X), mxC23 cI cL cZ cX cG ad (1) (X), mxC24 cI cL cZ cX cG ad (1) (X)])
        refine g_ifb_ne (pc := 22) hG (tgt := 29) (by decide) dX11_barred_22 (fun h22 => ?_) (fun h22 => ?_)
        · have hwh := of_decide_eq_true h22
          have hd15 := of_decide_eq_true h15
          have hgb := hall_19.gb hm.2 hB
          have hG9 := hall_19.2.2.2
          have hh9 := hall_19.2.2.1
          have hpa9 := PaB_congr hm.2 hG9 hh9 (hPa hwh)
          have hex9 : ∃ p, p < 3 ^ m ∧ RightM G2_19 h2_19 m p bar := by obtain ⟨p, h1, h2⟩ := hEx hwh bar (by omega) (by omega); have h3 := pow3_le hm.2; exact ⟨p, h1, (RightM_congr (by omega) hm.2 hG9 hh9 bar).mpr h2⟩
          refine g_aload_n (pc := 29) hG 0 rfl dX11_barred_29 ?_
          refine g_iload_n (pc := 30) hG 1 rfl dX11_barred_30 ?_
          refine g_i2l (pc := 31) hG (by omega) dX11_barred_31 ?_
          refine g_callV (pc := 32) hG (As := [lV (bar)]) (rest := []) (c_X11_findPattern (l := l) (D := D) (cI := cI) (cL := cL) (cZ := cZ) (cX := cX) (cG := cG) ad m n yy2_19 (((k2_19 : Nat) : Int)) dn on2_19 tw2_19 bt bl bd na dt tl ul th uh hd cn G2_19 M2_19 h2_19 sg ac ba sl bar (hm) (hgb.1) (hgb.2.1) (hpa9) (hex9) (by omega)) (Sp.mg [true, false, false, false, true, true, true, true, false, true, true, true, true, false, true, true, true, true, true] rfl) cv11_245 ⟨rfl, rfl⟩ ⟨Nat.le_of_ble_eq_true rfl, Nat.le_of_ble_eq_true rfl⟩ 0 rfl rfl rfl rfl (Nat.le_of_ble_eq_true rfl) dX11_barred_32 (fun v w1 h => ?_)
          obtain ⟨v_32, p2_32, M2_32, sg2_32, ac2_32, ba2_32, sl2_32, hr_32, hpt_32, rfl, rfl⟩ := h
          show G 35 [(0, .ref (ad (0))), (1, iV (bar)), (2, iV (c)), (3, iV (wh))] [bV (v_32)] ([mdoC0 cI cL cZ ad (0) (((m : Nat) : Int)) (((n : Nat) : Int)) (yy2_19) (((k2_19 : Nat) : Int)) (dn) (on2_19) (tw2_19) (bt) (bl) (bd) (((naM p2_32 m : Nat) : Int)) (dtM G2_19 p2_32 m) (tl) (ul) (th) (uh) (hd) (cn), i24C0 cI cL cZ ad (26) (Y), z24C0 cI cL cZ ad (27) (K), z24C0 cI cL cZ ad (28) (U2_19), mgC0 cI cL cZ cX cG ad (29) (G2_19), mgC1 cI cL cZ cX cG ad (29) (G2_19), mgC2 cI cL cZ cX cG ad (29) (G2_19), mgC3 cI cL cZ cX cG ad (29) (G2_19), i3C0 cI cL cZ ad (34) (cl2_19), mgC0 cI cL cZ cX cG ad (35) (M2_32), mgC1 cI cL cZ cX cG ad (35) (M2_32), mgC2 cI cL cZ cX cG ad (35) (M2_32), mgC3 cI cL cZ cX cG ad (35) (M2_32), l3C0 cI cL cZ ad (41) (n2_19), l3C0 cI cL cZ ad (33) (h2_19), i3C0 cI cL cZ ad (46) (sg2_32), i3C0 cI cL cZ ad (47) (ac2_32), l3C0 cI cL cZ ad (48) (ba2_32), l3C0 cI cL cZ ad (49) (sl2_32), mxC0 cI cL cZ cX cG ad (1) (X), mxC1 cI cL cZ cX cG ad (1) (X), mxC2 cI cL cZ cX cG ad (1) (X), mxC3 cI cL cZ cX cG ad (1) (X), mxC4 cI cL cZ cX cG ad (1) (X), mxC5 cI cL cZ cX cG ad (1) (X), mxC6 cI cL cZ cX cG ad (1) (X), mxC7 cI cL cZ cX cG ad (1) (X), mxC8 cI cL cZ cX cG ad (1) (X), mxC9 cI cL cZ cX cG ad (1) (X), mxC10 cI cL cZ cX cG ad (1) (X), mxC11 cI cL cZ cX cG ad (1) (X), mxC12 cI cL cZ cX cG ad (1) (X), mxC13 cI cL cZ cX cG ad (1) (X), mxC14 cI cL cZ cX cG ad (1) (X), mxC15 cI cL cZ cX cG ad (1) (X), mxC16 cI cL cZ cX cG ad (1) (X), mxC17 cI cL cZ cX cG ad (1) (X), mxC18 cI cL cZ cX cG ad (1) (X), mxC19 cI cL cZ cX cG ad (1) (X), mxC20 cI cL cZ cX cG ad (1) (X), mxC21 cI cL cZ cX cG ad (1) (X), mxC22 cI cL cZ cX cG ad (1) (X), mxC23 cI cL cZ cX cG ad (1) (X), mxC24 cI cL cZ cX cG ad (1) (X)])
          have hp3 := pow3_le hm.2
          have hp27 : p2_32 < 27 := by have := hr_32.1; omega
          have hb9 := hpa9 _ hr_32.1
          have hbc := hb9.2 c.toNat (by omega)
          have hba := hpt_32.2.2.2.2.1 c.toNat (by omega)
          have hsl := hpt_32.2.2.2.2.2 c.toNat (by omega)
          have hms := mul_bd (a := bar) (A := 50000) (by omega) hbc.2
          rw [← hsl] at hms hbc
          rw [← hba] at hbc
          have hdp := hb9.1
          refine g_pop (pc := 35) hG rfl dX11_barred_35 ?_
          refine g_aload_n (pc := 36) hG 0 rfl dX11_barred_36 ?_
          refine g_get (pc := 37) hG fl11_71 0 rfl rfl dX11_barred_37 ?_
          refine g_iload_n (pc := 40) hG 2 rfl dX11_barred_40 ?_
          refine g_laload (pc := 41) hG 17 ((c).toNat) rfl rfl (by omega) (by omega) (by decide) dX11_barred_41 ?_
          refine g_iload_n (pc := 42) hG 1 rfl dX11_barred_42 ?_
          refine g_i2l (pc := 43) hG (by omega) dX11_barred_43 ?_
          refine g_aload_n (pc := 44) hG 0 rfl dX11_barred_44 ?_
          refine g_get (pc := 45) hG fl11_74 0 rfl rfl dX11_barred_45 ?_
          refine g_iload_n (pc := 48) hG 2 rfl dX11_barred_48 ?_
          refine g_laload (pc := 49) hG 18 ((c).toNat) rfl rfl (by omega) (by omega) (by decide) dX11_barred_49 ?_
          refine g_lmul (pc := 50) hG dX11_barred_50 ?_
          refine g_ladd (pc := 51) hG dX11_barred_51 ?_
          refine g_ldc2 (z := 2) (pc := 52) hG (v := 2) (inB wd_1056 rfl) (by decide) dX11_barred_52 ?_
          refine g_aload_n (pc := 55) hG 0 rfl dX11_barred_55 ?_
          refine g_get (pc := 56) hG fl11_223 0 rfl rfl dX11_barred_56 ?_
          refine g_lmul (pc := 59) hG dX11_barred_59 ?_
          refine g_iload_n (pc := 60) hG 3 rfl dX11_barred_60 ?_
          refine g_callP (pc := 61) hG (As := [lV ((ba2_32 ((c).toNat)) + (bar * (sl2_32 ((c).toNat)))), lV (2 * (dtM G2_19 p2_32 m)), iV (wh)]) (rest := []) (c_X11_told (l := l) (D := D) (cI := cI) (cL := cL) (cZ := cZ) (cX := cX) (cG := cG) ((ba2_32 ((c).toNat)) + (bar * (sl2_32 ((c).toNat)))) (2 * (dtM G2_19 p2_32 m)) wh (by omega) (by omega) (hw) (by omega)) cs11_163 ⟨rfl, rfl⟩ ⟨Nat.le_of_ble_eq_true rfl, Nat.le_of_ble_eq_true rfl⟩ rfl rfl (Nat.le_of_ble_eq_true rfl) dX11_barred_61 (fun v h => ?_)
          obtain ⟨rfl, -⟩ := h
          show G 64 [(0, .ref (ad (0))), (1, iV (bar)), (2, iV (c)), (3, iV (wh))] [lV (tellZ ((ba2_32 ((c).toNat)) + (bar * (sl2_32 ((c).toNat)))) (2 * (dtM G2_19 p2_32 m)) wh)] ([mdoC0 cI cL cZ ad (0) (((m : Nat) : Int)) (((n : Nat) : Int)) (yy2_19) (((k2_19 : Nat) : Int)) (dn) (on2_19) (tw2_19) (bt) (bl) (bd) (((naM p2_32 m : Nat) : Int)) (dtM G2_19 p2_32 m) (tl) (ul) (th) (uh) (hd) (cn), i24C0 cI cL cZ ad (26) (Y), z24C0 cI cL cZ ad (27) (K), z24C0 cI cL cZ ad (28) (U2_19), mgC0 cI cL cZ cX cG ad (29) (G2_19), mgC1 cI cL cZ cX cG ad (29) (G2_19), mgC2 cI cL cZ cX cG ad (29) (G2_19), mgC3 cI cL cZ cX cG ad (29) (G2_19), i3C0 cI cL cZ ad (34) (cl2_19), mgC0 cI cL cZ cX cG ad (35) (M2_32), mgC1 cI cL cZ cX cG ad (35) (M2_32), mgC2 cI cL cZ cX cG ad (35) (M2_32), mgC3 cI cL cZ cX cG ad (35) (M2_32), l3C0 cI cL cZ ad (41) (n2_19), l3C0 cI cL cZ ad (33) (h2_19), i3C0 cI cL cZ ad (46) (sg2_32), i3C0 cI cL cZ ad (47) (ac2_32), l3C0 cI cL cZ ad (48) (ba2_32), l3C0 cI cL cZ ad (49) (sl2_32), mxC0 cI cL cZ cX cG ad (1) (X), mxC1 cI cL cZ cX cG ad (1) (X), mxC2 cI cL cZ cX cG ad (1) (X), mxC3 cI cL cZ cX cG ad (1) (X), mxC4 cI cL cZ cX cG ad (1) (X), mxC5 cI cL cZ cX cG ad (1) (X), mxC6 cI cL cZ cX cG ad (1) (X), mxC7 cI cL cZ cX cG ad (1) (X), mxC8 cI cL cZ cX cG ad (1) (X), mxC9 cI cL cZ cX cG ad (1) (X), mxC10 cI cL cZ cX cG ad (1) (X), mxC11 cI cL cZ cX cG ad (1) (X), mxC12 cI cL cZ cX cG ad (1) (X), mxC13 cI cL cZ cX cG ad (1) (X), mxC14 cI cL cZ cX cG ad (1) (X), mxC15 cI cL cZ cX cG ad (1) (X), mxC16 cI cL cZ cX cG ad (1) (X), mxC17 cI cL cZ cX cG ad (1) (X), mxC18 cI cL cZ cX cG ad (1) (X), mxC19 cI cL cZ cX cG ad (1) (X), mxC20 cI cL cZ cX cG ad (1) (X), mxC21 cI cL cZ cX cG ad (1) (X), mxC22 cI cL cZ cX cG ad (1) (X), mxC23 cI cL cZ cX cG ad (1) (X), mxC24 cI cL cZ cX cG ad (1) (X)])
          exact g_lreturn (pc := 64) hG ⟨tellZ ((ba2_32 ((c).toNat)) + (bar * (sl2_32 ((c).toNat)))) (2 * (dtM G2_19 p2_32 m)) wh, U2_19, ((k2_19 : Nat) : Int), yy2_19, G2_19, h2_19, cl2_19, on2_19, tw2_19, M2_32, n2_19, ((naM p2_32 m : Nat) : Int), dtM G2_19 p2_32 m, sg2_32, ac2_32, ba2_32, sl2_32, Or.inl ⟨⟨by omega, hd15, hwh⟩, p2_32, hr_32.1, (RightM_congr hp27 hm.2 hG9 hh9 bar).mp hr_32.2, by rw [hba, hsl, baM_congr hp27 hm.2 hG9 hh9 (by omega), slM_congr hp27 hm.2 hG9 (by omega), dtM_congr hp27 hm.2 hG9]⟩, rfl, rfl⟩ dX11_barred_64
        · refine g_ldc2 (z := -1) (pc := 25) hG (v := -1) (inB wd_935 rfl) (by decide) dX11_barred_25 ?_
          exact g_lreturn (pc := 28) hG ⟨-1, U2_19, ((k2_19 : Nat) : Int), yy2_19, G2_19, h2_19, cl2_19, on2_19, tw2_19, M2_19, n2_19, na, dt, sg, ac, ba, sl, Or.inr ⟨by first | (intro q; exact absurd q.2.2 (of_decide_eq_false h22)) | (intro q; exact absurd q.2.1 (of_decide_eq_false h15)) | (intro q; omega), rfl⟩, rfl, rfl⟩ dX11_barred_28
set_option maxHeartbeats 4000000 in
set_option maxRecDepth 100000 in
theorem c_X11_cost {l : Launch} {D : va_G} {cI cL cZ cX cG : ClassId} (ad : Nat → Nat) (m : Nat) (n : Nat) (yy : Int) (k : Int) (dn : Int) (on : Int) (tw : Int) (bt : Int) (bl : Int) (bd : Int) (na : Int) (dt : Int) (tl : Int) (ul : Int) (th : Int) (uh : Int) (hd : Bool) (cn : Int) (X : Nat → Nat → Int) (Y : Nat → Int) (K : Nat → Bool) (U : Nat → Bool) (Gm : Nat → Nat → Int) (hh : Nat → Int) (cl : Nat → Int) (Mm : Nat → Nat → Int) (nr : Nat → Int) (sg : Nat → Int) (ac : Nat → Int) (ba : Nat → Int) (sl : Nat → Int) (bar : Int) (wh : Int) (hm : 1 ≤ m ∧ m ≤ 3) (hB : MbB X Y n) (hPa : (¬ detM (gmA X K n) m = 0) → PaB (gmA X K n) (rhA X Y K n) m) (hEx : (¬ detM (gmA X K n) m = 0) → ∀ b : Int, 0 ≤ b → b ≤ 50000 → ∃ p, p < 3 ^ m ∧ RightM (gmA X K n) (rhA X Y K n) m p b) (hbar : InI bar) (hw : InI wh) : Ct l D (gT cI cL cZ cX cG) yX11_cost cX11_cost 8 (some .long) ({ frames := 5, cells := 0, slots := 0, locals := 118 }) [.ref (ad (0)), iV (bar), iV (wh)] ([mdoC0 cI cL cZ ad (0) (((m : Nat) : Int)) (((n : Nat) : Int)) (yy) (k) (dn) (on) (tw) (bt) (bl) (bd) (na) (dt) (tl) (ul) (th) (uh) (hd) (cn), i24C0 cI cL cZ ad (26) (Y), z24C0 cI cL cZ ad (27) (K), z24C0 cI cL cZ ad (28) (U), mgC0 cI cL cZ cX cG ad (29) (Gm), mgC1 cI cL cZ cX cG ad (29) (Gm), mgC2 cI cL cZ cX cG ad (29) (Gm), mgC3 cI cL cZ cX cG ad (29) (Gm), i3C0 cI cL cZ ad (34) (cl), mgC0 cI cL cZ cX cG ad (35) (Mm), mgC1 cI cL cZ cX cG ad (35) (Mm), mgC2 cI cL cZ cX cG ad (35) (Mm), mgC3 cI cL cZ cX cG ad (35) (Mm), l3C0 cI cL cZ ad (41) (nr), l3C0 cI cL cZ ad (33) (hh), i3C0 cI cL cZ ad (46) (sg), i3C0 cI cL cZ ad (47) (ac), l3C0 cI cL cZ ad (48) (ba), l3C0 cI cL cZ ad (49) (sl), mxC0 cI cL cZ cX cG ad (1) (X), mxC1 cI cL cZ cX cG ad (1) (X), mxC2 cI cL cZ cX cG ad (1) (X), mxC3 cI cL cZ cX cG ad (1) (X), mxC4 cI cL cZ cX cG ad (1) (X), mxC5 cI cL cZ cX cG ad (1) (X), mxC6 cI cL cZ cX cG ad (1) (X), mxC7 cI cL cZ cX cG ad (1) (X), mxC8 cI cL cZ cX cG ad (1) (X), mxC9 cI cL cZ cX cG ad (1) (X), mxC10 cI cL cZ cX cG ad (1) (X), mxC11 cI cL cZ cX cG ad (1) (X), mxC12 cI cL cZ cX cG ad (1) (X), mxC13 cI cL cZ cX cG ad (1) (X), mxC14 cI cL cZ cX cG ad (1) (X), mxC15 cI cL cZ cX cG ad (1) (X), mxC16 cI cL cZ cX cG ad (1) (X), mxC17 cI cL cZ cX cG ad (1) (X), mxC18 cI cL cZ cX cG ad (1) (X), mxC19 cI cL cZ cX cG ad (1) (X), mxC20 cI cL cZ cX cG ad (1) (X), mxC21 cI cL cZ cX cG ad (1) (X), mxC22 cI cL cZ cX cG ad (1) (X), mxC23 cI cL cZ cX cG ad (1) (X), mxC24 cI cL cZ cX cG ad (1) (X)]) (fun vv_ ww_ => ∃ (v : Int), ∃ (U2 : Nat → Bool), ∃ (k2 : Int), ∃ (yy2 : Int), ∃ (G2 : Nat → Nat → Int), ∃ (h2 : Nat → Int), ∃ (cl2 : Nat → Int), ∃ (on2 : Int), ∃ (tw2 : Int), ∃ (M2 : Nat → Nat → Int), ∃ (n2 : Nat → Int), ∃ (na2 : Int), ∃ (dt2 : Int), ∃ (sg2 : Nat → Int), ∃ (ac2 : Nat → Int), ∃ (ba2 : Nat → Int), ∃ (sl2 : Nat → Int), ((((0 ≤ bar ∧ bar ≤ 50000) ∧ (¬ detM (gmA X K n) m = 0)) ∧ ∃ p, p < 3 ^ m ∧ RightM (gmA X K n) (rhA X Y K n) m p bar ∧ v = tellZ (ctM (gmA X K n) (rhA X Y K n) m p (yyF Y K n) bar m) (4 * dtM (gmA X K n) p m) wh) ∨ (¬ ((0 ≤ bar ∧ bar ≤ 50000) ∧ (¬ detM (gmA X K n) m = 0)) ∧ v = -1)) ∧ vv_ = some (lV (v)) ∧ ww_ = [mdoC0 cI cL cZ ad (0) (((m : Nat) : Int)) (((n : Nat) : Int)) (yy2) (k2) (dn) (on2) (tw2) (bt) (bl) (bd) (na2) (dt2) (tl) (ul) (th) (uh) (hd) (cn), i24C0 cI cL cZ ad (26) (Y), z24C0 cI cL cZ ad (27) (K), z24C0 cI cL cZ ad (28) (U2), mgC0 cI cL cZ cX cG ad (29) (G2), mgC1 cI cL cZ cX cG ad (29) (G2), mgC2 cI cL cZ cX cG ad (29) (G2), mgC3 cI cL cZ cX cG ad (29) (G2), i3C0 cI cL cZ ad (34) (cl2), mgC0 cI cL cZ cX cG ad (35) (M2), mgC1 cI cL cZ cX cG ad (35) (M2), mgC2 cI cL cZ cX cG ad (35) (M2), mgC3 cI cL cZ cX cG ad (35) (M2), l3C0 cI cL cZ ad (41) (n2), l3C0 cI cL cZ ad (33) (h2), i3C0 cI cL cZ ad (46) (sg2), i3C0 cI cL cZ ad (47) (ac2), l3C0 cI cL cZ ad (48) (ba2), l3C0 cI cL cZ ad (49) (sl2), mxC0 cI cL cZ cX cG ad (1) (X), mxC1 cI cL cZ cX cG ad (1) (X), mxC2 cI cL cZ cX cG ad (1) (X), mxC3 cI cL cZ cX cG ad (1) (X), mxC4 cI cL cZ cX cG ad (1) (X), mxC5 cI cL cZ cX cG ad (1) (X), mxC6 cI cL cZ cX cG ad (1) (X), mxC7 cI cL cZ cX cG ad (1) (X), mxC8 cI cL cZ cX cG ad (1) (X), mxC9 cI cL cZ cX cG ad (1) (X), mxC10 cI cL cZ cX cG ad (1) (X), mxC11 cI cL cZ cX cG ad (1) (X), mxC12 cI cL cZ cX cG ad (1) (X), mxC13 cI cL cZ cX cG ad (1) (X), mxC14 cI cL cZ cX cG ad (1) (X), mxC15 cI cL cZ cX cG ad (1) (X), mxC16 cI cL cZ cX cG ad (1) (X), mxC17 cI cL cZ cX cG ad (1) (X), mxC18 cI cL cZ cX cG ad (1) (X), mxC19 cI cL cZ cX cG ad (1) (X), mxC20 cI cL cZ cX cG ad (1) (X), mxC21 cI cL cZ cX cG ad (1) (X), mxC22 cI cL cZ cX cG ad (1) (X), mxC23 cI cL cZ cX cG ad (1) (X), mxC24 cI cL cZ cX cG ad (1) (X)]) := by
  refine Ct.of (by decide) (Nat.le_of_ble_eq_true rfl) (fun G hG => ?_)
  show G 0 [(0, .ref (ad (0))), (1, iV (bar)), (2, iV (wh))] [] ([mdoC0 cI cL cZ ad (0) (((m : Nat) : Int)) (((n : Nat) : Int)) (yy) (k) (dn) (on) (tw) (bt) (bl) (bd) (na) (dt) (tl) (ul) (th) (uh) (hd) (cn), i24C0 cI cL cZ ad (26) (Y), z24C0 cI cL cZ ad (27) (K), z24C0 cI cL cZ ad (28) (U), mgC0 cI cL cZ cX cG ad (29) (Gm), mgC1 cI cL cZ cX cG ad (29) (Gm), mgC2 cI cL cZ cX cG ad (29) (Gm), mgC3 cI cL cZ cX cG ad (29) (Gm), i3C0 cI cL cZ ad (34) (cl), mgC0 cI cL cZ cX cG ad (35) (Mm), mgC1 cI cL cZ cX cG ad (35) (Mm), mgC2 cI cL cZ cX cG ad (35) (Mm), mgC3 cI cL cZ cX cG ad (35) (Mm), l3C0 cI cL cZ ad (41) (nr), l3C0 cI cL cZ ad (33) (hh), i3C0 cI cL cZ ad (46) (sg), i3C0 cI cL cZ ad (47) (ac), l3C0 cI cL cZ ad (48) (ba), l3C0 cI cL cZ ad (49) (sl), mxC0 cI cL cZ cX cG ad (1) (X), mxC1 cI cL cZ cX cG ad (1) (X), mxC2 cI cL cZ cX cG ad (1) (X), mxC3 cI cL cZ cX cG ad (1) (X), mxC4 cI cL cZ cX cG ad (1) (X), mxC5 cI cL cZ cX cG ad (1) (X), mxC6 cI cL cZ cX cG ad (1) (X), mxC7 cI cL cZ cX cG ad (1) (X), mxC8 cI cL cZ cX cG ad (1) (X), mxC9 cI cL cZ cX cG ad (1) (X), mxC10 cI cL cZ cX cG ad (1) (X), mxC11 cI cL cZ cX cG ad (1) (X), mxC12 cI cL cZ cX cG ad (1) (X), mxC13 cI cL cZ cX cG ad (1) (X), mxC14 cI cL cZ cX cG ad (1) (X), mxC15 cI cL cZ cX cG ad (1) (X), mxC16 cI cL cZ cX cG ad (1) (X), mxC17 cI cL cZ cX cG ad (1) (X), mxC18 cI cL cZ cX cG ad (1) (X), mxC19 cI cL cZ cX cG ad (1) (X), mxC20 cI cL cZ cX cG ad (1) (X), mxC21 cI cL cZ cX cG ad (1) (X), mxC22 cI cL cZ cX cG ad (1) (X), mxC23 cI cL cZ cX cG ad (1) (X), mxC24 cI cL cZ cX cG ad (1) (X)])
  refine g_iload_n (pc := 0) hG 1 rfl dX11_cost_0 ?_
  refine g_if_lt (pc := 1) hG (by omega) (tgt := 17) (by decide) dX11_cost_1 (fun h1 => ?_) (fun h1 => ?_)
  · refine g_ldc2 (z := -1) (pc := 17) hG (v := -1) (inB wd_935 rfl) (by decide) dX11_cost_17 ?_
    exact g_lreturn (pc := 20) hG ⟨-1, U, k, yy, Gm, hh, cl, on, tw, Mm, nr, na, dt, sg, ac, ba, sl, Or.inr ⟨by first | (intro q; exact absurd q.2 (of_decide_eq_false h14)) | (intro q; omega), rfl⟩, rfl, rfl⟩ dX11_cost_20
  · refine g_iload_n (pc := 4) hG 1 rfl dX11_cost_4 ?_
    refine g_ldc (z := 50000) (pc := 5) hG (v := 50000) (inB wd_1044 rfl) (by decide) dX11_cost_5 ?_
    refine g_icmp_gt (pc := 7) hG (by omega) (by omega) (tgt := 17) (by decide) dX11_cost_7 (fun h7 => ?_) (fun h7 => ?_)
    · refine g_ldc2 (z := -1) (pc := 17) hG (v := -1) (inB wd_935 rfl) (by decide) dX11_cost_17 ?_
      exact g_lreturn (pc := 20) hG ⟨-1, U, k, yy, Gm, hh, cl, on, tw, Mm, nr, na, dt, sg, ac, ba, sl, Or.inr ⟨by first | (intro q; exact absurd q.2 (of_decide_eq_false h14)) | (intro q; omega), rfl⟩, rfl, rfl⟩ dX11_cost_20
    · refine g_aload_n (pc := 10) hG 0 rfl dX11_cost_10 ?_
      refine g_callV (pc := 11) hG (As := []) (rest := []) (c_X11_isWhole (l := l) (D := D) (cI := cI) (cL := cL) (cZ := cZ) (cX := cX) (cG := cG) ad m n yy k dn on tw bt bl bd na dt tl ul th uh hd cn X Y K U Gm hh cl Mm nr (hm.2) (hB)) (Sp.mg [true, true, true, true, true, true, true, true, true, true, true, true, true, true, true, false, false, false, false, true, true, true, true, true, true, true, true, true, true, true, true, true, true, true, true, true, true, true, true, true, true, true, true, true] rfl) cv11_214 ⟨rfl, rfl⟩ ⟨Nat.le_of_ble_eq_true rfl, Nat.le_of_ble_eq_true rfl⟩ 0 rfl rfl rfl rfl (Nat.le_of_ble_eq_true rfl) dX11_cost_11 (fun v w1 h => ?_)
      obtain ⟨U2_11, k2_11, yy2_11, G2_11, h2_11, cl2_11, on2_11, tw2_11, M2_11, n2_11, hall_11, rfl, rfl⟩ := h
      show G 14 [(0, .ref (ad (0))), (1, iV (bar)), (2, iV (wh))] [bV (decide (¬ detM (gmA X K n) m = 0))] ([mdoC0 cI cL cZ ad (0) (((m : Nat) : Int)) (((n : Nat) : Int)) (yy2_11) (((k2_11 : Nat) : Int)) (dn) (on2_11) (tw2_11) (bt) (bl) (bd) (na) (dt) (tl) (ul) (th) (uh) (hd) (cn), i24C0 cI cL cZ ad (26) (Y), z24C0 cI cL cZ ad (27) (K), z24C0 cI cL cZ ad (28) (U2_11), mgC0 cI cL cZ cX cG ad (29) (G2_11), mgC1 cI cL cZ cX cG ad (29) (G2_11), mgC2 cI cL cZ cX cG ad (29) (G2_11), mgC3 cI cL cZ cX cG ad (29) (G2_11), i3C0 cI cL cZ ad (34) (cl2_11), mgC0 cI cL cZ cX cG ad (35) (M2_11), mgC1 cI cL cZ cX cG ad (35) (M2_11), mgC2 cI cL cZ cX cG ad (35) (M2_11), mgC3 cI cL cZ cX cG ad (35) (M2_11), l3C0 cI cL cZ ad (41) (n2_11), l3C0 cI cL cZ ad (33) (h2_11), i3C0 cI cL cZ ad (46) (sg), i3C0 cI cL cZ ad (47) (ac), l3C0 cI cL cZ ad (48) (ba), l3C0 cI cL cZ ad (49) (sl), mxC0 cI cL cZ cX cG ad (1) (X), mxC1 cI cL cZ cX cG ad (1) (X), mxC2 cI cL cZ cX cG ad (1) (X), mxC3 cI cL cZ cX cG ad (1) (X), mxC4 cI cL cZ cX cG ad (1) (X), mxC5 cI cL cZ cX cG ad (1) (X), mxC6 cI cL cZ cX cG ad (1) (X), mxC7 cI cL cZ cX cG ad (1) (X), mxC8 cI cL cZ cX cG ad (1) (X), mxC9 cI cL cZ cX cG ad (1) (X), mxC10 cI cL cZ cX cG ad (1) (X), mxC11 cI cL cZ cX cG ad (1) (X), mxC12 cI cL cZ cX cG ad (1) (X), mxC13 cI cL cZ cX cG ad (1) (X), mxC14 cI cL cZ cX cG ad (1) (X), mxC15 cI cL cZ cX cG ad (1) (X), mxC16 cI cL cZ cX cG ad (1) (X), mxC17 cI cL cZ cX cG ad (1) (X), mxC18 cI cL cZ cX cG ad (1) (X), mxC19 cI cL cZ cX cG ad (1) (X), mxC20 cI cL cZ cX cG ad (1) (X), mxC21 cI cL cZ cX cG ad (1) (X), mxC22 cI cL cZ cX cG ad (1) (X), mxC23 cI cL cZ cX cG ad (1) (X), mxC24 cI cL cZ cX cG ad (1) (X)])
      refine g_ifb_ne (pc := 14) hG (tgt := 21) (by decide) dX11_cost_14 (fun h14 => ?_) (fun h14 => ?_)
      · have hwh := of_decide_eq_true h14
        have hgb := hall_11.gb hm.2 hB
        have hG9 := hall_11.2.2.2
        have hh9 := hall_11.2.2.1
        have hpa9 := PaB_congr hm.2 hG9 hh9 (hPa hwh)
        have hex9 : ∃ p, p < 3 ^ m ∧ RightM G2_11 h2_11 m p bar := by obtain ⟨p, h1, h2⟩ := hEx hwh bar (by omega) (by omega); have h3 := pow3_le hm.2; exact ⟨p, h1, (RightM_congr (by omega) hm.2 hG9 hh9 bar).mpr h2⟩
        refine g_aload_n (pc := 21) hG 0 rfl dX11_cost_21 ?_
        refine g_iload_n (pc := 22) hG 1 rfl dX11_cost_22 ?_
        refine g_i2l (pc := 23) hG (by omega) dX11_cost_23 ?_
        refine g_callV (pc := 24) hG (As := [lV (bar)]) (rest := []) (c_X11_findPattern (l := l) (D := D) (cI := cI) (cL := cL) (cZ := cZ) (cX := cX) (cG := cG) ad m n yy2_11 (((k2_11 : Nat) : Int)) dn on2_11 tw2_11 bt bl bd na dt tl ul th uh hd cn G2_11 M2_11 h2_11 sg ac ba sl bar (hm) (hgb.1) (hgb.2.1) (hpa9) (hex9) (by omega)) (Sp.mg [true, false, false, false, true, true, true, true, false, true, true, true, true, false, true, true, true, true, true] rfl) cv11_245 ⟨rfl, rfl⟩ ⟨Nat.le_of_ble_eq_true rfl, Nat.le_of_ble_eq_true rfl⟩ 0 rfl rfl rfl rfl (Nat.le_of_ble_eq_true rfl) dX11_cost_24 (fun v w1 h => ?_)
        obtain ⟨v_24, p2_24, M2_24, sg2_24, ac2_24, ba2_24, sl2_24, hr_24, hpt_24, rfl, rfl⟩ := h
        show G 27 [(0, .ref (ad (0))), (1, iV (bar)), (2, iV (wh))] [bV (v_24)] ([mdoC0 cI cL cZ ad (0) (((m : Nat) : Int)) (((n : Nat) : Int)) (yy2_11) (((k2_11 : Nat) : Int)) (dn) (on2_11) (tw2_11) (bt) (bl) (bd) (((naM p2_24 m : Nat) : Int)) (dtM G2_11 p2_24 m) (tl) (ul) (th) (uh) (hd) (cn), i24C0 cI cL cZ ad (26) (Y), z24C0 cI cL cZ ad (27) (K), z24C0 cI cL cZ ad (28) (U2_11), mgC0 cI cL cZ cX cG ad (29) (G2_11), mgC1 cI cL cZ cX cG ad (29) (G2_11), mgC2 cI cL cZ cX cG ad (29) (G2_11), mgC3 cI cL cZ cX cG ad (29) (G2_11), i3C0 cI cL cZ ad (34) (cl2_11), mgC0 cI cL cZ cX cG ad (35) (M2_24), mgC1 cI cL cZ cX cG ad (35) (M2_24), mgC2 cI cL cZ cX cG ad (35) (M2_24), mgC3 cI cL cZ cX cG ad (35) (M2_24), l3C0 cI cL cZ ad (41) (n2_11), l3C0 cI cL cZ ad (33) (h2_11), i3C0 cI cL cZ ad (46) (sg2_24), i3C0 cI cL cZ ad (47) (ac2_24), l3C0 cI cL cZ ad (48) (ba2_24), l3C0 cI cL cZ ad (49) (sl2_24), mxC0 cI cL cZ cX cG ad (1) (X), mxC1 cI cL cZ cX cG ad (1) (X), mxC2 cI cL cZ cX cG ad (1) (X), mxC3 cI cL cZ cX cG ad (1) (X), mxC4 cI cL cZ cX cG ad (1) (X), mxC5 cI cL cZ cX cG ad (1) (X), mxC6 cI cL cZ cX cG ad (1) (X), mxC7 cI cL cZ cX cG ad (1) (X), mxC8 cI cL cZ cX cG ad (1) (X), mxC9 cI cL cZ cX cG ad (1) (X), mxC10 cI cL cZ cX cG ad (1) (X), mxC11 cI cL cZ cX cG ad (1) (X), mxC12 cI cL cZ cX cG ad (1) (X), mxC13 cI cL cZ cX cG ad (1) (X), mxC14 cI cL cZ cX cG ad (1) (X), mxC15 cI cL cZ cX cG ad (1) (X), mxC16 cI cL cZ cX cG ad (1) (X), mxC17 cI cL cZ cX cG ad (1) (X), mxC18 cI cL cZ cX cG ad (1) (X), mxC19 cI cL cZ cX cG ad (1) (X), mxC20 cI cL cZ cX cG ad (1) (X), mxC21 cI cL cZ cX cG ad (1) (X), mxC22 cI cL cZ cX cG ad (1) (X), mxC23 cI cL cZ cX cG ad (1) (X), mxC24 cI cL cZ cX cG ad (1) (X)])
        have hp3 := pow3_le hm.2
        have hp27 : p2_24 < 27 := by have := hr_24.1; omega
        have hb9 := hpa9 _ hr_24.1
        have hdp := hb9.1
        refine g_pop (pc := 27) hG rfl dX11_cost_27 ?_
        refine g_ldc2 (z := 4) (pc := 28) hG (v := 4) (inB wd_1068 rfl) (by decide) dX11_cost_28 ?_
        refine g_aload_n (pc := 31) hG 0 rfl dX11_cost_31 ?_
        refine g_get (pc := 32) hG fl11_223 0 rfl rfl dX11_cost_32 ?_
        refine g_lmul (pc := 35) hG dX11_cost_35 ?_
        refine g_aload_n (pc := 36) hG 0 rfl dX11_cost_36 ?_
        refine g_get (pc := 37) hG fl11_104 0 rfl rfl dX11_cost_37 ?_
        refine g_lmul (pc := 40) hG dX11_cost_40 ?_
        refine g_nmL (pc := 41) hG (fun x41 ex41 => ?_)
        refine g_lstore_n (pc := 41) hG (by decide) (lv' := [(3, lV (x41)), (0, .ref (ad (0))), (1, iV (bar)), (2, iV (wh))]) rfl dX11_cost_41 ?_
        refine g_iconst (pc := 42) hG dX11_cost_42 ?_
        refine g_istore (pc := 43) hG (by decide) (lv' := [(5, iV (0)), (3, lV (x41)), (0, .ref (ad (0))), (1, iV (bar)), (2, iV (wh))]) rfl dX11_cost_43 ?_
        have L45 : ∀ (fu45 : Nat) (s : Int) (c : Nat), m - c < fu45 → (c ≤ m) → (s = ctM G2_11 h2_11 m p2_24 yy2_11 bar c) → G 45 [(0, .ref (ad (0))), (1, iV (bar)), (2, iV (wh)), (3, lV (s)), (5, iV (((c : Nat) : Int)))] [] ([mdoC0 cI cL cZ ad (0) (((m : Nat) : Int)) (((n : Nat) : Int)) (yy2_11) (((k2_11 : Nat) : Int)) (dn) (on2_11) (tw2_11) (bt) (bl) (bd) (((naM p2_24 m : Nat) : Int)) (dtM G2_11 p2_24 m) (tl) (ul) (th) (uh) (hd) (cn), i24C0 cI cL cZ ad (26) (Y), z24C0 cI cL cZ ad (27) (K), z24C0 cI cL cZ ad (28) (U2_11), mgC0 cI cL cZ cX cG ad (29) (G2_11), mgC1 cI cL cZ cX cG ad (29) (G2_11), mgC2 cI cL cZ cX cG ad (29) (G2_11), mgC3 cI cL cZ cX cG ad (29) (G2_11), i3C0 cI cL cZ ad (34) (cl2_11), mgC0 cI cL cZ cX cG ad (35) (M2_24), mgC1 cI cL cZ cX cG ad (35) (M2_24), mgC2 cI cL cZ cX cG ad (35) (M2_24), mgC3 cI cL cZ cX cG ad (35) (M2_24), l3C0 cI cL cZ ad (41) (n2_11), l3C0 cI cL cZ ad (33) (h2_11), i3C0 cI cL cZ ad (46) (sg2_24), i3C0 cI cL cZ ad (47) (ac2_24), l3C0 cI cL cZ ad (48) (ba2_24), l3C0 cI cL cZ ad (49) (sl2_24), mxC0 cI cL cZ cX cG ad (1) (X), mxC1 cI cL cZ cX cG ad (1) (X), mxC2 cI cL cZ cX cG ad (1) (X), mxC3 cI cL cZ cX cG ad (1) (X), mxC4 cI cL cZ cX cG ad (1) (X), mxC5 cI cL cZ cX cG ad (1) (X), mxC6 cI cL cZ cX cG ad (1) (X), mxC7 cI cL cZ cX cG ad (1) (X), mxC8 cI cL cZ cX cG ad (1) (X), mxC9 cI cL cZ cX cG ad (1) (X), mxC10 cI cL cZ cX cG ad (1) (X), mxC11 cI cL cZ cX cG ad (1) (X), mxC12 cI cL cZ cX cG ad (1) (X), mxC13 cI cL cZ cX cG ad (1) (X), mxC14 cI cL cZ cX cG ad (1) (X), mxC15 cI cL cZ cX cG ad (1) (X), mxC16 cI cL cZ cX cG ad (1) (X), mxC17 cI cL cZ cX cG ad (1) (X), mxC18 cI cL cZ cX cG ad (1) (X), mxC19 cI cL cZ cX cG ad (1) (X), mxC20 cI cL cZ cX cG ad (1) (X), mxC21 cI cL cZ cX cG ad (1) (X), mxC22 cI cL cZ cX cG ad (1) (X), mxC23 cI cL cZ cX cG ad (1) (X), mxC24 cI cL cZ cX cG ad (1) (X)]) := by
          intro fu45
          induction fu45 with
          | zero => intro s c hm; exact absurd hm (Nat.not_lt_zero _)
          | succ fu45 ih45 =>
            intro s c hm45 hcm hs
            refine g_iload (pc := 45) hG 4 rfl dX11_cost_45 ?_
            refine g_aload_n (pc := 47) hG 0 rfl dX11_cost_47 ?_
            refine g_get (pc := 48) hG fl11_7 0 rfl rfl dX11_cost_48 ?_
            refine g_icmp_ge (pc := 51) hG (by omega) (by omega) (tgt := 116) (by decide) dX11_cost_51 (fun h51 => ?_) (fun h51 => ?_)
            · have hctb := ctM_b hb9 hgb.2.1 hgb.2.2 (show 0 ≤ bar ∧ bar ≤ 50000 by omega) c hcm
              rw [← hs] at hctb
              refine g_lload_n (pc := 116) hG 3 rfl dX11_cost_116 ?_
              refine g_ldc2 (z := 4) (pc := 117) hG (v := 4) (inB wd_1068 rfl) (by decide) dX11_cost_117 ?_
              refine g_aload_n (pc := 120) hG 0 rfl dX11_cost_120 ?_
              refine g_get (pc := 121) hG fl11_223 0 rfl rfl dX11_cost_121 ?_
              refine g_lmul (pc := 124) hG dX11_cost_124 ?_
              refine g_iload_n (pc := 125) hG 2 rfl dX11_cost_125 ?_
              refine g_callP (pc := 126) hG (As := [lV (s), lV (4 * (dtM G2_11 p2_24 m)), iV (wh)]) (rest := []) (c_X11_told (l := l) (D := D) (cI := cI) (cL := cL) (cZ := cZ) (cX := cX) (cG := cG) s (4 * (dtM G2_11 p2_24 m)) wh (by omega) (by omega) (hw) (by omega)) cs11_163 ⟨rfl, rfl⟩ ⟨Nat.le_of_ble_eq_true rfl, Nat.le_of_ble_eq_true rfl⟩ rfl rfl (Nat.le_of_ble_eq_true rfl) dX11_cost_126 (fun v h => ?_)
              obtain ⟨rfl, -⟩ := h
              show G 129 [(0, .ref (ad (0))), (1, iV (bar)), (2, iV (wh)), (3, lV (s)), (5, iV (((c : Nat) : Int)))] [lV (tellZ s (4 * (dtM G2_11 p2_24 m)) wh)] ([mdoC0 cI cL cZ ad (0) (((m : Nat) : Int)) (((n : Nat) : Int)) (yy2_11) (((k2_11 : Nat) : Int)) (dn) (on2_11) (tw2_11) (bt) (bl) (bd) (((naM p2_24 m : Nat) : Int)) (dtM G2_11 p2_24 m) (tl) (ul) (th) (uh) (hd) (cn), i24C0 cI cL cZ ad (26) (Y), z24C0 cI cL cZ ad (27) (K), z24C0 cI cL cZ ad (28) (U2_11), mgC0 cI cL cZ cX cG ad (29) (G2_11), mgC1 cI cL cZ cX cG ad (29) (G2_11), mgC2 cI cL cZ cX cG ad (29) (G2_11), mgC3 cI cL cZ cX cG ad (29) (G2_11), i3C0 cI cL cZ ad (34) (cl2_11), mgC0 cI cL cZ cX cG ad (35) (M2_24), mgC1 cI cL cZ cX cG ad (35) (M2_24), mgC2 cI cL cZ cX cG ad (35) (M2_24), mgC3 cI cL cZ cX cG ad (35) (M2_24), l3C0 cI cL cZ ad (41) (n2_11), l3C0 cI cL cZ ad (33) (h2_11), i3C0 cI cL cZ ad (46) (sg2_24), i3C0 cI cL cZ ad (47) (ac2_24), l3C0 cI cL cZ ad (48) (ba2_24), l3C0 cI cL cZ ad (49) (sl2_24), mxC0 cI cL cZ cX cG ad (1) (X), mxC1 cI cL cZ cX cG ad (1) (X), mxC2 cI cL cZ cX cG ad (1) (X), mxC3 cI cL cZ cX cG ad (1) (X), mxC4 cI cL cZ cX cG ad (1) (X), mxC5 cI cL cZ cX cG ad (1) (X), mxC6 cI cL cZ cX cG ad (1) (X), mxC7 cI cL cZ cX cG ad (1) (X), mxC8 cI cL cZ cX cG ad (1) (X), mxC9 cI cL cZ cX cG ad (1) (X), mxC10 cI cL cZ cX cG ad (1) (X), mxC11 cI cL cZ cX cG ad (1) (X), mxC12 cI cL cZ cX cG ad (1) (X), mxC13 cI cL cZ cX cG ad (1) (X), mxC14 cI cL cZ cX cG ad (1) (X), mxC15 cI cL cZ cX cG ad (1) (X), mxC16 cI cL cZ cX cG ad (1) (X), mxC17 cI cL cZ cX cG ad (1) (X), mxC18 cI cL cZ cX cG ad (1) (X), mxC19 cI cL cZ cX cG ad (1) (X), mxC20 cI cL cZ cX cG ad (1) (X), mxC21 cI cL cZ cX cG ad (1) (X), mxC22 cI cL cZ cX cG ad (1) (X), mxC23 cI cL cZ cX cG ad (1) (X), mxC24 cI cL cZ cX cG ad (1) (X)])
              exact g_lreturn (pc := 129) hG ⟨tellZ s (4 * (dtM G2_11 p2_24 m)) wh, U2_11, ((k2_11 : Nat) : Int), yy2_11, G2_11, h2_11, cl2_11, on2_11, tw2_11, M2_24, n2_11, ((naM p2_24 m : Nat) : Int), dtM G2_11 p2_24 m, sg2_24, ac2_24, ba2_24, sl2_24, Or.inl ⟨⟨by omega, hwh⟩, p2_24, hr_24.1, (RightM_congr hp27 hm.2 hG9 hh9 bar).mp hr_24.2, by rw [hs, show c = m by omega, ctM_congr hp27 hm.2 hG9 hh9 m (Nat.le_refl _), hall_11.2.1, dtM_congr hp27 hm.2 hG9]⟩, rfl, rfl⟩ dX11_cost_129
            · refine g_aload_n (pc := 54) hG 0 rfl dX11_cost_54 ?_
              refine g_get (pc := 55) hG fl11_71 0 rfl rfl dX11_cost_55 ?_
              refine g_iload (pc := 58) hG 4 rfl dX11_cost_58 ?_
              refine g_laload (pc := 60) hG 17 c rfl rfl (by omega) (by omega) (by decide) dX11_cost_60 ?_
              refine g_iload_n (pc := 61) hG 1 rfl dX11_cost_61 ?_
              refine g_i2l (pc := 62) hG (by omega) dX11_cost_62 ?_
              refine g_aload_n (pc := 63) hG 0 rfl dX11_cost_63 ?_
              refine g_get (pc := 64) hG fl11_74 0 rfl rfl dX11_cost_64 ?_
              refine g_iload (pc := 67) hG 4 rfl dX11_cost_67 ?_
              refine g_laload (pc := 69) hG 18 c rfl rfl (by omega) (by omega) (by decide) dX11_cost_69 ?_
              refine g_lmul (pc := 70) hG dX11_cost_70 ?_
              refine g_ladd (pc := 71) hG dX11_cost_71 ?_
              have hbc := hb9.2 c (by omega)
              have hba := hpt_24.2.2.2.2.1 c (by omega)
              have hsl := hpt_24.2.2.2.2.2 c (by omega)
              have hms := mul_bd (a := bar) (A := 50000) (by omega) hbc.2
              rw [← hsl] at hms hbc
              rw [← hba] at hbc
              refine g_nmL (pc := 72) hG (fun x72 ex72 => ?_)
              refine g_lstore (pc := 72) hG (by decide) (lv' := [(6, lV (x72)), (0, .ref (ad (0))), (1, iV (bar)), (2, iV (wh)), (3, lV (s)), (5, iV (((c : Nat) : Int)))]) rfl dX11_cost_72 ?_
              refine g_lload_n (pc := 74) hG 4 rfl dX11_cost_74 ?_
              refine g_ldc2 (z := -2) (pc := 75) hG (v := -2) (inB wd_1069 rfl) (by decide) dX11_cost_75 ?_
              refine g_aload_n (pc := 78) hG 1 rfl dX11_cost_78 ?_
              refine g_get (pc := 79) hG fl11_34 0 rfl rfl dX11_cost_79 ?_
              refine g_iload (pc := 82) hG 5 rfl dX11_cost_82 ?_
              refine g_laload (pc := 84) hG 14 c rfl rfl (by omega) (by omega) (by decide) dX11_cost_84 ?_
              refine g_lmul (pc := 85) hG dX11_cost_85 ?_
              refine g_lload (pc := 86) hG 0 rfl dX11_cost_86 ?_
              refine g_lmul (pc := 88) hG dX11_cost_88 ?_
              refine g_iload_n (pc := 89) hG 2 rfl dX11_cost_89 ?_
              refine g_i2l (pc := 90) hG (by omega) dX11_cost_90 ?_
              refine g_lload (pc := 91) hG 0 rfl dX11_cost_91 ?_
              refine g_lconst (z := 0) (pc := 93) hG dX11_cost_93 (by decide) ?_
              have J106 : ∀ (j106s0 : Int), (((0 ≤ x72) ∧ j106s0 = x72) ∨ ((¬ 0 ≤ x72) ∧ j106s0 = -x72)) → G 106 [(0, .ref (ad (0))), (1, iV (bar)), (2, iV (wh)), (3, lV (s)), (5, iV (((c : Nat) : Int))), (6, lV (x72))] [lV (j106s0), lV (bar), lV (((-2) * (h2_11 c)) * x72), lV (s)] ([mdoC0 cI cL cZ ad (0) (((m : Nat) : Int)) (((n : Nat) : Int)) (yy2_11) (((k2_11 : Nat) : Int)) (dn) (on2_11) (tw2_11) (bt) (bl) (bd) (((naM p2_24 m : Nat) : Int)) (dtM G2_11 p2_24 m) (tl) (ul) (th) (uh) (hd) (cn), i24C0 cI cL cZ ad (26) (Y), z24C0 cI cL cZ ad (27) (K), z24C0 cI cL cZ ad (28) (U2_11), mgC0 cI cL cZ cX cG ad (29) (G2_11), mgC1 cI cL cZ cX cG ad (29) (G2_11), mgC2 cI cL cZ cX cG ad (29) (G2_11), mgC3 cI cL cZ cX cG ad (29) (G2_11), i3C0 cI cL cZ ad (34) (cl2_11), mgC0 cI cL cZ cX cG ad (35) (M2_24), mgC1 cI cL cZ cX cG ad (35) (M2_24), mgC2 cI cL cZ cX cG ad (35) (M2_24), mgC3 cI cL cZ cX cG ad (35) (M2_24), l3C0 cI cL cZ ad (41) (n2_11), l3C0 cI cL cZ ad (33) (h2_11), i3C0 cI cL cZ ad (46) (sg2_24), i3C0 cI cL cZ ad (47) (ac2_24), l3C0 cI cL cZ ad (48) (ba2_24), l3C0 cI cL cZ ad (49) (sl2_24), mxC0 cI cL cZ cX cG ad (1) (X), mxC1 cI cL cZ cX cG ad (1) (X), mxC2 cI cL cZ cX cG ad (1) (X), mxC3 cI cL cZ cX cG ad (1) (X), mxC4 cI cL cZ cX cG ad (1) (X), mxC5 cI cL cZ cX cG ad (1) (X), mxC6 cI cL cZ cX cG ad (1) (X), mxC7 cI cL cZ cX cG ad (1) (X), mxC8 cI cL cZ cX cG ad (1) (X), mxC9 cI cL cZ cX cG ad (1) (X), mxC10 cI cL cZ cX cG ad (1) (X), mxC11 cI cL cZ cX cG ad (1) (X), mxC12 cI cL cZ cX cG ad (1) (X), mxC13 cI cL cZ cX cG ad (1) (X), mxC14 cI cL cZ cX cG ad (1) (X), mxC15 cI cL cZ cX cG ad (1) (X), mxC16 cI cL cZ cX cG ad (1) (X), mxC17 cI cL cZ cX cG ad (1) (X), mxC18 cI cL cZ cX cG ad (1) (X), mxC19 cI cL cZ cX cG ad (1) (X), mxC20 cI cL cZ cX cG ad (1) (X), mxC21 cI cL cZ cX cG ad (1) (X), mxC22 cI cL cZ cX cG ad (1) (X), mxC23 cI cL cZ cX cG ad (1) (X), mxC24 cI cL cZ cX cG ad (1) (X)]) := by
                intro j106s0 k106
                refine g_lmul (pc := 106) hG dX11_cost_106 ?_
                refine g_ladd (pc := 107) hG dX11_cost_107 ?_
                refine g_ladd (pc := 108) hG dX11_cost_108 ?_
                refine g_nmL (pc := 109) hG (fun x109 ex109 => ?_)
                refine g_lstore_n (pc := 109) hG (by decide) (lv' := [(3, lV (x109)), (0, .ref (ad (0))), (1, iV (bar)), (2, iV (wh)), (5, iV (((c : Nat) : Int))), (6, lV (x72))]) rfl dX11_cost_109 ?_
                refine g_iinc (pc := 110) hG 4 rfl (by decide) (lv' := [(5, iV ((((c : Nat) : Int)) + 1)), (3, lV (x109)), (0, .ref (ad (0))), (1, iV (bar)), (2, iV (wh)), (6, lV (x72))]) rfl dX11_cost_110 ?_
                refine g_goto (pc := 113) hG (tgt := 45) (by decide) dX11_cost_113 ?_
                exact g_lv (pc := 45) hG [2, 3, 4, 1, 0] rfl (ih45 x109 (c + 1) (by omega) (by omega) (by rw [ex109, hs]; show _ = _ + (_ + _); rw [← hba, ← hsl, ← ex72]; rcases k106 with h | h <;> rw [h.2] <;> congr 3 <;> omega))
              refine g_lc_ge (pc := 94) hG (by omega) (by omega) (tgt := 104) (by decide) dX11_cost_94 dX11_cost_95 (fun h94 => ?_) (fun h94 => ?_)
              · refine g_lload (pc := 104) hG 0 rfl dX11_cost_104 ?_
                exact g_lv (pc := 106) hG [1, 2, 3, 4, 5, 0] rfl (J106 x72 (Or.inl ⟨h94, rfl⟩))
              · refine g_lload (pc := 98) hG 0 rfl dX11_cost_98 ?_
                refine g_lneg (pc := 100) hG dX11_cost_100 ?_
                refine g_goto (pc := 101) hG (tgt := 106) (by decide) dX11_cost_101 ?_
                exact g_lv (pc := 106) hG [1, 2, 3, 4, 5, 0] rfl (J106 (-x72) (Or.inr (⟨h94, rfl⟩)))
        exact g_lv (pc := 45) hG [2, 3, 4, 1, 0] rfl (L45 _ x41 0 (Nat.lt_succ_self _) (Nat.zero_le _) (by rw [ex41]; rfl))
      · refine g_ldc2 (z := -1) (pc := 17) hG (v := -1) (inB wd_935 rfl) (by decide) dX11_cost_17 ?_
        exact g_lreturn (pc := 20) hG ⟨-1, U2_11, ((k2_11 : Nat) : Int), yy2_11, G2_11, h2_11, cl2_11, on2_11, tw2_11, M2_11, n2_11, na, dt, sg, ac, ba, sl, Or.inr ⟨by first | (intro q; exact absurd q.2 (of_decide_eq_false h14)) | (intro q; omega), rfl⟩, rfl, rfl⟩ dX11_cost_20
set_option maxHeartbeats 4000000 in
set_option maxRecDepth 100000 in
theorem c_X11_bound {l : Launch} {D : va_G} {cI cL cZ cX cG : ClassId} (ad : Nat → Nat) (m : Nat) (n : Nat) (yy : Int) (k : Int) (dn : Int) (on : Int) (tw : Int) (bt : Int) (bl : Int) (bd : Int) (na : Int) (dt : Int) (tl : Int) (ul : Int) (th : Int) (uh : Int) (hd : Bool) (cn : Int) (a : Int) (b : Int) (sr : Bool) (ha : B63 a) (hb : B63 b) (hs : RgB (hd, tl, ul, th, uh)) : Ct l D (gT cI cL cZ cX cG) yX11_bound cX11_bound 12 none ({ frames := 2, cells := 0, slots := 0, locals := 67 }) [.ref (ad (0)), lV (a), lV (b), bV (sr)] ([mdoC0 cI cL cZ ad (0) (((m : Nat) : Int)) (((n : Nat) : Int)) (yy) (k) (dn) (on) (tw) (bt) (bl) (bd) (na) (dt) (tl) (ul) (th) (uh) (hd) (cn)]) (fun vv_ ww_ => ∃ (hd2 : Bool), ∃ (tl2 : Int), ∃ (ul2 : Int), ∃ (th2 : Int), ∃ (uh2 : Int), ((hd2, tl2, ul2, th2, uh2) = bdF a b sr (hd, tl, ul, th, uh)) ∧ vv_ = none ∧ ww_ = [mdoC0 cI cL cZ ad (0) (((m : Nat) : Int)) (((n : Nat) : Int)) (yy) (k) (dn) (on) (tw) (bt) (bl) (bd) (na) (dt) (tl2) (ul2) (th2) (uh2) (hd2) (cn)]) := by
  refine Ct.of (by decide) (Nat.le_of_ble_eq_true rfl) (fun G hG => ?_)
  show G 0 [(0, .ref (ad (0))), (1, lV (a)), (3, lV (b)), (5, bV (sr))] [] ([mdoC0 cI cL cZ ad (0) (((m : Nat) : Int)) (((n : Nat) : Int)) (yy) (k) (dn) (on) (tw) (bt) (bl) (bd) (na) (dt) (tl) (ul) (th) (uh) (hd) (cn)])
  have ha2 := ha
  have hb2 := hb
  unfold B63 at ha2 hb2
  obtain ⟨hs1, hs2, hs3, hs4⟩ := id hs
  unfold B63 at hs1 hs3
  simp only at hs1 hs2 hs3 hs4
  refine g_lload_n (pc := 0) hG 2 rfl dX11_bound_0 ?_
  refine g_lconst (z := 0) (pc := 1) hG dX11_bound_1 (by decide) ?_
  refine g_lc_ne (pc := 2) hG (by omega) (by omega) (tgt := 43) (by decide) dX11_bound_2 dX11_bound_3 (fun h2 => ?_) (fun h2 => ?_)
  · have hff := bd_f h2 ha hb
    have hgb := gcd_b a b
    have hgl := gcd_le_r (t := a) h2
    refine g_lload_n (pc := 43) hG 1 rfl dX11_bound_43 ?_
    refine g_lload_n (pc := 44) hG 2 rfl dX11_bound_44 ?_
    refine g_callP (pc := 45) hG (As := [lV (a), lV (b)]) (rest := []) (c_X11_divisor (l := l) (D := D) (cI := cI) (cL := cL) (cZ := cZ) (cX := cX) (cG := cG) a b (by omega) (by omega)) cs11_85 ⟨rfl, rfl⟩ ⟨Nat.le_of_ble_eq_true rfl, Nat.le_of_ble_eq_true rfl⟩ rfl rfl (Nat.le_of_ble_eq_true rfl) dX11_bound_45 (fun v h => ?_)
    obtain ⟨rfl, -⟩ := h
    show G 48 [(0, .ref (ad (0))), (1, lV (a)), (3, lV (b)), (5, bV (sr))] [lV (((Int.gcd a b : Nat) : Int))] ([mdoC0 cI cL cZ ad (0) (((m : Nat) : Int)) (((n : Nat) : Int)) (yy) (k) (dn) (on) (tw) (bt) (bl) (bd) (na) (dt) (tl) (ul) (th) (uh) (hd) (cn)])
    refine g_lstore (pc := 48) hG (by decide) (lv' := [(6, lV (((Int.gcd a b : Nat) : Int))), (0, .ref (ad (0))), (1, lV (a)), (3, lV (b)), (5, bV (sr))]) rfl dX11_bound_48 ?_
    refine g_lload_n (pc := 50) hG 3 rfl dX11_bound_50 ?_
    refine g_lconst (z := 0) (pc := 51) hG dX11_bound_51 (by decide) ?_
    have J68 : ∀ (j68s0 : Int), (((b ≤ 0) ∧ j68s0 = a.tdiv (((Int.gcd a b : Nat) : Int))) ∨ ((¬ b ≤ 0) ∧ j68s0 = (-a).tdiv (((Int.gcd a b : Nat) : Int)))) → G 68 [(0, .ref (ad (0))), (1, lV (a)), (3, lV (b)), (5, bV (sr)), (6, lV (((Int.gcd a b : Nat) : Int)))] [lV (j68s0)] ([mdoC0 cI cL cZ ad (0) (((m : Nat) : Int)) (((n : Nat) : Int)) (yy) (k) (dn) (on) (tw) (bt) (bl) (bd) (na) (dt) (tl) (ul) (th) (uh) (hd) (cn)]) := by
      intro j68s0 k68
      refine g_lstore (pc := 68) hG (by decide) (lv' := [(8, lV (j68s0)), (0, .ref (ad (0))), (1, lV (a)), (3, lV (b)), (5, bV (sr)), (6, lV (((Int.gcd a b : Nat) : Int)))]) rfl dX11_bound_68 ?_
      have hT : j68s0 = if 0 < b then (-a).tdiv ((Int.gcd a b : Nat) : Int) else a.tdiv ((Int.gcd a b : Nat) : Int) := by rcases k68 with h | h; (rw [if_neg (by omega), h.2]); (rw [if_pos (by omega), h.2])
      refine g_lload_n (pc := 70) hG 3 rfl dX11_bound_70 ?_
      refine g_lconst (z := 0) (pc := 71) hG dX11_bound_71 (by decide) ?_
      have J82 : ∀ (j82s0 : Int), (((b ≤ 0) ∧ j82s0 = -b) ∨ ((¬ b ≤ 0) ∧ j82s0 = b)) → G 82 [(0, .ref (ad (0))), (1, lV (a)), (3, lV (b)), (5, bV (sr)), (6, lV (((Int.gcd a b : Nat) : Int))), (8, lV (j68s0))] [lV (j82s0)] ([mdoC0 cI cL cZ ad (0) (((m : Nat) : Int)) (((n : Nat) : Int)) (yy) (k) (dn) (on) (tw) (bt) (bl) (bd) (na) (dt) (tl) (ul) (th) (uh) (hd) (cn)]) := by
        intro j82s0 k82
        refine g_lload (pc := 82) hG 4 rfl dX11_bound_82 ?_
        refine g_ldiv (pc := 84) hG (by omega) (by omega) (by omega) (by omega) dX11_bound_84 ?_
        refine g_nmL (pc := 85) hG (fun x85 ex85 => ?_)
        refine g_lstore (pc := 85) hG (by decide) (lv' := [(10, lV (x85)), (0, .ref (ad (0))), (1, lV (a)), (3, lV (b)), (5, bV (sr)), (6, lV (((Int.gcd a b : Nat) : Int))), (8, lV (j68s0))]) rfl dX11_bound_85 ?_
        have hL : x85 = if 0 < b then b.tdiv ((Int.gcd a b : Nat) : Int) else (-b).tdiv ((Int.gcd a b : Nat) : Int) := by rw [ex85]; rcases k82 with h | h; (rw [if_neg (by omega), h.2]); (rw [if_pos (by omega), h.2])
        have hTb : B63 j68s0 := by rw [hT]; split; exact hff.2.2.1; exact hff.2.1
        have hLb : 0 < x85 ∧ x85 ≤ 9223372036854775807 := by rw [hL]; split; exact hff.2.2.2.1 (by assumption); exact hff.2.2.2.2 (by omega)
        refine g_lload_n (pc := 87) hG 3 rfl dX11_bound_87 ?_
        refine g_lconst (z := 0) (pc := 88) hG dX11_bound_88 (by decide) ?_
        refine g_lc_le (pc := 89) hG (by omega) (by omega) (tgt := 126) (by decide) dX11_bound_89 dX11_bound_90 (fun h89 => ?_) (fun h89 => ?_)
        · refine g_aload_n (pc := 126) hG 1 rfl dX11_bound_126 ?_
          refine g_get (pc := 127) hG fl11_262 0 rfl rfl dX11_bound_127 ?_
          refine g_lconst (z := 0) (pc := 130) hG dX11_bound_130 (by decide) ?_
          refine g_lc_eq (pc := 131) hG (by omega) (by omega) (tgt := 153) (by decide) dX11_bound_131 dX11_bound_132 (fun h131 => ?_) (fun h131 => ?_)
          · refine g_aload_n (pc := 153) hG 1 rfl dX11_bound_153 ?_
            refine g_lload (pc := 154) hG 6 rfl dX11_bound_154 ?_
            refine g_put (pc := 156) hG fp11_265 0 rfl rfl rfl (Nat.le_of_ble_eq_true rfl) (ws' := [mdoC0 cI cL cZ ad (0) (((m : Nat) : Int)) (((n : Nat) : Int)) (yy) (k) (dn) (on) (tw) (bt) (bl) (bd) (na) (dt) (tl) (ul) (j68s0) (uh) (hd) (cn)]) rfl dX11_bound_156 ?_
            refine g_aload_n (pc := 159) hG 1 rfl dX11_bound_159 ?_
            refine g_lload (pc := 160) hG 0 rfl dX11_bound_160 ?_
            refine g_put (pc := 162) hG fp11_262 0 rfl rfl rfl (Nat.le_of_ble_eq_true rfl) (ws' := [mdoC0 cI cL cZ ad (0) (((m : Nat) : Int)) (((n : Nat) : Int)) (yy) (k) (dn) (on) (tw) (bt) (bl) (bd) (na) (dt) (tl) (ul) (j68s0) (x85) (hd) (cn)]) rfl dX11_bound_162 ?_
            exact g_return (pc := 165) hG ⟨hd, tl, ul, j68s0, x85, bd_out h2 hT hL (by first | exact Or.inl ⟨h89, h108, rfl⟩ | exact Or.inr (Or.inl ⟨h89, h108, rfl⟩) | exact Or.inr (Or.inr (Or.inl ⟨h89, Or.inl h131, rfl⟩)) | exact Or.inr (Or.inr (Or.inl ⟨h89, Or.inr ⟨h131, h150⟩, rfl⟩)) | exact Or.inr (Or.inr (Or.inr ⟨h89, ⟨h131, h150⟩, rfl⟩))), rfl, rfl⟩ dX11_bound_165
          · refine g_lload (pc := 135) hG 6 rfl dX11_bound_135 ?_
            refine g_lload (pc := 137) hG 0 rfl dX11_bound_137 ?_
            refine g_aload_n (pc := 139) hG 1 rfl dX11_bound_139 ?_
            refine g_get (pc := 140) hG fl11_265 0 rfl rfl dX11_bound_140 ?_
            refine g_aload_n (pc := 143) hG 1 rfl dX11_bound_143 ?_
            refine g_get (pc := 144) hG fl11_262 0 rfl rfl dX11_bound_144 ?_
            refine g_callP (pc := 147) hG (As := [lV (j68s0), lV (x85), lV (th), lV (uh)]) (rest := []) (c_X11_compare (l := l) (D := D) (cI := cI) (cL := cL) (cZ := cZ) (cX := cX) (cG := cG) j68s0 x85 th uh (hTb) (hLb) (by omega) (by omega)) cs11_182 ⟨rfl, rfl⟩ ⟨Nat.le_of_ble_eq_true rfl, Nat.le_of_ble_eq_true rfl⟩ rfl rfl (Nat.le_of_ble_eq_true rfl) dX11_bound_147 (fun v h => ?_)
            obtain ⟨rfl, -⟩ := h
            show G 150 [(10, lV (x85)), (0, .ref (ad (0))), (1, lV (a)), (3, lV (b)), (5, bV (sr)), (6, lV (((Int.gcd a b : Nat) : Int))), (8, lV (j68s0))] [iV (sgnZ (j68s0 * uh - th * x85))] ([mdoC0 cI cL cZ ad (0) (((m : Nat) : Int)) (((n : Nat) : Int)) (yy) (k) (dn) (on) (tw) (bt) (bl) (bd) (na) (dt) (tl) (ul) (th) (uh) (hd) (cn)])
            have hsg := sgn_bd (j68s0 * uh - th * x85)
            refine g_if_ge (pc := 150) hG (by omega) (tgt := 165) (by decide) dX11_bound_150 (fun h150 => ?_) (fun h150 => ?_)
            · exact g_return (pc := 165) hG ⟨hd, tl, ul, th, uh, bd_out h2 hT hL (by first | exact Or.inl ⟨h89, h108, rfl⟩ | exact Or.inr (Or.inl ⟨h89, h108, rfl⟩) | exact Or.inr (Or.inr (Or.inl ⟨h89, Or.inl h131, rfl⟩)) | exact Or.inr (Or.inr (Or.inl ⟨h89, Or.inr ⟨h131, h150⟩, rfl⟩)) | exact Or.inr (Or.inr (Or.inr ⟨h89, ⟨h131, h150⟩, rfl⟩))), rfl, rfl⟩ dX11_bound_165
            · refine g_aload_n (pc := 153) hG 1 rfl dX11_bound_153 ?_
              refine g_lload (pc := 154) hG 6 rfl dX11_bound_154 ?_
              refine g_put (pc := 156) hG fp11_265 0 rfl rfl rfl (Nat.le_of_ble_eq_true rfl) (ws' := [mdoC0 cI cL cZ ad (0) (((m : Nat) : Int)) (((n : Nat) : Int)) (yy) (k) (dn) (on) (tw) (bt) (bl) (bd) (na) (dt) (tl) (ul) (j68s0) (uh) (hd) (cn)]) rfl dX11_bound_156 ?_
              refine g_aload_n (pc := 159) hG 1 rfl dX11_bound_159 ?_
              refine g_lload (pc := 160) hG 0 rfl dX11_bound_160 ?_
              refine g_put (pc := 162) hG fp11_262 0 rfl rfl rfl (Nat.le_of_ble_eq_true rfl) (ws' := [mdoC0 cI cL cZ ad (0) (((m : Nat) : Int)) (((n : Nat) : Int)) (yy) (k) (dn) (on) (tw) (bt) (bl) (bd) (na) (dt) (tl) (ul) (j68s0) (x85) (hd) (cn)]) rfl dX11_bound_162 ?_
              exact g_return (pc := 165) hG ⟨hd, tl, ul, j68s0, x85, bd_out h2 hT hL (by first | exact Or.inl ⟨h89, h108, rfl⟩ | exact Or.inr (Or.inl ⟨h89, h108, rfl⟩) | exact Or.inr (Or.inr (Or.inl ⟨h89, Or.inl h131, rfl⟩)) | exact Or.inr (Or.inr (Or.inl ⟨h89, Or.inr ⟨h131, h150⟩, rfl⟩)) | exact Or.inr (Or.inr (Or.inr ⟨h89, ⟨h131, h150⟩, rfl⟩))), rfl, rfl⟩ dX11_bound_165
        · refine g_lload (pc := 93) hG 6 rfl dX11_bound_93 ?_
          refine g_lload (pc := 95) hG 0 rfl dX11_bound_95 ?_
          refine g_aload_n (pc := 97) hG 1 rfl dX11_bound_97 ?_
          refine g_get (pc := 98) hG fl11_256 0 rfl rfl dX11_bound_98 ?_
          refine g_aload_n (pc := 101) hG 1 rfl dX11_bound_101 ?_
          refine g_get (pc := 102) hG fl11_259 0 rfl rfl dX11_bound_102 ?_
          refine g_callP (pc := 105) hG (As := [lV (j68s0), lV (x85), lV (tl), lV (ul)]) (rest := []) (c_X11_compare (l := l) (D := D) (cI := cI) (cL := cL) (cZ := cZ) (cX := cX) (cG := cG) j68s0 x85 tl ul (hTb) (hLb) (by omega) (by omega)) cs11_182 ⟨rfl, rfl⟩ ⟨Nat.le_of_ble_eq_true rfl, Nat.le_of_ble_eq_true rfl⟩ rfl rfl (Nat.le_of_ble_eq_true rfl) dX11_bound_105 (fun v h => ?_)
          obtain ⟨rfl, -⟩ := h
          show G 108 [(10, lV (x85)), (0, .ref (ad (0))), (1, lV (a)), (3, lV (b)), (5, bV (sr)), (6, lV (((Int.gcd a b : Nat) : Int))), (8, lV (j68s0))] [iV (sgnZ (j68s0 * ul - tl * x85))] ([mdoC0 cI cL cZ ad (0) (((m : Nat) : Int)) (((n : Nat) : Int)) (yy) (k) (dn) (on) (tw) (bt) (bl) (bd) (na) (dt) (tl) (ul) (th) (uh) (hd) (cn)])
          have hsg := sgn_bd (j68s0 * ul - tl * x85)
          refine g_if_le (pc := 108) hG (by omega) (tgt := 165) (by decide) dX11_bound_108 (fun h108 => ?_) (fun h108 => ?_)
          · exact g_return (pc := 165) hG ⟨hd, tl, ul, th, uh, bd_out h2 hT hL (by first | exact Or.inl ⟨h89, h108, rfl⟩ | exact Or.inr (Or.inl ⟨h89, h108, rfl⟩) | exact Or.inr (Or.inr (Or.inl ⟨h89, Or.inl h131, rfl⟩)) | exact Or.inr (Or.inr (Or.inl ⟨h89, Or.inr ⟨h131, h150⟩, rfl⟩)) | exact Or.inr (Or.inr (Or.inr ⟨h89, ⟨h131, h150⟩, rfl⟩))), rfl, rfl⟩ dX11_bound_165
          · refine g_aload_n (pc := 111) hG 1 rfl dX11_bound_111 ?_
            refine g_lload (pc := 112) hG 6 rfl dX11_bound_112 ?_
            refine g_put (pc := 114) hG fp11_256 0 rfl rfl rfl (Nat.le_of_ble_eq_true rfl) (ws' := [mdoC0 cI cL cZ ad (0) (((m : Nat) : Int)) (((n : Nat) : Int)) (yy) (k) (dn) (on) (tw) (bt) (bl) (bd) (na) (dt) (j68s0) (ul) (th) (uh) (hd) (cn)]) rfl dX11_bound_114 ?_
            refine g_aload_n (pc := 117) hG 1 rfl dX11_bound_117 ?_
            refine g_lload (pc := 118) hG 0 rfl dX11_bound_118 ?_
            refine g_put (pc := 120) hG fp11_259 0 rfl rfl rfl (Nat.le_of_ble_eq_true rfl) (ws' := [mdoC0 cI cL cZ ad (0) (((m : Nat) : Int)) (((n : Nat) : Int)) (yy) (k) (dn) (on) (tw) (bt) (bl) (bd) (na) (dt) (j68s0) (x85) (th) (uh) (hd) (cn)]) rfl dX11_bound_120 ?_
            refine g_goto (pc := 123) hG (tgt := 165) (by decide) dX11_bound_123 ?_
            exact g_return (pc := 165) hG ⟨hd, j68s0, x85, th, uh, bd_out h2 hT hL (by first | exact Or.inl ⟨h89, h108, rfl⟩ | exact Or.inr (Or.inl ⟨h89, h108, rfl⟩) | exact Or.inr (Or.inr (Or.inl ⟨h89, Or.inl h131, rfl⟩)) | exact Or.inr (Or.inr (Or.inl ⟨h89, Or.inr ⟨h131, h150⟩, rfl⟩)) | exact Or.inr (Or.inr (Or.inr ⟨h89, ⟨h131, h150⟩, rfl⟩))), rfl, rfl⟩ dX11_bound_165
      refine g_lc_le (pc := 72) hG (by omega) (by omega) (tgt := 80) (by decide) dX11_bound_72 dX11_bound_73 (fun h72 => ?_) (fun h72 => ?_)
      · refine g_lload_n (pc := 80) hG 3 rfl dX11_bound_80 ?_
        refine g_lneg (pc := 81) hG dX11_bound_81 ?_
        exact g_lv (pc := 82) hG [1, 2, 3, 4, 5, 0] rfl (J82 (-b) (Or.inl ⟨h72, rfl⟩))
      · refine g_lload_n (pc := 76) hG 3 rfl dX11_bound_76 ?_
        refine g_goto (pc := 77) hG (tgt := 82) (by decide) dX11_bound_77 ?_
        exact g_lv (pc := 82) hG [1, 2, 3, 4, 5, 0] rfl (J82 b (Or.inr (⟨h72, rfl⟩)))
    refine g_lc_le (pc := 52) hG (by omega) (by omega) (tgt := 64) (by decide) dX11_bound_52 dX11_bound_53 (fun h52 => ?_) (fun h52 => ?_)
    · refine g_lload_n (pc := 64) hG 2 rfl dX11_bound_64 ?_
      refine g_lload (pc := 65) hG 0 rfl dX11_bound_65 ?_
      refine g_ldiv (pc := 67) hG (by omega) (by omega) (by omega) (by omega) dX11_bound_67 ?_
      exact g_lv (pc := 68) hG [1, 2, 3, 4, 0] rfl (J68 (a.tdiv (((Int.gcd a b : Nat) : Int))) (Or.inl ⟨h52, rfl⟩))
    · refine g_lload_n (pc := 56) hG 2 rfl dX11_bound_56 ?_
      refine g_lneg (pc := 57) hG dX11_bound_57 ?_
      refine g_lload (pc := 58) hG 0 rfl dX11_bound_58 ?_
      refine g_ldiv (pc := 60) hG (by omega) (by omega) (by omega) (by omega) dX11_bound_60 ?_
      refine g_goto (pc := 61) hG (tgt := 68) (by decide) dX11_bound_61 ?_
      exact g_lv (pc := 68) hG [1, 2, 3, 4, 0] rfl (J68 ((-a).tdiv (((Int.gcd a b : Nat) : Int))) (Or.inr (⟨h52, rfl⟩)))
  · refine g_aload_n (pc := 6) hG 0 rfl dX11_bound_6 ?_
    refine g_aload_n (pc := 7) hG 0 rfl dX11_bound_7 ?_
    refine g_get (pc := 8) hG fl11_252 0 rfl rfl dX11_bound_8 ?_
    have J39 : ∀ (j39s0 : Bool), (((hd = false) ∧ j39s0 = false) ∨ ((hd = true) ∧ (sr = false) ∧ (a < 0) ∧ j39s0 = false) ∨ ((hd = true) ∧ (sr = false) ∧ (¬ a < 0) ∧ j39s0 = true) ∨ ((hd = true) ∧ (sr = true) ∧ (a ≤ 0) ∧ j39s0 = false) ∨ ((hd = true) ∧ (sr = true) ∧ (¬ a ≤ 0) ∧ j39s0 = true)) → G 39 [(0, .ref (ad (0))), (1, lV (a)), (3, lV (b)), (5, bV (sr))] [bV (j39s0), .ref (ad (0))] ([mdoC0 cI cL cZ ad (0) (((m : Nat) : Int)) (((n : Nat) : Int)) (yy) (k) (dn) (on) (tw) (bt) (bl) (bd) (na) (dt) (tl) (ul) (th) (uh) (hd) (cn)]) := by
      intro j39s0 k39
      refine g_put (pc := 39) hG fp11_252 0 rfl (bI_n _) (bI_fit _) (Nat.le_of_ble_eq_true rfl) (ws' := [mdoC0 cI cL cZ ad (0) (((m : Nat) : Int)) (((n : Nat) : Int)) (yy) (k) (dn) (on) (tw) (bt) (bl) (bd) (na) (dt) (tl) (ul) (th) (uh) (j39s0) (cn)]) rfl dX11_bound_39 ?_
      exact g_return (pc := 42) hG ⟨j39s0, tl, ul, th, uh, by rw [show j39s0 = (hd && okA sr a) by unfold okA; cases hd <;> cases sr <;> simp at k39 ⊢ <;> grind]; unfold bdF; rw [if_pos h2], rfl, rfl⟩ dX11_bound_42
    refine g_ifb_eq (pc := 11) hG (tgt := 38) (by decide) dX11_bound_11 (fun h11 => ?_) (fun h11 => ?_)
    · refine g_iconst (pc := 38) hG dX11_bound_38 ?_
      exact g_lv (pc := 39) hG [0, 1, 2, 3] rfl (J39 false (Or.inl ⟨h11, rfl⟩))
    · refine g_iload (pc := 14) hG 3 rfl dX11_bound_14 ?_
      refine g_ifb_eq (pc := 16) hG (tgt := 28) (by decide) dX11_bound_16 (fun h16 => ?_) (fun h16 => ?_)
      · refine g_lload_n (pc := 28) hG 1 rfl dX11_bound_28 ?_
        refine g_lconst (z := 0) (pc := 29) hG dX11_bound_29 (by decide) ?_
        refine g_lc_lt (pc := 30) hG (by omega) (by omega) (tgt := 38) (by decide) dX11_bound_30 dX11_bound_31 (fun h30 => ?_) (fun h30 => ?_)
        · refine g_iconst (pc := 38) hG dX11_bound_38 ?_
          exact g_lv (pc := 39) hG [0, 1, 2, 3] rfl (J39 false (Or.inr (Or.inl ⟨h11, h16, h30, rfl⟩)))
        · refine g_iconst (pc := 34) hG dX11_bound_34 ?_
          refine g_goto (pc := 35) hG (tgt := 39) (by decide) dX11_bound_35 ?_
          exact g_lv (pc := 39) hG [0, 1, 2, 3] rfl (J39 true (Or.inr (Or.inr (Or.inl ⟨h11, h16, h30, rfl⟩))))
      · refine g_lload_n (pc := 19) hG 1 rfl dX11_bound_19 ?_
        refine g_lconst (z := 0) (pc := 20) hG dX11_bound_20 (by decide) ?_
        refine g_lc_le (pc := 21) hG (by omega) (by omega) (tgt := 38) (by decide) dX11_bound_21 dX11_bound_22 (fun h21 => ?_) (fun h21 => ?_)
        · refine g_iconst (pc := 38) hG dX11_bound_38 ?_
          exact g_lv (pc := 39) hG [0, 1, 2, 3] rfl (J39 false (Or.inr (Or.inr (Or.inr (Or.inl ⟨h11, h16, h21, rfl⟩)))))
        · refine g_goto (pc := 25) hG (tgt := 34) (by decide) dX11_bound_25 ?_
          refine g_iconst (pc := 34) hG dX11_bound_34 ?_
          refine g_goto (pc := 35) hG (tgt := 39) (by decide) dX11_bound_35 ?_
          exact g_lv (pc := 39) hG [0, 1, 2, 3] rfl (J39 true (Or.inr (Or.inr (Or.inr (Or.inr (⟨h11, h16, h21, rfl⟩))))))
set_option maxHeartbeats 4000000 in
set_option maxRecDepth 100000 in
theorem c_X11_range {l : Launch} {D : va_G} {cI cL cZ cX cG : ClassId} (ad : Nat → Nat) (m : Nat) (n : Nat) (yy : Int) (k : Int) (dn : Int) (on : Int) (tw : Int) (bt : Int) (bl : Int) (bd : Int) (tl : Int) (ul : Int) (th : Int) (uh : Int) (hd : Bool) (cn : Int) (Gm : Nat → Nat → Int) (hh : Nat → Int) (sg : Nat → Int) (ac : Nat → Int) (ba : Nat → Int) (sl : Nat → Int) (p : Nat) (hm : m ≤ 3) (hGb : ∀ a b, a < m → b < m → -1944 ≤ Gm a b ∧ Gm a b ≤ 1944) (hhb : ∀ j, j < m → -21384 ≤ hh j ∧ hh j ≤ 21384) (hp : p < 27) (hpt : PatR Gm hh m p ((naM p m : Nat) : Int) (dtM Gm p m) sg ac ba sl) (hPb : PaB1 Gm hh m p) : Ct l D (gT cI cL cZ cX cG) yX11_range cX11_range 7 none ({ frames := 3, cells := 0, slots := 0, locals := 98 }) [.ref (ad (0))] ([mdoC0 cI cL cZ ad (0) (((m : Nat) : Int)) (((n : Nat) : Int)) (yy) (k) (dn) (on) (tw) (bt) (bl) (bd) (((naM p m : Nat) : Int)) (dtM Gm p m) (tl) (ul) (th) (uh) (hd) (cn), mgC0 cI cL cZ cX cG ad (29) (Gm), mgC1 cI cL cZ cX cG ad (29) (Gm), mgC2 cI cL cZ cX cG ad (29) (Gm), mgC3 cI cL cZ cX cG ad (29) (Gm), l3C0 cI cL cZ ad (33) (hh), i3C0 cI cL cZ ad (46) (sg), i3C0 cI cL cZ ad (47) (ac), l3C0 cI cL cZ ad (48) (ba), l3C0 cI cL cZ ad (49) (sl)]) (fun vv_ ww_ => ∃ (hd2 : Bool), ∃ (tl2 : Int), ∃ (ul2 : Int), ∃ (th2 : Int), ∃ (uh2 : Int), ((hd2, tl2, ul2, th2, uh2) = rgE Gm hh m p) ∧ (RgB (hd2, tl2, ul2, th2, uh2)) ∧ vv_ = none ∧ ww_ = [mdoC0 cI cL cZ ad (0) (((m : Nat) : Int)) (((n : Nat) : Int)) (yy) (k) (dn) (on) (tw) (bt) (bl) (bd) (((naM p m : Nat) : Int)) (dtM Gm p m) (tl2) (ul2) (th2) (uh2) (hd2) (cn), mgC0 cI cL cZ cX cG ad (29) (Gm), mgC1 cI cL cZ cX cG ad (29) (Gm), mgC2 cI cL cZ cX cG ad (29) (Gm), mgC3 cI cL cZ cX cG ad (29) (Gm), l3C0 cI cL cZ ad (33) (hh), i3C0 cI cL cZ ad (46) (sg), i3C0 cI cL cZ ad (47) (ac), l3C0 cI cL cZ ad (48) (ba), l3C0 cI cL cZ ad (49) (sl)]) := by
  refine Ct.of (by decide) (Nat.le_of_ble_eq_true rfl) (fun G hG => ?_)
  show G 0 [(0, .ref (ad (0)))] [] ([mdoC0 cI cL cZ ad (0) (((m : Nat) : Int)) (((n : Nat) : Int)) (yy) (k) (dn) (on) (tw) (bt) (bl) (bd) (((naM p m : Nat) : Int)) (dtM Gm p m) (tl) (ul) (th) (uh) (hd) (cn), mgC0 cI cL cZ cX cG ad (29) (Gm), mgC1 cI cL cZ cX cG ad (29) (Gm), mgC2 cI cL cZ cX cG ad (29) (Gm), mgC3 cI cL cZ cX cG ad (29) (Gm), l3C0 cI cL cZ ad (33) (hh), i3C0 cI cL cZ ad (46) (sg), i3C0 cI cL cZ ad (47) (ac), l3C0 cI cL cZ ad (48) (ba), l3C0 cI cL cZ ad (49) (sl)])
  have hnl := na_le (p := p) hm
  refine g_aload_n (pc := 0) hG 0 rfl dX11_range_0 ?_
  refine g_iconst (pc := 1) hG dX11_range_1 ?_
  refine g_val (pc := 2) hG (show iV 1 = bV true from rfl) ?_
  refine g_put (pc := 2) hG fp11_252 0 rfl (bI_n _) (bI_fit _) (Nat.le_of_ble_eq_true rfl) (ws' := [mdoC0 cI cL cZ ad (0) (((m : Nat) : Int)) (((n : Nat) : Int)) (yy) (k) (dn) (on) (tw) (bt) (bl) (bd) (((naM p m : Nat) : Int)) (dtM Gm p m) (tl) (ul) (th) (uh) (true) (cn), mgC0 cI cL cZ cX cG ad (29) (Gm), mgC1 cI cL cZ cX cG ad (29) (Gm), mgC2 cI cL cZ cX cG ad (29) (Gm), mgC3 cI cL cZ cX cG ad (29) (Gm), l3C0 cI cL cZ ad (33) (hh), i3C0 cI cL cZ ad (46) (sg), i3C0 cI cL cZ ad (47) (ac), l3C0 cI cL cZ ad (48) (ba), l3C0 cI cL cZ ad (49) (sl)]) rfl dX11_range_2 ?_
  refine g_aload_n (pc := 5) hG 0 rfl dX11_range_5 ?_
  refine g_lconst (z := 0) (pc := 6) hG dX11_range_6 (by decide) ?_
  refine g_put (pc := 7) hG fp11_256 0 rfl rfl rfl (Nat.le_of_ble_eq_true rfl) (ws' := [mdoC0 cI cL cZ ad (0) (((m : Nat) : Int)) (((n : Nat) : Int)) (yy) (k) (dn) (on) (tw) (bt) (bl) (bd) (((naM p m : Nat) : Int)) (dtM Gm p m) (0) (ul) (th) (uh) (true) (cn), mgC0 cI cL cZ cX cG ad (29) (Gm), mgC1 cI cL cZ cX cG ad (29) (Gm), mgC2 cI cL cZ cX cG ad (29) (Gm), mgC3 cI cL cZ cX cG ad (29) (Gm), l3C0 cI cL cZ ad (33) (hh), i3C0 cI cL cZ ad (46) (sg), i3C0 cI cL cZ ad (47) (ac), l3C0 cI cL cZ ad (48) (ba), l3C0 cI cL cZ ad (49) (sl)]) rfl dX11_range_7 ?_
  refine g_aload_n (pc := 10) hG 0 rfl dX11_range_10 ?_
  refine g_lconst (z := 1) (pc := 11) hG dX11_range_11 (by decide) ?_
  refine g_put (pc := 12) hG fp11_259 0 rfl rfl rfl (Nat.le_of_ble_eq_true rfl) (ws' := [mdoC0 cI cL cZ ad (0) (((m : Nat) : Int)) (((n : Nat) : Int)) (yy) (k) (dn) (on) (tw) (bt) (bl) (bd) (((naM p m : Nat) : Int)) (dtM Gm p m) (0) (1) (th) (uh) (true) (cn), mgC0 cI cL cZ cX cG ad (29) (Gm), mgC1 cI cL cZ cX cG ad (29) (Gm), mgC2 cI cL cZ cX cG ad (29) (Gm), mgC3 cI cL cZ cX cG ad (29) (Gm), l3C0 cI cL cZ ad (33) (hh), i3C0 cI cL cZ ad (46) (sg), i3C0 cI cL cZ ad (47) (ac), l3C0 cI cL cZ ad (48) (ba), l3C0 cI cL cZ ad (49) (sl)]) rfl dX11_range_12 ?_
  refine g_aload_n (pc := 15) hG 0 rfl dX11_range_15 ?_
  refine g_lconst (z := 0) (pc := 16) hG dX11_range_16 (by decide) ?_
  refine g_put (pc := 17) hG fp11_265 0 rfl rfl rfl (Nat.le_of_ble_eq_true rfl) (ws' := [mdoC0 cI cL cZ ad (0) (((m : Nat) : Int)) (((n : Nat) : Int)) (yy) (k) (dn) (on) (tw) (bt) (bl) (bd) (((naM p m : Nat) : Int)) (dtM Gm p m) (0) (1) (0) (uh) (true) (cn), mgC0 cI cL cZ cX cG ad (29) (Gm), mgC1 cI cL cZ cX cG ad (29) (Gm), mgC2 cI cL cZ cX cG ad (29) (Gm), mgC3 cI cL cZ cX cG ad (29) (Gm), l3C0 cI cL cZ ad (33) (hh), i3C0 cI cL cZ ad (46) (sg), i3C0 cI cL cZ ad (47) (ac), l3C0 cI cL cZ ad (48) (ba), l3C0 cI cL cZ ad (49) (sl)]) rfl dX11_range_17 ?_
  refine g_aload_n (pc := 20) hG 0 rfl dX11_range_20 ?_
  refine g_lconst (z := 0) (pc := 21) hG dX11_range_21 (by decide) ?_
  refine g_put (pc := 22) hG fp11_262 0 rfl rfl rfl (Nat.le_of_ble_eq_true rfl) (ws' := [mdoC0 cI cL cZ ad (0) (((m : Nat) : Int)) (((n : Nat) : Int)) (yy) (k) (dn) (on) (tw) (bt) (bl) (bd) (((naM p m : Nat) : Int)) (dtM Gm p m) (0) (1) (0) (0) (true) (cn), mgC0 cI cL cZ cX cG ad (29) (Gm), mgC1 cI cL cZ cX cG ad (29) (Gm), mgC2 cI cL cZ cX cG ad (29) (Gm), mgC3 cI cL cZ cX cG ad (29) (Gm), l3C0 cI cL cZ ad (33) (hh), i3C0 cI cL cZ ad (46) (sg), i3C0 cI cL cZ ad (47) (ac), l3C0 cI cL cZ ad (48) (ba), l3C0 cI cL cZ ad (49) (sl)]) rfl dX11_range_22 ?_
  refine g_iconst (pc := 25) hG dX11_range_25 ?_
  refine g_istore_n (pc := 26) hG (by decide) (lv' := [(1, iV (0)), (0, .ref (ad (0)))]) rfl dX11_range_26 ?_
  have L27 : ∀ (fu27 : Nat) (c : Nat) (hd6 : Bool) (tl6 : Int) (ul6 : Int) (th6 : Int) (uh6 : Int), m - c < fu27 → (c ≤ m) → ((hd6, tl6, ul6, th6, uh6) = rgF Gm hh m p c) → G 27 [(0, .ref (ad (0))), (1, iV (((c : Nat) : Int)))] [] ([mdoC0 cI cL cZ ad (0) (((m : Nat) : Int)) (((n : Nat) : Int)) (yy) (k) (dn) (on) (tw) (bt) (bl) (bd) (((naM p m : Nat) : Int)) (dtM Gm p m) (tl6) (ul6) (th6) (uh6) (hd6) (cn), mgC0 cI cL cZ cX cG ad (29) (Gm), mgC1 cI cL cZ cX cG ad (29) (Gm), mgC2 cI cL cZ cX cG ad (29) (Gm), mgC3 cI cL cZ cX cG ad (29) (Gm), l3C0 cI cL cZ ad (33) (hh), i3C0 cI cL cZ ad (46) (sg), i3C0 cI cL cZ ad (47) (ac), l3C0 cI cL cZ ad (48) (ba), l3C0 cI cL cZ ad (49) (sl)]) := by
    intro fu27
    induction fu27 with
    | zero => intro c hd6 tl6 ul6 th6 uh6 hm; exact absurd hm (Nat.not_lt_zero _)
    | succ fu27 ih27 =>
      intro c hd6 tl6 ul6 th6 uh6 hm27 hcm hrg6
      refine g_iload_n (pc := 27) hG 1 rfl dX11_range_27 ?_
      refine g_aload_n (pc := 28) hG 0 rfl dX11_range_28 ?_
      refine g_get (pc := 29) hG fl11_7 0 rfl rfl dX11_range_29 ?_
      refine g_icmp_ge (pc := 32) hG (by omega) (by omega) (tgt := 212) (by decide) dX11_range_32 (fun h32 => ?_) (fun h32 => ?_)
      · have hrb6 := rgF_b hp hm hPb hGb hhb c hcm
        rw [← hrg6] at hrb6
        obtain ⟨hs1, hs2, hs3, hs4⟩ := id hrb6
        unfold B63 at hs1 hs3
        simp only at hs1 hs2 hs3 hs4
        have hcm2 : c = m := by omega
        rw [hcm2] at hrg6
        refine g_aload_n (pc := 212) hG 0 rfl dX11_range_212 ?_
        refine g_aload_n (pc := 213) hG 0 rfl dX11_range_213 ?_
        refine g_get (pc := 214) hG fl11_252 0 rfl rfl dX11_range_214 ?_
        have J256 : ∀ (j256s0 : Bool), (((hd6 = false) ∧ j256s0 = false) ∨ ((hd6 = true) ∧ (uh6 = 0) ∧ j256s0 = true) ∨ ((hd6 = true) ∧ (¬ uh6 = 0) ∧ (0 ≤ sgnZ (tl6 * uh6 - th6 * ul6)) ∧ j256s0 = false) ∨ ((hd6 = true) ∧ (¬ uh6 = 0) ∧ (¬ 0 ≤ sgnZ (tl6 * uh6 - th6 * ul6)) ∧ j256s0 = true)) → G 256 [(0, .ref (ad (0))), (1, iV (((c : Nat) : Int)))] [bV (j256s0), .ref (ad (0))] ([mdoC0 cI cL cZ ad (0) (((m : Nat) : Int)) (((n : Nat) : Int)) (yy) (k) (dn) (on) (tw) (bt) (bl) (bd) (((naM p m : Nat) : Int)) (dtM Gm p m) (tl6) (ul6) (th6) (uh6) (hd6) (cn), mgC0 cI cL cZ cX cG ad (29) (Gm), mgC1 cI cL cZ cX cG ad (29) (Gm), mgC2 cI cL cZ cX cG ad (29) (Gm), mgC3 cI cL cZ cX cG ad (29) (Gm), l3C0 cI cL cZ ad (33) (hh), i3C0 cI cL cZ ad (46) (sg), i3C0 cI cL cZ ad (47) (ac), l3C0 cI cL cZ ad (48) (ba), l3C0 cI cL cZ ad (49) (sl)]) := by
          intro j256s0 k256
          refine g_put (pc := 256) hG fp11_252 0 rfl (bI_n _) (bI_fit _) (Nat.le_of_ble_eq_true rfl) (ws' := [mdoC0 cI cL cZ ad (0) (((m : Nat) : Int)) (((n : Nat) : Int)) (yy) (k) (dn) (on) (tw) (bt) (bl) (bd) (((naM p m : Nat) : Int)) (dtM Gm p m) (tl6) (ul6) (th6) (uh6) (j256s0) (cn), mgC0 cI cL cZ cX cG ad (29) (Gm), mgC1 cI cL cZ cX cG ad (29) (Gm), mgC2 cI cL cZ cX cG ad (29) (Gm), mgC3 cI cL cZ cX cG ad (29) (Gm), l3C0 cI cL cZ ad (33) (hh), i3C0 cI cL cZ ad (46) (sg), i3C0 cI cL cZ ad (47) (ac), l3C0 cI cL cZ ad (48) (ba), l3C0 cI cL cZ ad (49) (sl)]) rfl dX11_range_256 ?_
          exact g_return (pc := 259) hG ⟨j256s0, tl6, ul6, th6, uh6, rg_out hrg6 k256, ⟨hrb6.1, hrb6.2.1, hrb6.2.2.1, hrb6.2.2.2⟩, rfl, rfl⟩ dX11_range_259
        refine g_ifb_eq (pc := 217) hG (tgt := 255) (by decide) dX11_range_217 (fun h217 => ?_) (fun h217 => ?_)
        · refine g_iconst (pc := 255) hG dX11_range_255 ?_
          exact g_lv (pc := 256) hG [0, 1] rfl (J256 false (Or.inl ⟨h217, rfl⟩))
        · refine g_aload_n (pc := 220) hG 0 rfl dX11_range_220 ?_
          refine g_get (pc := 221) hG fl11_262 0 rfl rfl dX11_range_221 ?_
          refine g_lconst (z := 0) (pc := 224) hG dX11_range_224 (by decide) ?_
          refine g_lc_eq (pc := 225) hG (by omega) (by omega) (tgt := 251) (by decide) dX11_range_225 dX11_range_226 (fun h225 => ?_) (fun h225 => ?_)
          · refine g_iconst (pc := 251) hG dX11_range_251 ?_
            refine g_goto (pc := 252) hG (tgt := 256) (by decide) dX11_range_252 ?_
            exact g_lv (pc := 256) hG [0, 1] rfl (J256 true (Or.inr (Or.inl ⟨h217, h225, rfl⟩)))
          · refine g_aload_n (pc := 229) hG 0 rfl dX11_range_229 ?_
            refine g_get (pc := 230) hG fl11_256 0 rfl rfl dX11_range_230 ?_
            refine g_aload_n (pc := 233) hG 0 rfl dX11_range_233 ?_
            refine g_get (pc := 234) hG fl11_259 0 rfl rfl dX11_range_234 ?_
            refine g_aload_n (pc := 237) hG 0 rfl dX11_range_237 ?_
            refine g_get (pc := 238) hG fl11_265 0 rfl rfl dX11_range_238 ?_
            refine g_aload_n (pc := 241) hG 0 rfl dX11_range_241 ?_
            refine g_get (pc := 242) hG fl11_262 0 rfl rfl dX11_range_242 ?_
            refine g_callP (pc := 245) hG (As := [lV (tl6), lV (ul6), lV (th6), lV (uh6)]) (rest := [.ref (ad (0))]) (c_X11_compare (l := l) (D := D) (cI := cI) (cL := cL) (cZ := cZ) (cX := cX) (cG := cG) tl6 ul6 th6 uh6 (by omega) (by omega) (by omega) (by omega)) cs11_182 ⟨rfl, rfl⟩ ⟨Nat.le_of_ble_eq_true rfl, Nat.le_of_ble_eq_true rfl⟩ rfl rfl (Nat.le_of_ble_eq_true rfl) dX11_range_245 (fun v h => ?_)
            obtain ⟨rfl, -⟩ := h
            show G 248 [(0, .ref (ad (0))), (1, iV (((c : Nat) : Int)))] [iV (sgnZ (tl6 * uh6 - th6 * ul6)), .ref (ad (0))] ([mdoC0 cI cL cZ ad (0) (((m : Nat) : Int)) (((n : Nat) : Int)) (yy) (k) (dn) (on) (tw) (bt) (bl) (bd) (((naM p m : Nat) : Int)) (dtM Gm p m) (tl6) (ul6) (th6) (uh6) (hd6) (cn), mgC0 cI cL cZ cX cG ad (29) (Gm), mgC1 cI cL cZ cX cG ad (29) (Gm), mgC2 cI cL cZ cX cG ad (29) (Gm), mgC3 cI cL cZ cX cG ad (29) (Gm), l3C0 cI cL cZ ad (33) (hh), i3C0 cI cL cZ ad (46) (sg), i3C0 cI cL cZ ad (47) (ac), l3C0 cI cL cZ ad (48) (ba), l3C0 cI cL cZ ad (49) (sl)])
            have hsg := sgn_bd (tl6 * uh6 - th6 * ul6)
            refine g_if_ge (pc := 248) hG (by omega) (tgt := 255) (by decide) dX11_range_248 (fun h248 => ?_) (fun h248 => ?_)
            · refine g_iconst (pc := 255) hG dX11_range_255 ?_
              exact g_lv (pc := 256) hG [0, 1] rfl (J256 false (Or.inr (Or.inr (Or.inl ⟨h217, h225, h248, rfl⟩))))
            · refine g_iconst (pc := 251) hG dX11_range_251 ?_
              refine g_goto (pc := 252) hG (tgt := 256) (by decide) dX11_range_252 ?_
              exact g_lv (pc := 256) hG [0, 1] rfl (J256 true (Or.inr (Or.inr (Or.inr (⟨h217, h225, h248, rfl⟩)))))
      · have hsgc := hpt.2.2.1 c (by omega)
        have hsb := sgM_bd p c
        have hba := hpt.2.2.2.2.1 c (by omega)
        have hsl := hpt.2.2.2.2.2 c (by omega)
        have hab := ab_63 hp hm (show c < m by omega) hPb hGb hhb
        have hrb6 := rgF_b hp hm hPb hGb hhb c hcm
        rw [← hrg6] at hrb6
        refine g_aload_n (pc := 35) hG 0 rfl dX11_range_35 ?_
        refine g_get (pc := 36) hG fl11_65 0 rfl rfl dX11_range_36 ?_
        refine g_iload_n (pc := 39) hG 1 rfl dX11_range_39 ?_
        refine g_iaload (pc := 40) hG 6 c rfl rfl (by omega) (by omega) (by decide) dX11_range_40 ?_
        refine g_eqI (pc := 41) hG (show sg c = sgM p c by exact hsgc) ?_
        refine g_if_eq (pc := 41) hG (by omega) (tgt := 80) (by decide) dX11_range_41 (fun h41 => ?_) (fun h41 => ?_)
        · refine g_ldc2 (z := 2) (pc := 80) hG (v := 2) (inB wd_1056 rfl) (by decide) dX11_range_80 ?_
          refine g_aload_n (pc := 83) hG 0 rfl dX11_range_83 ?_
          refine g_get (pc := 84) hG fl11_34 0 rfl rfl dX11_range_84 ?_
          refine g_iload_n (pc := 87) hG 1 rfl dX11_range_87 ?_
          refine g_laload (pc := 88) hG 5 c rfl rfl (by omega) (by omega) (by decide) dX11_range_88 ?_
          refine g_lmul (pc := 89) hG dX11_range_89 ?_
          refine g_aload_n (pc := 90) hG 0 rfl dX11_range_90 ?_
          refine g_get (pc := 91) hG fl11_223 0 rfl rfl dX11_range_91 ?_
          refine g_lmul (pc := 94) hG dX11_range_94 ?_
          refine g_nmL (pc := 95) hG (fun x95 ex95 => ?_)
          refine g_lstore_n (pc := 95) hG (by decide) (lv' := [(2, lV (x95)), (0, .ref (ad (0))), (1, iV (((c : Nat) : Int)))]) rfl dX11_range_95 ?_
          refine g_lconst (z := 0) (pc := 96) hG dX11_range_96 (by decide) ?_
          refine g_lstore (pc := 97) hG (by decide) (lv' := [(4, lV (0)), (2, lV (x95)), (0, .ref (ad (0))), (1, iV (((c : Nat) : Int)))]) rfl dX11_range_97 ?_
          refine g_iconst (pc := 99) hG dX11_range_99 ?_
          refine g_istore (pc := 100) hG (by decide) (lv' := [(6, iV (0)), (4, lV (0)), (2, lV (x95)), (0, .ref (ad (0))), (1, iV (((c : Nat) : Int)))]) rfl dX11_range_100 ?_
          have L102 : ∀ (fu102 : Nat) (e9 : Int) (f9 : Int) (i9 : Nat), naM p m - i9 < fu102 → (i9 ≤ naM p m) → (e9 = aaM Gm hh m p c i9) → (f9 = bbM Gm m p c i9) → G 102 [(0, .ref (ad (0))), (1, iV (((c : Nat) : Int))), (2, lV (e9)), (4, lV (f9)), (6, iV (((i9 : Nat) : Int)))] [] ([mdoC0 cI cL cZ ad (0) (((m : Nat) : Int)) (((n : Nat) : Int)) (yy) (k) (dn) (on) (tw) (bt) (bl) (bd) (((naM p m : Nat) : Int)) (dtM Gm p m) (tl6) (ul6) (th6) (uh6) (hd6) (cn), mgC0 cI cL cZ cX cG ad (29) (Gm), mgC1 cI cL cZ cX cG ad (29) (Gm), mgC2 cI cL cZ cX cG ad (29) (Gm), mgC3 cI cL cZ cX cG ad (29) (Gm), l3C0 cI cL cZ ad (33) (hh), i3C0 cI cL cZ ad (46) (sg), i3C0 cI cL cZ ad (47) (ac), l3C0 cI cL cZ ad (48) (ba), l3C0 cI cL cZ ad (49) (sl)]) := by
            intro fu102
            induction fu102 with
            | zero => intro e9 f9 i9 hm; exact absurd hm (Nat.not_lt_zero _)
            | succ fu102 ih102 =>
              intro e9 f9 i9 hm102 hi9 he9 hf9
              refine g_iload (pc := 102) hG 4 rfl dX11_range_102 ?_
              refine g_aload_n (pc := 104) hG 0 rfl dX11_range_104 ?_
              refine g_get (pc := 105) hG fl11_220 0 rfl rfl dX11_range_105 ?_
              refine g_icmp_ge (pc := 108) hG (by omega) (by omega) (tgt := 179) (by decide) dX11_range_108 (fun h108 => ?_) (fun h108 => ?_)
              · have hin : i9 = naM p m := by omega
                rw [← hin, ← he9, ← hf9] at hab
                refine g_aload_n (pc := 179) hG 0 rfl dX11_range_179 ?_
                refine g_lload_n (pc := 180) hG 2 rfl dX11_range_180 ?_
                refine g_lneg (pc := 181) hG dX11_range_181 ?_
                refine g_aload_n (pc := 182) hG 0 rfl dX11_range_182 ?_
                refine g_get (pc := 183) hG fl11_223 0 rfl rfl dX11_range_183 ?_
                refine g_lload (pc := 186) hG 3 rfl dX11_range_186 ?_
                refine g_lsub (pc := 188) hG dX11_range_188 ?_
                refine g_iconst (pc := 189) hG dX11_range_189 ?_
                refine g_callV (pc := 190) hG (As := [lV (-e9), lV ((dtM Gm p m) - f9), iV (0)]) (rest := []) (c_X11_bound (l := l) (D := D) (cI := cI) (cL := cL) (cZ := cZ) (cX := cX) (cG := cG) ad m n yy k dn on tw bt bl bd (((naM p m : Nat) : Int)) (dtM Gm p m) tl6 ul6 th6 uh6 hd6 cn (-e9) ((dtM Gm p m) - f9) false (hab.2.1) (hab.2.2.2.1) (hrb6)) (Sp.mg [true] rfl) cv11_268 ⟨rfl, rfl⟩ ⟨Nat.le_of_ble_eq_true rfl, Nat.le_of_ble_eq_true rfl⟩ 0 rfl rfl rfl rfl (Nat.le_of_ble_eq_true rfl) dX11_range_190 (fun v w1 h => ?_)
                obtain ⟨hd2_190, tl2_190, ul2_190, th2_190, uh2_190, hbd_190, rfl, rfl⟩ := h
                show G 193 [(0, .ref (ad (0))), (1, iV (((c : Nat) : Int))), (2, lV (e9)), (4, lV (f9)), (6, iV (((i9 : Nat) : Int)))] [] ([mdoC0 cI cL cZ ad (0) (((m : Nat) : Int)) (((n : Nat) : Int)) (yy) (k) (dn) (on) (tw) (bt) (bl) (bd) (((naM p m : Nat) : Int)) (dtM Gm p m) (tl2_190) (ul2_190) (th2_190) (uh2_190) (hd2_190) (cn), mgC0 cI cL cZ cX cG ad (29) (Gm), mgC1 cI cL cZ cX cG ad (29) (Gm), mgC2 cI cL cZ cX cG ad (29) (Gm), mgC3 cI cL cZ cX cG ad (29) (Gm), l3C0 cI cL cZ ad (33) (hh), i3C0 cI cL cZ ad (46) (sg), i3C0 cI cL cZ ad (47) (ac), l3C0 cI cL cZ ad (48) (ba), l3C0 cI cL cZ ad (49) (sl)])
                refine g_aload_n (pc := 193) hG 0 rfl dX11_range_193 ?_
                refine g_lload_n (pc := 194) hG 2 rfl dX11_range_194 ?_
                refine g_aload_n (pc := 195) hG 0 rfl dX11_range_195 ?_
                refine g_get (pc := 196) hG fl11_223 0 rfl rfl dX11_range_196 ?_
                refine g_lload (pc := 199) hG 3 rfl dX11_range_199 ?_
                refine g_ladd (pc := 201) hG dX11_range_201 ?_
                refine g_iconst (pc := 202) hG dX11_range_202 ?_
                refine g_callV (pc := 203) hG (As := [lV (e9), lV ((dtM Gm p m) + f9), iV (0)]) (rest := []) (c_X11_bound (l := l) (D := D) (cI := cI) (cL := cL) (cZ := cZ) (cX := cX) (cG := cG) ad m n yy k dn on tw bt bl bd (((naM p m : Nat) : Int)) (dtM Gm p m) tl2_190 ul2_190 th2_190 uh2_190 hd2_190 cn e9 ((dtM Gm p m) + f9) false (hab.1) (hab.2.2.1) (by rw [hbd_190]; exact bdF_b hrb6 hab.2.1 hab.2.2.2.1)) (Sp.mg [true] rfl) cv11_268 ⟨rfl, rfl⟩ ⟨Nat.le_of_ble_eq_true rfl, Nat.le_of_ble_eq_true rfl⟩ 0 rfl rfl rfl rfl (Nat.le_of_ble_eq_true rfl) dX11_range_203 (fun v w1 h => ?_)
                obtain ⟨hd2_203, tl2_203, ul2_203, th2_203, uh2_203, hbd_203, rfl, rfl⟩ := h
                show G 206 [(0, .ref (ad (0))), (1, iV (((c : Nat) : Int))), (2, lV (e9)), (4, lV (f9)), (6, iV (((i9 : Nat) : Int)))] [] ([mdoC0 cI cL cZ ad (0) (((m : Nat) : Int)) (((n : Nat) : Int)) (yy) (k) (dn) (on) (tw) (bt) (bl) (bd) (((naM p m : Nat) : Int)) (dtM Gm p m) (tl2_203) (ul2_203) (th2_203) (uh2_203) (hd2_203) (cn), mgC0 cI cL cZ cX cG ad (29) (Gm), mgC1 cI cL cZ cX cG ad (29) (Gm), mgC2 cI cL cZ cX cG ad (29) (Gm), mgC3 cI cL cZ cX cG ad (29) (Gm), l3C0 cI cL cZ ad (33) (hh), i3C0 cI cL cZ ad (46) (sg), i3C0 cI cL cZ ad (47) (ac), l3C0 cI cL cZ ad (48) (ba), l3C0 cI cL cZ ad (49) (sl)])
                refine g_iinc (pc := 206) hG 1 rfl (by decide) (lv' := [(1, iV ((((c : Nat) : Int)) + 1)), (0, .ref (ad (0))), (2, lV (e9)), (4, lV (f9)), (6, iV (((i9 : Nat) : Int)))]) rfl dX11_range_206 ?_
                refine g_goto (pc := 209) hG (tgt := 27) (by decide) dX11_range_209 ?_
                exact g_lv (pc := 27) hG [1, 0] rfl (ih27 (c + 1) hd2_203 tl2_203 ul2_203 th2_203 uh2_203 (by omega) (by omega) (by first | (rw [hbd_74, hrg6]; show _ = rgC _ _ _ _ _ _; unfold rgC; rw [if_neg h41]) | (rw [hbd_203, hbd_190, hrg6, he9, hf9, show i9 = naM p m by omega]; show _ = rgC _ _ _ _ _ _; unfold rgC; rw [if_pos h41])))
              · refine g_lload_n (pc := 111) hG 2 rfl dX11_range_111 ?_
                refine g_aload_n (pc := 112) hG 0 rfl dX11_range_112 ?_
                refine g_get (pc := 113) hG fl11_31 0 rfl rfl dX11_range_113 ?_
                refine g_iload_n (pc := 116) hG 1 rfl dX11_range_116 ?_
                refine g_aaload (pc := 117) hG 1 4 c rfl rfl (by omega) (by omega) (by decide) dX11_range_117 ?_
                refine g_aload_n (pc := 118) hG 0 rfl dX11_range_118 ?_
                refine g_get (pc := 119) hG fl11_68 0 rfl rfl dX11_range_119 ?_
                refine g_iload (pc := 122) hG 4 rfl dX11_range_122 ?_
                have hk := (cl_bit (stM_lt hp hm) hm (show i9 < naM p m by omega)).2.1
                have hba2 := hpt.2.2.2.2.1 _ hk
                have hsl2 := hpt.2.2.2.2.2 _ hk
                refine g_iaload (pc := 124) hG 7 i9 rfl rfl (by omega) (by omega) (by decide) dX11_range_124 ?_
                refine g_eqI (pc := 125) hG (show (ac i9) = ((clF (stM p m) i9 : Nat) : Int) by exact hpt.2.2.2.1 i9 (by omega)) ?_
                refine g_laload (pc := 125) hG (2 + c) (clF (stM p m) i9) (rw_at [mdoC0 cI cL cZ ad (0) (((m : Nat) : Int)) (((n : Nat) : Int)) (yy) (k) (dn) (on) (tw) (bt) (bl) (bd) (((naM p m : Nat) : Int)) (dtM Gm p m) (tl6) (ul6) (th6) (uh6) (hd6) (cn), mgC0 cI cL cZ cX cG ad (29) (Gm)] _ 3 (fun i9 => (ad (30 + i9), aL cL 3 (Gm i9))) (by omega)) rfl (by omega) (by omega) (by decide) dX11_range_125 ?_
                refine g_aload_n (pc := 126) hG 0 rfl dX11_range_126 ?_
                refine g_get (pc := 127) hG fl11_71 0 rfl rfl dX11_range_127 ?_
                refine g_aload_n (pc := 130) hG 0 rfl dX11_range_130 ?_
                refine g_get (pc := 131) hG fl11_68 0 rfl rfl dX11_range_131 ?_
                refine g_iload (pc := 134) hG 4 rfl dX11_range_134 ?_
                refine g_iaload (pc := 136) hG 7 i9 rfl rfl (by omega) (by omega) (by decide) dX11_range_136 ?_
                refine g_eqI (pc := 137) hG (show (ac i9) = ((clF (stM p m) i9 : Nat) : Int) by exact hpt.2.2.2.1 i9 (by omega)) ?_
                refine g_laload (pc := 137) hG 8 (clF (stM p m) i9) rfl rfl (by omega) (by omega) (by decide) dX11_range_137 ?_
                refine g_lmul (pc := 138) hG dX11_range_138 ?_
                refine g_lsub (pc := 139) hG dX11_range_139 ?_
                refine g_nmL (pc := 140) hG (fun x140 ex140 => ?_)
                refine g_lstore_n (pc := 140) hG (by decide) (lv' := [(2, lV (x140)), (0, .ref (ad (0))), (1, iV (((c : Nat) : Int))), (4, lV (f9)), (6, iV (((i9 : Nat) : Int)))]) rfl dX11_range_140 ?_
                refine g_lload (pc := 141) hG 3 rfl dX11_range_141 ?_
                refine g_aload_n (pc := 143) hG 1 rfl dX11_range_143 ?_
                refine g_get (pc := 144) hG fl11_31 0 rfl rfl dX11_range_144 ?_
                refine g_iload_n (pc := 147) hG 2 rfl dX11_range_147 ?_
                refine g_aaload (pc := 148) hG 1 4 c rfl rfl (by omega) (by omega) (by decide) dX11_range_148 ?_
                refine g_aload_n (pc := 149) hG 1 rfl dX11_range_149 ?_
                refine g_get (pc := 150) hG fl11_68 0 rfl rfl dX11_range_150 ?_
                refine g_iload (pc := 153) hG 4 rfl dX11_range_153 ?_
                refine g_iaload (pc := 155) hG 7 i9 rfl rfl (by omega) (by omega) (by decide) dX11_range_155 ?_
                refine g_eqI (pc := 156) hG (show (ac i9) = ((clF (stM p m) i9 : Nat) : Int) by exact hpt.2.2.2.1 i9 (by omega)) ?_
                refine g_laload (pc := 156) hG (2 + c) (clF (stM p m) i9) (rw_at [mdoC0 cI cL cZ ad (0) (((m : Nat) : Int)) (((n : Nat) : Int)) (yy) (k) (dn) (on) (tw) (bt) (bl) (bd) (((naM p m : Nat) : Int)) (dtM Gm p m) (tl6) (ul6) (th6) (uh6) (hd6) (cn), mgC0 cI cL cZ cX cG ad (29) (Gm)] _ 3 (fun i9 => (ad (30 + i9), aL cL 3 (Gm i9))) (by omega)) rfl (by omega) (by omega) (by decide) dX11_range_156 ?_
                refine g_aload_n (pc := 157) hG 1 rfl dX11_range_157 ?_
                refine g_get (pc := 158) hG fl11_74 0 rfl rfl dX11_range_158 ?_
                refine g_aload_n (pc := 161) hG 1 rfl dX11_range_161 ?_
                refine g_get (pc := 162) hG fl11_68 0 rfl rfl dX11_range_162 ?_
                refine g_iload (pc := 165) hG 4 rfl dX11_range_165 ?_
                refine g_iaload (pc := 167) hG 7 i9 rfl rfl (by omega) (by omega) (by decide) dX11_range_167 ?_
                refine g_eqI (pc := 168) hG (show (ac i9) = ((clF (stM p m) i9 : Nat) : Int) by exact hpt.2.2.2.1 i9 (by omega)) ?_
                refine g_laload (pc := 168) hG 9 (clF (stM p m) i9) rfl rfl (by omega) (by omega) (by decide) dX11_range_168 ?_
                refine g_lmul (pc := 169) hG dX11_range_169 ?_
                refine g_lsub (pc := 170) hG dX11_range_170 ?_
                refine g_nmL (pc := 171) hG (fun x171 ex171 => ?_)
                refine g_lstore (pc := 171) hG (by decide) (lv' := [(4, lV (x171)), (2, lV (x140)), (0, .ref (ad (0))), (1, iV (((c : Nat) : Int))), (6, iV (((i9 : Nat) : Int)))]) rfl dX11_range_171 ?_
                refine g_iinc (pc := 173) hG 4 rfl (by decide) (lv' := [(6, iV ((((i9 : Nat) : Int)) + 1)), (4, lV (x171)), (2, lV (x140)), (0, .ref (ad (0))), (1, iV (((c : Nat) : Int)))]) rfl dX11_range_173 ?_
                refine g_goto (pc := 176) hG (tgt := 102) (by decide) dX11_range_176 ?_
                exact g_lv (pc := 102) hG [3, 4, 2, 1, 0] rfl (ih102 x140 x171 (i9 + 1) (by omega) (by omega) (by rw [ex140, he9, hba2]; rfl) (by rw [ex171, hf9, hsl2]; rfl))
          exact g_lv (pc := 102) hG [3, 4, 2, 1, 0] rfl (L102 _ x95 0 0 (Nat.lt_succ_self _) (Nat.zero_le _) (by rw [ex95]; rfl) (rfl))
        · refine g_aload_n (pc := 44) hG 0 rfl dX11_range_44 ?_
          refine g_aload_n (pc := 45) hG 0 rfl dX11_range_45 ?_
          refine g_get (pc := 46) hG fl11_65 0 rfl rfl dX11_range_46 ?_
          refine g_iload_n (pc := 49) hG 1 rfl dX11_range_49 ?_
          refine g_iaload (pc := 50) hG 6 c rfl rfl (by omega) (by omega) (by decide) dX11_range_50 ?_
          refine g_eqI (pc := 51) hG (show sg c = sgM p c by exact hsgc) ?_
          refine g_i2l (pc := 51) hG (by omega) dX11_range_51 ?_
          refine g_aload_n (pc := 52) hG 0 rfl dX11_range_52 ?_
          refine g_get (pc := 53) hG fl11_71 0 rfl rfl dX11_range_53 ?_
          refine g_iload_n (pc := 56) hG 1 rfl dX11_range_56 ?_
          refine g_laload (pc := 57) hG 8 c rfl rfl (by omega) (by omega) (by decide) dX11_range_57 ?_
          refine g_eqL (pc := 58) hG (show ba c = baM Gm hh p m c by exact hba) ?_
          refine g_lmul (pc := 58) hG dX11_range_58 ?_
          refine g_aload_n (pc := 59) hG 0 rfl dX11_range_59 ?_
          refine g_get (pc := 60) hG fl11_65 0 rfl rfl dX11_range_60 ?_
          refine g_iload_n (pc := 63) hG 1 rfl dX11_range_63 ?_
          refine g_iaload (pc := 64) hG 6 c rfl rfl (by omega) (by omega) (by decide) dX11_range_64 ?_
          refine g_eqI (pc := 65) hG (show sg c = sgM p c by exact hsgc) ?_
          refine g_i2l (pc := 65) hG (by omega) dX11_range_65 ?_
          refine g_aload_n (pc := 66) hG 0 rfl dX11_range_66 ?_
          refine g_get (pc := 67) hG fl11_74 0 rfl rfl dX11_range_67 ?_
          refine g_iload_n (pc := 70) hG 1 rfl dX11_range_70 ?_
          refine g_laload (pc := 71) hG 9 c rfl rfl (by omega) (by omega) (by decide) dX11_range_71 ?_
          refine g_eqL (pc := 72) hG (show sl c = slM Gm p m c by exact hsl) ?_
          refine g_lmul (pc := 72) hG dX11_range_72 ?_
          refine g_iconst (pc := 73) hG dX11_range_73 ?_
          refine g_callV (pc := 74) hG (As := [lV ((sgM p c) * (baM Gm hh p m c)), lV ((sgM p c) * (slM Gm p m c)), iV (1)]) (rest := []) (c_X11_bound (l := l) (D := D) (cI := cI) (cL := cL) (cZ := cZ) (cX := cX) (cG := cG) ad m n yy k dn on tw bt bl bd (((naM p m : Nat) : Int)) (dtM Gm p m) tl6 ul6 th6 uh6 hd6 cn ((sgM p c) * (baM Gm hh p m c)) ((sgM p c) * (slM Gm p m c)) true (hab.2.2.2.2.1) (hab.2.2.2.2.2) (hrb6)) (Sp.mg [true] rfl) cv11_268 ⟨rfl, rfl⟩ ⟨Nat.le_of_ble_eq_true rfl, Nat.le_of_ble_eq_true rfl⟩ 0 rfl rfl rfl rfl (Nat.le_of_ble_eq_true rfl) dX11_range_74 (fun v w1 h => ?_)
          obtain ⟨hd2_74, tl2_74, ul2_74, th2_74, uh2_74, hbd_74, rfl, rfl⟩ := h
          show G 77 [(0, .ref (ad (0))), (1, iV (((c : Nat) : Int)))] [] ([mdoC0 cI cL cZ ad (0) (((m : Nat) : Int)) (((n : Nat) : Int)) (yy) (k) (dn) (on) (tw) (bt) (bl) (bd) (((naM p m : Nat) : Int)) (dtM Gm p m) (tl2_74) (ul2_74) (th2_74) (uh2_74) (hd2_74) (cn), mgC0 cI cL cZ cX cG ad (29) (Gm), mgC1 cI cL cZ cX cG ad (29) (Gm), mgC2 cI cL cZ cX cG ad (29) (Gm), mgC3 cI cL cZ cX cG ad (29) (Gm), l3C0 cI cL cZ ad (33) (hh), i3C0 cI cL cZ ad (46) (sg), i3C0 cI cL cZ ad (47) (ac), l3C0 cI cL cZ ad (48) (ba), l3C0 cI cL cZ ad (49) (sl)])
          refine g_goto (pc := 77) hG (tgt := 206) (by decide) dX11_range_77 ?_
          refine g_iinc (pc := 206) hG 1 rfl (by decide) (lv' := [(1, iV ((((c : Nat) : Int)) + 1)), (0, .ref (ad (0)))]) rfl dX11_range_206 ?_
          refine g_goto (pc := 209) hG (tgt := 27) (by decide) dX11_range_209 ?_
          exact g_lv (pc := 27) hG [1, 0] rfl (ih27 (c + 1) hd2_74 tl2_74 ul2_74 th2_74 uh2_74 (by omega) (by omega) (by first | (rw [hbd_74, hrg6]; show _ = rgC _ _ _ _ _ _; unfold rgC; rw [if_neg h41]) | (rw [hbd_203, hbd_190, hrg6, he9, hf9, show i9 = naM p m by omega]; show _ = rgC _ _ _ _ _ _; unfold rgC; rw [if_pos h41])))
  exact g_lv (pc := 27) hG [1, 0] rfl (L27 _ 0 true 0 1 0 0 (Nat.lt_succ_self _) (Nat.zero_le _) (rfl))
set_option maxHeartbeats 4000000 in
set_option maxRecDepth 100000 in
theorem c_X11_corner {l : Launch} {D : va_G} {cI cL cZ cX cG : ClassId} (ad : Nat → Nat) (m : Nat) (n : Nat) (yy : Int) (k : Int) (dn : Int) (on : Int) (tw : Int) (bt : Int) (bl : Int) (bd : Int) (na : Int) (dt : Int) (tl : Int) (ul : Int) (th : Int) (uh : Int) (hd : Bool) (nc : Nat) (ct : Nat → Int) (cw : Nat → Int) (t : Int) (b : Int) (hn : nc < 64) (hcr : CrI ct cw nc) (ht : B63 t) (hb : 0 ≤ b ∧ b ≤ 9223372036854775807) : Ct l D (gT cI cL cZ cX cG) yX11_corner cX11_corner 7 none ({ frames := 2, cells := 0, slots := 0, locals := 67 }) [.ref (ad (0)), lV (t), lV (b)] ([mdoC0 cI cL cZ ad (0) (((m : Nat) : Int)) (((n : Nat) : Int)) (yy) (k) (dn) (on) (tw) (bt) (bl) (bd) (na) (dt) (tl) (ul) (th) (uh) (hd) (((nc : Nat) : Int)), l64C0 cI cL cZ ad (50) (ct), l64C0 cI cL cZ ad (51) (cw)]) (fun vv_ ww_ => ∃ (ct2 : Nat → Int), ∃ (cw2 : Nat → Int), ∃ (nc2 : Nat), (CrR2 ct cw nc t b ct2 cw2 nc2) ∧ vv_ = none ∧ ww_ = [mdoC0 cI cL cZ ad (0) (((m : Nat) : Int)) (((n : Nat) : Int)) (yy) (k) (dn) (on) (tw) (bt) (bl) (bd) (na) (dt) (tl) (ul) (th) (uh) (hd) (((nc2 : Nat) : Int)), l64C0 cI cL cZ ad (50) (ct2), l64C0 cI cL cZ ad (51) (cw2)]) := by
  refine Ct.of (by decide) (Nat.le_of_ble_eq_true rfl) (fun G hG => ?_)
  show G 0 [(0, .ref (ad (0))), (1, lV (t)), (3, lV (b))] [] ([mdoC0 cI cL cZ ad (0) (((m : Nat) : Int)) (((n : Nat) : Int)) (yy) (k) (dn) (on) (tw) (bt) (bl) (bd) (na) (dt) (tl) (ul) (th) (uh) (hd) (((nc : Nat) : Int)), l64C0 cI cL cZ ad (50) (ct), l64C0 cI cL cZ ad (51) (cw)])
  have ht2 := ht
  unfold B63 at ht2
  refine g_lload_n (pc := 0) hG 1 rfl dX11_corner_0 ?_
  refine g_lconst (z := 0) (pc := 1) hG dX11_corner_1 (by decide) ?_
  have J12 : ∀ (_ : Unit), (((t = 0)) ∨ ((¬ t = 0) ∧ (b = 0))) → G 12 [(0, .ref (ad (0))), (1, lV (t)), (3, lV (b))] [] ([mdoC0 cI cL cZ ad (0) (((m : Nat) : Int)) (((n : Nat) : Int)) (yy) (k) (dn) (on) (tw) (bt) (bl) (bd) (na) (dt) (tl) (ul) (th) (uh) (hd) (((nc : Nat) : Int)), l64C0 cI cL cZ ad (50) (ct), l64C0 cI cL cZ ad (51) (cw)]) := by
    intro _ k12
    exact g_return (pc := 12) hG ⟨ct, cw, nc, Or.inl ⟨by omega, rfl, rfl, rfl⟩, rfl, rfl⟩ dX11_corner_12
  refine g_lc_eq (pc := 2) hG (by omega) (by omega) (tgt := 12) (by decide) dX11_corner_2 dX11_corner_3 (fun h2 => ?_) (fun h2 => ?_)
  · exact g_lv (pc := 12) hG [0, 1, 2] rfl (J12 () (Or.inl (h2)))
  · refine g_lload_n (pc := 6) hG 2 rfl dX11_corner_6 ?_
    refine g_lconst (z := 0) (pc := 7) hG dX11_corner_7 (by decide) ?_
    refine g_lc_ne (pc := 8) hG (by omega) (by omega) (tgt := 13) (by decide) dX11_corner_8 dX11_corner_9 (fun h8 => ?_) (fun h8 => ?_)
    · refine g_iconst (pc := 13) hG dX11_corner_13 ?_
      refine g_istore (pc := 14) hG (by decide) (lv' := [(5, iV (0)), (0, .ref (ad (0))), (1, lV (t)), (3, lV (b))]) rfl dX11_corner_14 ?_
      have L16 : ∀ (fu16 : Nat) (i : Nat), nc - i < fu16 → (i ≤ nc) → (∀ j, j < i → 0 < ct j * b - t * cw j) → G 16 [(0, .ref (ad (0))), (1, lV (t)), (3, lV (b)), (5, iV (((i : Nat) : Int)))] [] ([mdoC0 cI cL cZ ad (0) (((m : Nat) : Int)) (((n : Nat) : Int)) (yy) (k) (dn) (on) (tw) (bt) (bl) (bd) (na) (dt) (tl) (ul) (th) (uh) (hd) (((nc : Nat) : Int)), l64C0 cI cL cZ ad (50) (ct), l64C0 cI cL cZ ad (51) (cw)]) := by
        intro fu16
        induction fu16 with
        | zero => intro i hm; exact absurd hm (Nat.not_lt_zero _)
        | succ fu16 ih16 =>
          intro i hm16 hi9 hl
          refine g_iload (pc := 16) hG 3 rfl dX11_corner_16 ?_
          refine g_aload_n (pc := 18) hG 0 rfl dX11_corner_18 ?_
          refine g_get (pc := 19) hG fl11_272 0 rfl rfl dX11_corner_19 ?_
          refine g_icmp_ge (pc := 22) hG (by omega) (by omega) (tgt := 53) (by decide) dX11_corner_22 (fun h22 => ?_) (fun h22 => ?_)
          · refine g_iload (pc := 53) hG 3 rfl dX11_corner_53 ?_
            refine g_aload_n (pc := 55) hG 0 rfl dX11_corner_55 ?_
            refine g_get (pc := 56) hG fl11_272 0 rfl rfl dX11_corner_56 ?_
            have J85 : ∀ (_ : Unit), (((((nc : Nat) : Int) ≤ ((i : Nat) : Int))) ∨ ((¬ ((nc : Nat) : Int) ≤ ((i : Nat) : Int)) ∧ (¬ sgnZ ((ct i) * b - t * (cw i)) = 0))) → G 85 [(0, .ref (ad (0))), (1, lV (t)), (3, lV (b)), (5, iV (((i : Nat) : Int)))] [] ([mdoC0 cI cL cZ ad (0) (((m : Nat) : Int)) (((n : Nat) : Int)) (yy) (k) (dn) (on) (tw) (bt) (bl) (bd) (na) (dt) (tl) (ul) (th) (uh) (hd) (((nc : Nat) : Int)), l64C0 cI cL cZ ad (50) (ct), l64C0 cI cL cZ ad (51) (cw)]) := by
              intro _ k85
              have hb0 : b ≠ 0 := by omega
              refine g_aload_n (pc := 85) hG 0 rfl dX11_corner_85 ?_
              refine g_get (pc := 86) hG fl11_272 0 rfl rfl dX11_corner_86 ?_
              refine g_istore (pc := 89) hG (by decide) (lv' := [(6, iV (((nc : Nat) : Int))), (0, .ref (ad (0))), (1, lV (t)), (3, lV (b)), (5, iV (((i : Nat) : Int)))]) rfl dX11_corner_89 ?_
              have L91 : ∀ (fu91 : Nat) (j : Nat) (T9 : Nat → Int) (B9 : Nat → Int), j < fu91 → (i ≤ j ∧ j ≤ nc) → (ShR ct cw nc j T9 B9) → G 91 [(0, .ref (ad (0))), (1, lV (t)), (3, lV (b)), (5, iV (((i : Nat) : Int))), (6, iV (((j : Nat) : Int)))] [] ([mdoC0 cI cL cZ ad (0) (((m : Nat) : Int)) (((n : Nat) : Int)) (yy) (k) (dn) (on) (tw) (bt) (bl) (bd) (na) (dt) (tl) (ul) (th) (uh) (hd) (((nc : Nat) : Int)), l64C0 cI cL cZ ad (50) (T9), l64C0 cI cL cZ ad (51) (B9)]) := by
                intro fu91
                induction fu91 with
                | zero => intro j T9 B9 hm; exact absurd hm (Nat.not_lt_zero _)
                | succ fu91 ih91 =>
                  intro j T9 B9 hm91 hj h9
                  refine g_iload (pc := 91) hG 4 rfl dX11_corner_91 ?_
                  refine g_iload (pc := 93) hG 3 rfl dX11_corner_93 ?_
                  refine g_icmp_le (pc := 95) hG (by omega) (by omega) (tgt := 136) (by decide) dX11_corner_95 (fun h95 => ?_) (fun h95 => ?_)
                  · refine g_aload_n (pc := 136) hG 0 rfl dX11_corner_136 ?_
                    refine g_get (pc := 137) hG fl11_77 0 rfl rfl dX11_corner_137 ?_
                    refine g_iload (pc := 140) hG 3 rfl dX11_corner_140 ?_
                    refine g_lload_n (pc := 142) hG 1 rfl dX11_corner_142 ?_
                    refine g_lastore (pc := 143) hG 1 i rfl rfl (by omega) (by omega) (by decide) (ws' := [mdoC0 cI cL cZ ad (0) (((m : Nat) : Int)) (((n : Nat) : Int)) (yy) (k) (dn) (on) (tw) (bt) (bl) (bd) (na) (dt) (tl) (ul) (th) (uh) (hd) (((nc : Nat) : Int)), l64C0 cI cL cZ ad (50) (upZ T9 i t), l64C0 cI cL cZ ad (51) (B9)]) rfl dX11_corner_143 ?_
                    refine g_aload_n (pc := 144) hG 0 rfl dX11_corner_144 ?_
                    refine g_get (pc := 145) hG fl11_80 0 rfl rfl dX11_corner_145 ?_
                    refine g_iload (pc := 148) hG 3 rfl dX11_corner_148 ?_
                    refine g_lload_n (pc := 150) hG 2 rfl dX11_corner_150 ?_
                    refine g_lastore (pc := 151) hG 2 i rfl rfl (by omega) (by omega) (by decide) (ws' := [mdoC0 cI cL cZ ad (0) (((m : Nat) : Int)) (((n : Nat) : Int)) (yy) (k) (dn) (on) (tw) (bt) (bl) (bd) (na) (dt) (tl) (ul) (th) (uh) (hd) (((nc : Nat) : Int)), l64C0 cI cL cZ ad (50) (upZ T9 i t), l64C0 cI cL cZ ad (51) (upZ B9 i b)]) rfl dX11_corner_151 ?_
                    refine g_aload_n (pc := 152) hG 0 rfl dX11_corner_152 ?_
                    refine g_dup (pc := 153) hG rfl dX11_corner_153 ?_
                    refine g_get (pc := 154) hG fl11_272 0 rfl rfl dX11_corner_154 ?_
                    refine g_iconst (pc := 157) hG dX11_corner_157 ?_
                    refine g_iadd (pc := 158) hG dX11_corner_158 ?_
                    refine g_put (pc := 159) hG fp11_272 0 rfl rfl rfl (Nat.le_of_ble_eq_true rfl) (ws' := [mdoC0 cI cL cZ ad (0) (((m : Nat) : Int)) (((n : Nat) : Int)) (yy) (k) (dn) (on) (tw) (bt) (bl) (bd) (na) (dt) (tl) (ul) (th) (uh) (hd) (((nc + 1 : Nat) : Int)), l64C0 cI cL cZ ad (50) (upZ T9 i t), l64C0 cI cL cZ ad (51) (upZ B9 i b)]) rfl dX11_corner_159 ?_
                    exact g_return (pc := 162) hG ⟨upZ T9 i t, upZ B9 i b, nc + 1, Or.inr ⟨⟨h2, h8⟩, insM_yes hi9 hl (fun _ => by first | exact sgn_le h44 | omega) (fun q => by have q1 := q.1; have q2 := q.2; first | omega | (rcases k85 with r | r; omega; exact r.2 (by rw [q2]; rfl)) | exact h81 (by rw [q2]; rfl)) h9 (by omega)⟩, rfl, rfl⟩ dX11_corner_162
                  · refine g_aload_n (pc := 98) hG 0 rfl dX11_corner_98 ?_
                    refine g_get (pc := 99) hG fl11_77 0 rfl rfl dX11_corner_99 ?_
                    refine g_iload (pc := 102) hG 4 rfl dX11_corner_102 ?_
                    refine g_aload_n (pc := 104) hG 0 rfl dX11_corner_104 ?_
                    refine g_get (pc := 105) hG fl11_77 0 rfl rfl dX11_corner_105 ?_
                    refine g_iload (pc := 108) hG 4 rfl dX11_corner_108 ?_
                    refine g_iconst (pc := 110) hG dX11_corner_110 ?_
                    refine g_isub (pc := 111) hG dX11_corner_111 ?_
                    refine g_laload (pc := 112) hG 1 (j - 1) rfl rfl (by omega) (by omega) (by decide) dX11_corner_112 ?_
                    refine g_nmL (pc := 113) hG (fun x113 ex113 => ?_)
                    refine g_lastore (pc := 113) hG 1 j rfl rfl (by omega) (by omega) (by decide) (ws' := [mdoC0 cI cL cZ ad (0) (((m : Nat) : Int)) (((n : Nat) : Int)) (yy) (k) (dn) (on) (tw) (bt) (bl) (bd) (na) (dt) (tl) (ul) (th) (uh) (hd) (((nc : Nat) : Int)), l64C0 cI cL cZ ad (50) (upZ T9 j x113), l64C0 cI cL cZ ad (51) (B9)]) rfl dX11_corner_113 ?_
                    refine g_aload_n (pc := 114) hG 0 rfl dX11_corner_114 ?_
                    refine g_get (pc := 115) hG fl11_80 0 rfl rfl dX11_corner_115 ?_
                    refine g_iload (pc := 118) hG 4 rfl dX11_corner_118 ?_
                    refine g_aload_n (pc := 120) hG 0 rfl dX11_corner_120 ?_
                    refine g_get (pc := 121) hG fl11_80 0 rfl rfl dX11_corner_121 ?_
                    refine g_iload (pc := 124) hG 4 rfl dX11_corner_124 ?_
                    refine g_iconst (pc := 126) hG dX11_corner_126 ?_
                    refine g_isub (pc := 127) hG dX11_corner_127 ?_
                    refine g_laload (pc := 128) hG 2 (j - 1) rfl rfl (by omega) (by omega) (by decide) dX11_corner_128 ?_
                    refine g_nmL (pc := 129) hG (fun x129 ex129 => ?_)
                    refine g_lastore (pc := 129) hG 2 j rfl rfl (by omega) (by omega) (by decide) (ws' := [mdoC0 cI cL cZ ad (0) (((m : Nat) : Int)) (((n : Nat) : Int)) (yy) (k) (dn) (on) (tw) (bt) (bl) (bd) (na) (dt) (tl) (ul) (th) (uh) (hd) (((nc : Nat) : Int)), l64C0 cI cL cZ ad (50) (upZ T9 j x113), l64C0 cI cL cZ ad (51) (upZ B9 j x129)]) rfl dX11_corner_129 ?_
                    refine g_iincE (pc := 130) hG 4 rfl (by decide) (z' := ((j - 1 : Nat) : Int)) (by omega) (lv' := [(6, iV (((j - 1 : Nat) : Int))), (0, .ref (ad (0))), (1, lV (t)), (3, lV (b)), (5, iV (((i : Nat) : Int)))]) rfl dX11_corner_130 ?_
                    refine g_goto (pc := 133) hG (tgt := 91) (by decide) dX11_corner_133 ?_
                    exact g_lv (pc := 91) hG [1, 2, 3, 4, 0] rfl (ih91 (j - 1) (upZ T9 j x113) (upZ B9 j x129) (by omega) (by omega) (by rw [ex113, ex129]; exact h9.step (by omega) (by omega)))
              exact g_lv (pc := 91) hG [1, 2, 3, 4, 0] rfl (L91 _ nc ct cw (Nat.lt_succ_self _) (by omega) (ShR.init))
            refine g_icmp_ge (pc := 59) hG (by omega) (by omega) (tgt := 85) (by decide) dX11_corner_59 (fun h59 => ?_) (fun h59 => ?_)
            · exact g_lv (pc := 85) hG [0, 1, 2, 3] rfl (J85 () (Or.inl (h59)))
            · refine g_aload_n (pc := 62) hG 0 rfl dX11_corner_62 ?_
              refine g_get (pc := 63) hG fl11_77 0 rfl rfl dX11_corner_63 ?_
              refine g_iload (pc := 66) hG 3 rfl dX11_corner_66 ?_
              refine g_laload (pc := 68) hG 1 i rfl rfl (by omega) (by omega) (by decide) dX11_corner_68 ?_
              refine g_aload_n (pc := 69) hG 0 rfl dX11_corner_69 ?_
              refine g_get (pc := 70) hG fl11_80 0 rfl rfl dX11_corner_70 ?_
              refine g_iload (pc := 73) hG 3 rfl dX11_corner_73 ?_
              refine g_laload (pc := 75) hG 2 i rfl rfl (by omega) (by omega) (by decide) dX11_corner_75 ?_
              refine g_lload_n (pc := 76) hG 1 rfl dX11_corner_76 ?_
              refine g_lload_n (pc := 77) hG 2 rfl dX11_corner_77 ?_
              have hci := hcr.1 i (by omega)
              refine g_callP (pc := 78) hG (As := [lV (ct i), lV (cw i), lV (t), lV (b)]) (rest := []) (c_X11_compare (l := l) (D := D) (cI := cI) (cL := cL) (cZ := cZ) (cX := cX) (cG := cG) (ct i) (cw i) t b (hci.1) (hci.2) (ht) (by omega)) cs11_182 ⟨rfl, rfl⟩ ⟨Nat.le_of_ble_eq_true rfl, Nat.le_of_ble_eq_true rfl⟩ rfl rfl (Nat.le_of_ble_eq_true rfl) dX11_corner_78 (fun v h => ?_)
              obtain ⟨rfl, -⟩ := h
              show G 81 [(0, .ref (ad (0))), (1, lV (t)), (3, lV (b)), (5, iV (((i : Nat) : Int)))] [iV (sgnZ ((ct i) * b - t * (cw i)))] ([mdoC0 cI cL cZ ad (0) (((m : Nat) : Int)) (((n : Nat) : Int)) (yy) (k) (dn) (on) (tw) (bt) (bl) (bd) (na) (dt) (tl) (ul) (th) (uh) (hd) (((nc : Nat) : Int)), l64C0 cI cL cZ ad (50) (ct), l64C0 cI cL cZ ad (51) (cw)])
              have hsg := sgn_bd (ct i * b - t * cw i)
              refine g_if_ne (pc := 81) hG (by omega) (tgt := 85) (by decide) dX11_corner_81 (fun h81 => ?_) (fun h81 => ?_)
              · exact g_lv (pc := 85) hG [0, 1, 2, 3] rfl (J85 () (Or.inr (⟨h59, h81⟩)))
              · exact g_return (pc := 84) hG ⟨ct, cw, nc, Or.inr ⟨⟨h2, h8⟩, i, hi9, hl, fun _ => by have := sgn_z h81; omega, Or.inl ⟨⟨by omega, sgn_z h81⟩, rfl, rfl, rfl⟩⟩, rfl, rfl⟩ dX11_corner_84
          · refine g_aload_n (pc := 25) hG 0 rfl dX11_corner_25 ?_
            refine g_get (pc := 26) hG fl11_77 0 rfl rfl dX11_corner_26 ?_
            refine g_iload (pc := 29) hG 3 rfl dX11_corner_29 ?_
            refine g_laload (pc := 31) hG 1 i rfl rfl (by omega) (by omega) (by decide) dX11_corner_31 ?_
            refine g_aload_n (pc := 32) hG 0 rfl dX11_corner_32 ?_
            refine g_get (pc := 33) hG fl11_80 0 rfl rfl dX11_corner_33 ?_
            refine g_iload (pc := 36) hG 3 rfl dX11_corner_36 ?_
            refine g_laload (pc := 38) hG 2 i rfl rfl (by omega) (by omega) (by decide) dX11_corner_38 ?_
            refine g_lload_n (pc := 39) hG 1 rfl dX11_corner_39 ?_
            refine g_lload_n (pc := 40) hG 2 rfl dX11_corner_40 ?_
            have hci := hcr.1 i (by omega)
            refine g_callP (pc := 41) hG (As := [lV (ct i), lV (cw i), lV (t), lV (b)]) (rest := []) (c_X11_compare (l := l) (D := D) (cI := cI) (cL := cL) (cZ := cZ) (cX := cX) (cG := cG) (ct i) (cw i) t b (hci.1) (hci.2) (ht) (by omega)) cs11_182 ⟨rfl, rfl⟩ ⟨Nat.le_of_ble_eq_true rfl, Nat.le_of_ble_eq_true rfl⟩ rfl rfl (Nat.le_of_ble_eq_true rfl) dX11_corner_41 (fun v h => ?_)
            obtain ⟨rfl, -⟩ := h
            show G 44 [(0, .ref (ad (0))), (1, lV (t)), (3, lV (b)), (5, iV (((i : Nat) : Int)))] [iV (sgnZ ((ct i) * b - t * (cw i)))] ([mdoC0 cI cL cZ ad (0) (((m : Nat) : Int)) (((n : Nat) : Int)) (yy) (k) (dn) (on) (tw) (bt) (bl) (bd) (na) (dt) (tl) (ul) (th) (uh) (hd) (((nc : Nat) : Int)), l64C0 cI cL cZ ad (50) (ct), l64C0 cI cL cZ ad (51) (cw)])
            have hsg := sgn_bd (ct i * b - t * cw i)
            refine g_if_le (pc := 44) hG (by omega) (tgt := 53) (by decide) dX11_corner_44 (fun h44 => ?_) (fun h44 => ?_)
            · refine g_iload (pc := 53) hG 3 rfl dX11_corner_53 ?_
              refine g_aload_n (pc := 55) hG 0 rfl dX11_corner_55 ?_
              refine g_get (pc := 56) hG fl11_272 0 rfl rfl dX11_corner_56 ?_
              have J85 : ∀ (_ : Unit), (((((nc : Nat) : Int) ≤ ((i : Nat) : Int))) ∨ ((¬ ((nc : Nat) : Int) ≤ ((i : Nat) : Int)) ∧ (¬ sgnZ ((ct i) * b - t * (cw i)) = 0))) → G 85 [(0, .ref (ad (0))), (1, lV (t)), (3, lV (b)), (5, iV (((i : Nat) : Int)))] [] ([mdoC0 cI cL cZ ad (0) (((m : Nat) : Int)) (((n : Nat) : Int)) (yy) (k) (dn) (on) (tw) (bt) (bl) (bd) (na) (dt) (tl) (ul) (th) (uh) (hd) (((nc : Nat) : Int)), l64C0 cI cL cZ ad (50) (ct), l64C0 cI cL cZ ad (51) (cw)]) := by
                intro _ k85
                have hb0 : b ≠ 0 := by omega
                refine g_aload_n (pc := 85) hG 0 rfl dX11_corner_85 ?_
                refine g_get (pc := 86) hG fl11_272 0 rfl rfl dX11_corner_86 ?_
                refine g_istore (pc := 89) hG (by decide) (lv' := [(6, iV (((nc : Nat) : Int))), (0, .ref (ad (0))), (1, lV (t)), (3, lV (b)), (5, iV (((i : Nat) : Int)))]) rfl dX11_corner_89 ?_
                have L91 : ∀ (fu91 : Nat) (j : Nat) (T9 : Nat → Int) (B9 : Nat → Int), j < fu91 → (i ≤ j ∧ j ≤ nc) → (ShR ct cw nc j T9 B9) → G 91 [(0, .ref (ad (0))), (1, lV (t)), (3, lV (b)), (5, iV (((i : Nat) : Int))), (6, iV (((j : Nat) : Int)))] [] ([mdoC0 cI cL cZ ad (0) (((m : Nat) : Int)) (((n : Nat) : Int)) (yy) (k) (dn) (on) (tw) (bt) (bl) (bd) (na) (dt) (tl) (ul) (th) (uh) (hd) (((nc : Nat) : Int)), l64C0 cI cL cZ ad (50) (T9), l64C0 cI cL cZ ad (51) (B9)]) := by
                  intro fu91
                  induction fu91 with
                  | zero => intro j T9 B9 hm; exact absurd hm (Nat.not_lt_zero _)
                  | succ fu91 ih91 =>
                    intro j T9 B9 hm91 hj h9
                    refine g_iload (pc := 91) hG 4 rfl dX11_corner_91 ?_
                    refine g_iload (pc := 93) hG 3 rfl dX11_corner_93 ?_
                    refine g_icmp_le (pc := 95) hG (by omega) (by omega) (tgt := 136) (by decide) dX11_corner_95 (fun h95 => ?_) (fun h95 => ?_)
                    · refine g_aload_n (pc := 136) hG 0 rfl dX11_corner_136 ?_
                      refine g_get (pc := 137) hG fl11_77 0 rfl rfl dX11_corner_137 ?_
                      refine g_iload (pc := 140) hG 3 rfl dX11_corner_140 ?_
                      refine g_lload_n (pc := 142) hG 1 rfl dX11_corner_142 ?_
                      refine g_lastore (pc := 143) hG 1 i rfl rfl (by omega) (by omega) (by decide) (ws' := [mdoC0 cI cL cZ ad (0) (((m : Nat) : Int)) (((n : Nat) : Int)) (yy) (k) (dn) (on) (tw) (bt) (bl) (bd) (na) (dt) (tl) (ul) (th) (uh) (hd) (((nc : Nat) : Int)), l64C0 cI cL cZ ad (50) (upZ T9 i t), l64C0 cI cL cZ ad (51) (B9)]) rfl dX11_corner_143 ?_
                      refine g_aload_n (pc := 144) hG 0 rfl dX11_corner_144 ?_
                      refine g_get (pc := 145) hG fl11_80 0 rfl rfl dX11_corner_145 ?_
                      refine g_iload (pc := 148) hG 3 rfl dX11_corner_148 ?_
                      refine g_lload_n (pc := 150) hG 2 rfl dX11_corner_150 ?_
                      refine g_lastore (pc := 151) hG 2 i rfl rfl (by omega) (by omega) (by decide) (ws' := [mdoC0 cI cL cZ ad (0) (((m : Nat) : Int)) (((n : Nat) : Int)) (yy) (k) (dn) (on) (tw) (bt) (bl) (bd) (na) (dt) (tl) (ul) (th) (uh) (hd) (((nc : Nat) : Int)), l64C0 cI cL cZ ad (50) (upZ T9 i t), l64C0 cI cL cZ ad (51) (upZ B9 i b)]) rfl dX11_corner_151 ?_
                      refine g_aload_n (pc := 152) hG 0 rfl dX11_corner_152 ?_
                      refine g_dup (pc := 153) hG rfl dX11_corner_153 ?_
                      refine g_get (pc := 154) hG fl11_272 0 rfl rfl dX11_corner_154 ?_
                      refine g_iconst (pc := 157) hG dX11_corner_157 ?_
                      refine g_iadd (pc := 158) hG dX11_corner_158 ?_
                      refine g_put (pc := 159) hG fp11_272 0 rfl rfl rfl (Nat.le_of_ble_eq_true rfl) (ws' := [mdoC0 cI cL cZ ad (0) (((m : Nat) : Int)) (((n : Nat) : Int)) (yy) (k) (dn) (on) (tw) (bt) (bl) (bd) (na) (dt) (tl) (ul) (th) (uh) (hd) (((nc + 1 : Nat) : Int)), l64C0 cI cL cZ ad (50) (upZ T9 i t), l64C0 cI cL cZ ad (51) (upZ B9 i b)]) rfl dX11_corner_159 ?_
                      exact g_return (pc := 162) hG ⟨upZ T9 i t, upZ B9 i b, nc + 1, Or.inr ⟨⟨h2, h8⟩, insM_yes hi9 hl (fun _ => by first | exact sgn_le h44 | omega) (fun q => by have q1 := q.1; have q2 := q.2; first | omega | (rcases k85 with r | r; omega; exact r.2 (by rw [q2]; rfl)) | exact h81 (by rw [q2]; rfl)) h9 (by omega)⟩, rfl, rfl⟩ dX11_corner_162
                    · refine g_aload_n (pc := 98) hG 0 rfl dX11_corner_98 ?_
                      refine g_get (pc := 99) hG fl11_77 0 rfl rfl dX11_corner_99 ?_
                      refine g_iload (pc := 102) hG 4 rfl dX11_corner_102 ?_
                      refine g_aload_n (pc := 104) hG 0 rfl dX11_corner_104 ?_
                      refine g_get (pc := 105) hG fl11_77 0 rfl rfl dX11_corner_105 ?_
                      refine g_iload (pc := 108) hG 4 rfl dX11_corner_108 ?_
                      refine g_iconst (pc := 110) hG dX11_corner_110 ?_
                      refine g_isub (pc := 111) hG dX11_corner_111 ?_
                      refine g_laload (pc := 112) hG 1 (j - 1) rfl rfl (by omega) (by omega) (by decide) dX11_corner_112 ?_
                      refine g_nmL (pc := 113) hG (fun x113 ex113 => ?_)
                      refine g_lastore (pc := 113) hG 1 j rfl rfl (by omega) (by omega) (by decide) (ws' := [mdoC0 cI cL cZ ad (0) (((m : Nat) : Int)) (((n : Nat) : Int)) (yy) (k) (dn) (on) (tw) (bt) (bl) (bd) (na) (dt) (tl) (ul) (th) (uh) (hd) (((nc : Nat) : Int)), l64C0 cI cL cZ ad (50) (upZ T9 j x113), l64C0 cI cL cZ ad (51) (B9)]) rfl dX11_corner_113 ?_
                      refine g_aload_n (pc := 114) hG 0 rfl dX11_corner_114 ?_
                      refine g_get (pc := 115) hG fl11_80 0 rfl rfl dX11_corner_115 ?_
                      refine g_iload (pc := 118) hG 4 rfl dX11_corner_118 ?_
                      refine g_aload_n (pc := 120) hG 0 rfl dX11_corner_120 ?_
                      refine g_get (pc := 121) hG fl11_80 0 rfl rfl dX11_corner_121 ?_
                      refine g_iload (pc := 124) hG 4 rfl dX11_corner_124 ?_
                      refine g_iconst (pc := 126) hG dX11_corner_126 ?_
                      refine g_isub (pc := 127) hG dX11_corner_127 ?_
                      refine g_laload (pc := 128) hG 2 (j - 1) rfl rfl (by omega) (by omega) (by decide) dX11_corner_128 ?_
                      refine g_nmL (pc := 129) hG (fun x129 ex129 => ?_)
                      refine g_lastore (pc := 129) hG 2 j rfl rfl (by omega) (by omega) (by decide) (ws' := [mdoC0 cI cL cZ ad (0) (((m : Nat) : Int)) (((n : Nat) : Int)) (yy) (k) (dn) (on) (tw) (bt) (bl) (bd) (na) (dt) (tl) (ul) (th) (uh) (hd) (((nc : Nat) : Int)), l64C0 cI cL cZ ad (50) (upZ T9 j x113), l64C0 cI cL cZ ad (51) (upZ B9 j x129)]) rfl dX11_corner_129 ?_
                      refine g_iincE (pc := 130) hG 4 rfl (by decide) (z' := ((j - 1 : Nat) : Int)) (by omega) (lv' := [(6, iV (((j - 1 : Nat) : Int))), (0, .ref (ad (0))), (1, lV (t)), (3, lV (b)), (5, iV (((i : Nat) : Int)))]) rfl dX11_corner_130 ?_
                      refine g_goto (pc := 133) hG (tgt := 91) (by decide) dX11_corner_133 ?_
                      exact g_lv (pc := 91) hG [1, 2, 3, 4, 0] rfl (ih91 (j - 1) (upZ T9 j x113) (upZ B9 j x129) (by omega) (by omega) (by rw [ex113, ex129]; exact h9.step (by omega) (by omega)))
                exact g_lv (pc := 91) hG [1, 2, 3, 4, 0] rfl (L91 _ nc ct cw (Nat.lt_succ_self _) (by omega) (ShR.init))
              refine g_icmp_ge (pc := 59) hG (by omega) (by omega) (tgt := 85) (by decide) dX11_corner_59 (fun h59 => ?_) (fun h59 => ?_)
              · exact g_lv (pc := 85) hG [0, 1, 2, 3] rfl (J85 () (Or.inl (h59)))
              · refine g_aload_n (pc := 62) hG 0 rfl dX11_corner_62 ?_
                refine g_get (pc := 63) hG fl11_77 0 rfl rfl dX11_corner_63 ?_
                refine g_iload (pc := 66) hG 3 rfl dX11_corner_66 ?_
                refine g_laload (pc := 68) hG 1 i rfl rfl (by omega) (by omega) (by decide) dX11_corner_68 ?_
                refine g_aload_n (pc := 69) hG 0 rfl dX11_corner_69 ?_
                refine g_get (pc := 70) hG fl11_80 0 rfl rfl dX11_corner_70 ?_
                refine g_iload (pc := 73) hG 3 rfl dX11_corner_73 ?_
                refine g_laload (pc := 75) hG 2 i rfl rfl (by omega) (by omega) (by decide) dX11_corner_75 ?_
                refine g_lload_n (pc := 76) hG 1 rfl dX11_corner_76 ?_
                refine g_lload_n (pc := 77) hG 2 rfl dX11_corner_77 ?_
                have hci := hcr.1 i (by omega)
                refine g_callP (pc := 78) hG (As := [lV (ct i), lV (cw i), lV (t), lV (b)]) (rest := []) (c_X11_compare (l := l) (D := D) (cI := cI) (cL := cL) (cZ := cZ) (cX := cX) (cG := cG) (ct i) (cw i) t b (hci.1) (hci.2) (ht) (by omega)) cs11_182 ⟨rfl, rfl⟩ ⟨Nat.le_of_ble_eq_true rfl, Nat.le_of_ble_eq_true rfl⟩ rfl rfl (Nat.le_of_ble_eq_true rfl) dX11_corner_78 (fun v h => ?_)
                obtain ⟨rfl, -⟩ := h
                show G 81 [(0, .ref (ad (0))), (1, lV (t)), (3, lV (b)), (5, iV (((i : Nat) : Int)))] [iV (sgnZ ((ct i) * b - t * (cw i)))] ([mdoC0 cI cL cZ ad (0) (((m : Nat) : Int)) (((n : Nat) : Int)) (yy) (k) (dn) (on) (tw) (bt) (bl) (bd) (na) (dt) (tl) (ul) (th) (uh) (hd) (((nc : Nat) : Int)), l64C0 cI cL cZ ad (50) (ct), l64C0 cI cL cZ ad (51) (cw)])
                have hsg := sgn_bd (ct i * b - t * cw i)
                refine g_if_ne (pc := 81) hG (by omega) (tgt := 85) (by decide) dX11_corner_81 (fun h81 => ?_) (fun h81 => ?_)
                · exact g_lv (pc := 85) hG [0, 1, 2, 3] rfl (J85 () (Or.inr (⟨h59, h81⟩)))
                · exact g_return (pc := 84) hG ⟨ct, cw, nc, Or.inr ⟨⟨h2, h8⟩, i, hi9, hl, fun _ => by have := sgn_z h81; omega, Or.inl ⟨⟨by omega, sgn_z h81⟩, rfl, rfl, rfl⟩⟩, rfl, rfl⟩ dX11_corner_84
            · refine g_iinc (pc := 47) hG 3 rfl (by decide) (lv' := [(5, iV ((((i : Nat) : Int)) + 1)), (0, .ref (ad (0))), (1, lV (t)), (3, lV (b))]) rfl dX11_corner_47 ?_
              refine g_goto (pc := 50) hG (tgt := 16) (by decide) dX11_corner_50 ?_
              exact g_lv (pc := 16) hG [1, 2, 3, 0] rfl (ih16 (i + 1) (by omega) (by omega) (fun j hj => by rcases Nat.lt_or_ge j i with h | h; exact hl j h; rw [show j = i by omega]; exact sgn_gt h44))
      exact g_lv (pc := 16) hG [1, 2, 3, 0] rfl (L16 _ 0 (Nat.lt_succ_self _) (Nat.zero_le _) (fun j h => absurd h (Nat.not_lt_zero _)))
    · exact g_lv (pc := 12) hG [0, 1, 2] rfl (J12 () (Or.inr (⟨h2, h8⟩)))
set_option maxHeartbeats 4000000 in
set_option maxRecDepth 100000 in
theorem c_X11_findCorners {l : Launch} {D : va_G} {cI cL cZ cX cG : ClassId} (ad : Nat → Nat) (m : Nat) (n : Nat) (yy : Int) (k : Int) (dn : Int) (on : Int) (tw : Int) (bt : Int) (bl : Int) (bd : Int) (na : Int) (dt : Int) (tl : Int) (ul : Int) (th : Int) (uh : Int) (hd : Bool) (cn : Int) (Gm : Nat → Nat → Int) (Mm : Nat → Nat → Int) (hh : Nat → Int) (sg : Nat → Int) (ac : Nat → Int) (ba : Nat → Int) (sl : Nat → Int) (ct : Nat → Int) (cw : Nat → Int) (hm : 1 ≤ m ∧ m ≤ 3) (hGb : ∀ a b, a < m → b < m → -1944 ≤ Gm a b ∧ Gm a b ≤ 1944) (hhb : ∀ j, j < m → -21384 ≤ hh j ∧ hh j ≤ 21384) (hPa : ∀ p, p < 3 ^ m → PaB1 Gm hh m p) : Ct l D (gT cI cL cZ cX cG) yX11_findCorners cX11_findCorners 2 none ({ frames := 4, cells := 0, slots := 0, locals := 124 }) [.ref (ad (0))] ([mdoC0 cI cL cZ ad (0) (((m : Nat) : Int)) (((n : Nat) : Int)) (yy) (k) (dn) (on) (tw) (bt) (bl) (bd) (na) (dt) (tl) (ul) (th) (uh) (hd) (cn), mgC0 cI cL cZ cX cG ad (29) (Gm), mgC1 cI cL cZ cX cG ad (29) (Gm), mgC2 cI cL cZ cX cG ad (29) (Gm), mgC3 cI cL cZ cX cG ad (29) (Gm), mgC0 cI cL cZ cX cG ad (35) (Mm), mgC1 cI cL cZ cX cG ad (35) (Mm), mgC2 cI cL cZ cX cG ad (35) (Mm), mgC3 cI cL cZ cX cG ad (35) (Mm), l3C0 cI cL cZ ad (33) (hh), i3C0 cI cL cZ ad (46) (sg), i3C0 cI cL cZ ad (47) (ac), l3C0 cI cL cZ ad (48) (ba), l3C0 cI cL cZ ad (49) (sl), l64C0 cI cL cZ ad (50) (ct), l64C0 cI cL cZ ad (51) (cw)]) (fun vv_ ww_ => ∃ (na2 : Int), ∃ (dt2 : Int), ∃ (M2 : Nat → Nat → Int), ∃ (sg2 : Nat → Int), ∃ (ac2 : Nat → Int), ∃ (ba2 : Nat → Int), ∃ (sl2 : Nat → Int), ∃ (hd2 : Bool), ∃ (tl2 : Int), ∃ (ul2 : Int), ∃ (th2 : Int), ∃ (uh2 : Int), ∃ (ct2 : Nat → Int), ∃ (cw2 : Nat → Int), ∃ (nc2 : Nat), (CnI (EndP Gm hh m) (3 ^ m) ct2 cw2 nc2 ∧ nc2 ≤ 54) ∧ vv_ = none ∧ ww_ = [mdoC0 cI cL cZ ad (0) (((m : Nat) : Int)) (((n : Nat) : Int)) (yy) (k) (dn) (on) (tw) (bt) (bl) (bd) (na2) (dt2) (tl2) (ul2) (th2) (uh2) (hd2) (((nc2 : Nat) : Int)), mgC0 cI cL cZ cX cG ad (29) (Gm), mgC1 cI cL cZ cX cG ad (29) (Gm), mgC2 cI cL cZ cX cG ad (29) (Gm), mgC3 cI cL cZ cX cG ad (29) (Gm), mgC0 cI cL cZ cX cG ad (35) (M2), mgC1 cI cL cZ cX cG ad (35) (M2), mgC2 cI cL cZ cX cG ad (35) (M2), mgC3 cI cL cZ cX cG ad (35) (M2), l3C0 cI cL cZ ad (33) (hh), i3C0 cI cL cZ ad (46) (sg2), i3C0 cI cL cZ ad (47) (ac2), l3C0 cI cL cZ ad (48) (ba2), l3C0 cI cL cZ ad (49) (sl2), l64C0 cI cL cZ ad (50) (ct2), l64C0 cI cL cZ ad (51) (cw2)]) := by
  refine Ct.of (by decide) (Nat.le_of_ble_eq_true rfl) (fun G hG => ?_)
  show G 0 [(0, .ref (ad (0)))] [] ([mdoC0 cI cL cZ ad (0) (((m : Nat) : Int)) (((n : Nat) : Int)) (yy) (k) (dn) (on) (tw) (bt) (bl) (bd) (na) (dt) (tl) (ul) (th) (uh) (hd) (cn), mgC0 cI cL cZ cX cG ad (29) (Gm), mgC1 cI cL cZ cX cG ad (29) (Gm), mgC2 cI cL cZ cX cG ad (29) (Gm), mgC3 cI cL cZ cX cG ad (29) (Gm), mgC0 cI cL cZ cX cG ad (35) (Mm), mgC1 cI cL cZ cX cG ad (35) (Mm), mgC2 cI cL cZ cX cG ad (35) (Mm), mgC3 cI cL cZ cX cG ad (35) (Mm), l3C0 cI cL cZ ad (33) (hh), i3C0 cI cL cZ ad (46) (sg), i3C0 cI cL cZ ad (47) (ac), l3C0 cI cL cZ ad (48) (ba), l3C0 cI cL cZ ad (49) (sl), l64C0 cI cL cZ ad (50) (ct), l64C0 cI cL cZ ad (51) (cw)])
  refine g_aload_n (pc := 0) hG 0 rfl dX11_findCorners_0 ?_
  refine g_iconst (pc := 1) hG dX11_findCorners_1 ?_
  refine g_put (pc := 2) hG fp11_272 0 rfl rfl rfl (Nat.le_of_ble_eq_true rfl) (ws' := [mdoC0 cI cL cZ ad (0) (((m : Nat) : Int)) (((n : Nat) : Int)) (yy) (k) (dn) (on) (tw) (bt) (bl) (bd) (na) (dt) (tl) (ul) (th) (uh) (hd) (0), mgC0 cI cL cZ cX cG ad (29) (Gm), mgC1 cI cL cZ cX cG ad (29) (Gm), mgC2 cI cL cZ cX cG ad (29) (Gm), mgC3 cI cL cZ cX cG ad (29) (Gm), mgC0 cI cL cZ cX cG ad (35) (Mm), mgC1 cI cL cZ cX cG ad (35) (Mm), mgC2 cI cL cZ cX cG ad (35) (Mm), mgC3 cI cL cZ cX cG ad (35) (Mm), l3C0 cI cL cZ ad (33) (hh), i3C0 cI cL cZ ad (46) (sg), i3C0 cI cL cZ ad (47) (ac), l3C0 cI cL cZ ad (48) (ba), l3C0 cI cL cZ ad (49) (sl), l64C0 cI cL cZ ad (50) (ct), l64C0 cI cL cZ ad (51) (cw)]) rfl dX11_findCorners_2 ?_
  refine g_iconst (pc := 5) hG dX11_findCorners_5 ?_
  refine g_istore_n (pc := 6) hG (by decide) (lv' := [(1, iV (0)), (0, .ref (ad (0)))]) rfl dX11_findCorners_6 ?_
  have L7 : ∀ (fu7 : Nat) (p : Nat) (na6 : Int) (dt6 : Int) (M6 : Nat → Nat → Int) (sg6 : Nat → Int) (ac6 : Nat → Int) (ba6 : Nat → Int) (sl6 : Nat → Int) (T6 : Nat → Int) (B6 : Nat → Int) (n6 : Nat) (hd6 : Bool) (tl6 : Int) (ul6 : Int) (th6 : Int) (uh6 : Int), 3 ^ m - p < fu7 → (p ≤ 3 ^ m) → (n6 ≤ 2 * p) → (CnI (EndP Gm hh m) p T6 B6 n6) → G 7 [(0, .ref (ad (0))), (1, iV (((p : Nat) : Int)))] [] ([mdoC0 cI cL cZ ad (0) (((m : Nat) : Int)) (((n : Nat) : Int)) (yy) (k) (dn) (on) (tw) (bt) (bl) (bd) (na6) (dt6) (tl6) (ul6) (th6) (uh6) (hd6) (((n6 : Nat) : Int)), mgC0 cI cL cZ cX cG ad (29) (Gm), mgC1 cI cL cZ cX cG ad (29) (Gm), mgC2 cI cL cZ cX cG ad (29) (Gm), mgC3 cI cL cZ cX cG ad (29) (Gm), mgC0 cI cL cZ cX cG ad (35) (M6), mgC1 cI cL cZ cX cG ad (35) (M6), mgC2 cI cL cZ cX cG ad (35) (M6), mgC3 cI cL cZ cX cG ad (35) (M6), l3C0 cI cL cZ ad (33) (hh), i3C0 cI cL cZ ad (46) (sg6), i3C0 cI cL cZ ad (47) (ac6), l3C0 cI cL cZ ad (48) (ba6), l3C0 cI cL cZ ad (49) (sl6), l64C0 cI cL cZ ad (50) (T6), l64C0 cI cL cZ ad (51) (B6)]) := by
    intro fu7
    induction fu7 with
    | zero => intro p na6 dt6 M6 sg6 ac6 ba6 sl6 T6 B6 n6 hd6 tl6 ul6 th6 uh6 hm; exact absurd hm (Nat.not_lt_zero _)
    | succ fu7 ih7 =>
      intro p na6 dt6 M6 sg6 ac6 ba6 sl6 T6 B6 n6 hd6 tl6 ul6 th6 uh6 hm7 hpm hn6 hcn6
      have hp3 := pow3_le hm.2
      refine g_iload_n (pc := 7) hG 1 rfl dX11_findCorners_7 ?_
      refine g_aload_n (pc := 8) hG 0 rfl dX11_findCorners_8 ?_
      refine g_get (pc := 9) hG fl11_7 0 rfl rfl dX11_findCorners_9 ?_
      refine g_callP (pc := 12) hG (As := [iV (((m : Nat) : Int))]) (rest := [iV (((p : Nat) : Int))]) (c_X11_patterns (l := l) (D := D) (cI := cI) (cL := cL) (cZ := cZ) (cX := cX) (cG := cG) m (hm)) cs11_234 ⟨rfl, rfl⟩ ⟨Nat.le_of_ble_eq_true rfl, Nat.le_of_ble_eq_true rfl⟩ rfl rfl (Nat.le_of_ble_eq_true rfl) dX11_findCorners_12 (fun v h => ?_)
      obtain ⟨rfl, -⟩ := h
      show G 15 [(0, .ref (ad (0))), (1, iV (((p : Nat) : Int)))] [iV (((3 ^ m : Nat) : Int)), iV (((p : Nat) : Int))] ([mdoC0 cI cL cZ ad (0) (((m : Nat) : Int)) (((n : Nat) : Int)) (yy) (k) (dn) (on) (tw) (bt) (bl) (bd) (na6) (dt6) (tl6) (ul6) (th6) (uh6) (hd6) (((n6 : Nat) : Int)), mgC0 cI cL cZ cX cG ad (29) (Gm), mgC1 cI cL cZ cX cG ad (29) (Gm), mgC2 cI cL cZ cX cG ad (29) (Gm), mgC3 cI cL cZ cX cG ad (29) (Gm), mgC0 cI cL cZ cX cG ad (35) (M6), mgC1 cI cL cZ cX cG ad (35) (M6), mgC2 cI cL cZ cX cG ad (35) (M6), mgC3 cI cL cZ cX cG ad (35) (M6), l3C0 cI cL cZ ad (33) (hh), i3C0 cI cL cZ ad (46) (sg6), i3C0 cI cL cZ ad (47) (ac6), l3C0 cI cL cZ ad (48) (ba6), l3C0 cI cL cZ ad (49) (sl6), l64C0 cI cL cZ ad (50) (T6), l64C0 cI cL cZ ad (51) (B6)])
      refine g_icmp_ge (pc := 15) hG (by omega) (by omega) (tgt := 64) (by decide) dX11_findCorners_15 (fun h15 => ?_) (fun h15 => ?_)
      · exact g_return (pc := 64) hG ⟨na6, dt6, M6, sg6, ac6, ba6, sl6, hd6, tl6, ul6, th6, uh6, T6, B6, n6, ⟨(show p = 3 ^ m by omega) ▸ hcn6, by omega⟩, rfl, rfl⟩ dX11_findCorners_64
      · refine g_aload_n (pc := 18) hG 0 rfl dX11_findCorners_18 ?_
        refine g_iload_n (pc := 19) hG 1 rfl dX11_findCorners_19 ?_
        refine g_callV (pc := 20) hG (As := [iV (((p : Nat) : Int))]) (rest := []) (c_X11_pattern (l := l) (D := D) (cI := cI) (cL := cL) (cZ := cZ) (cX := cX) (cG := cG) ad m n yy k dn on tw bt bl bd na6 dt6 tl6 ul6 th6 uh6 hd6 (((n6 : Nat) : Int)) Gm M6 hh sg6 ac6 ba6 sl6 p (hm.2) (by omega)) (Sp.mg [true, true, true, true, true, true, true, true, true, true, true, true, true, true] rfl) cv11_237 ⟨rfl, rfl⟩ ⟨Nat.le_of_ble_eq_true rfl, Nat.le_of_ble_eq_true rfl⟩ 0 rfl rfl rfl rfl (Nat.le_of_ble_eq_true rfl) dX11_findCorners_20 (fun v w1 h => ?_)
        obtain ⟨na2_20, dt2_20, M2_20, sg2_20, ac2_20, ba2_20, sl2_20, hpt_20, rfl, rfl⟩ := h
        show G 23 [(0, .ref (ad (0))), (1, iV (((p : Nat) : Int)))] [] ([mdoC0 cI cL cZ ad (0) (((m : Nat) : Int)) (((n : Nat) : Int)) (yy) (k) (dn) (on) (tw) (bt) (bl) (bd) (na2_20) (dt2_20) (tl6) (ul6) (th6) (uh6) (hd6) (((n6 : Nat) : Int)), mgC0 cI cL cZ cX cG ad (29) (Gm), mgC1 cI cL cZ cX cG ad (29) (Gm), mgC2 cI cL cZ cX cG ad (29) (Gm), mgC3 cI cL cZ cX cG ad (29) (Gm), mgC0 cI cL cZ cX cG ad (35) (M2_20), mgC1 cI cL cZ cX cG ad (35) (M2_20), mgC2 cI cL cZ cX cG ad (35) (M2_20), mgC3 cI cL cZ cX cG ad (35) (M2_20), l3C0 cI cL cZ ad (33) (hh), i3C0 cI cL cZ ad (46) (sg2_20), i3C0 cI cL cZ ad (47) (ac2_20), l3C0 cI cL cZ ad (48) (ba2_20), l3C0 cI cL cZ ad (49) (sl2_20), l64C0 cI cL cZ ad (50) (T6), l64C0 cI cL cZ ad (51) (B6)])
        have hp1 := hpt_20.1
        have hp2 := hpt_20.2.1
        refine g_ws (pc := 23) hG (ws' := [mdoC0 cI cL cZ ad (0) (((m : Nat) : Int)) (((n : Nat) : Int)) (yy) (k) (dn) (on) (tw) (bt) (bl) (bd) (((naM p m : Nat) : Int)) (dtM Gm p m) (tl6) (ul6) (th6) (uh6) (hd6) (((n6 : Nat) : Int)), mgC0 cI cL cZ cX cG ad (29) (Gm), mgC1 cI cL cZ cX cG ad (29) (Gm), mgC2 cI cL cZ cX cG ad (29) (Gm), mgC3 cI cL cZ cX cG ad (29) (Gm), mgC0 cI cL cZ cX cG ad (35) (M2_20), mgC1 cI cL cZ cX cG ad (35) (M2_20), mgC2 cI cL cZ cX cG ad (35) (M2_20), mgC3 cI cL cZ cX cG ad (35) (M2_20), l3C0 cI cL cZ ad (33) (hh), i3C0 cI cL cZ ad (46) (sg2_20), i3C0 cI cL cZ ad (47) (ac2_20), l3C0 cI cL cZ ad (48) (ba2_20), l3C0 cI cL cZ ad (49) (sl2_20), l64C0 cI cL cZ ad (50) (T6), l64C0 cI cL cZ ad (51) (B6)]) (by rw [hp1, hp2]) ?_
        rw [hp1, hp2] at hpt_20
        refine g_aload_n (pc := 23) hG 0 rfl dX11_findCorners_23 ?_
        refine g_callV (pc := 24) hG (As := []) (rest := []) (c_X11_range (l := l) (D := D) (cI := cI) (cL := cL) (cZ := cZ) (cX := cX) (cG := cG) ad m n yy k dn on tw bt bl bd tl6 ul6 th6 uh6 hd6 (((n6 : Nat) : Int)) Gm hh sg2_20 ac2_20 ba2_20 sl2_20 p (hm.2) (hGb) (hhb) (by omega) (hpt_20) (hPa p (by omega))) (Sp.mg [true, true, true, true, true, false, false, false, false, true, true, true, true, true] rfl) cv11_275 ⟨rfl, rfl⟩ ⟨Nat.le_of_ble_eq_true rfl, Nat.le_of_ble_eq_true rfl⟩ 0 rfl rfl rfl rfl (Nat.le_of_ble_eq_true rfl) dX11_findCorners_24 (fun v w1 h => ?_)
        obtain ⟨hd2_24, tl2_24, ul2_24, th2_24, uh2_24, hrg_24, hrb_24, rfl, rfl⟩ := h
        show G 27 [(0, .ref (ad (0))), (1, iV (((p : Nat) : Int)))] [] ([mdoC0 cI cL cZ ad (0) (((m : Nat) : Int)) (((n : Nat) : Int)) (yy) (k) (dn) (on) (tw) (bt) (bl) (bd) (((naM p m : Nat) : Int)) (dtM Gm p m) (tl2_24) (ul2_24) (th2_24) (uh2_24) (hd2_24) (((n6 : Nat) : Int)), mgC0 cI cL cZ cX cG ad (29) (Gm), mgC1 cI cL cZ cX cG ad (29) (Gm), mgC2 cI cL cZ cX cG ad (29) (Gm), mgC3 cI cL cZ cX cG ad (29) (Gm), mgC0 cI cL cZ cX cG ad (35) (M2_20), mgC1 cI cL cZ cX cG ad (35) (M2_20), mgC2 cI cL cZ cX cG ad (35) (M2_20), mgC3 cI cL cZ cX cG ad (35) (M2_20), l3C0 cI cL cZ ad (33) (hh), i3C0 cI cL cZ ad (46) (sg2_20), i3C0 cI cL cZ ad (47) (ac2_20), l3C0 cI cL cZ ad (48) (ba2_20), l3C0 cI cL cZ ad (49) (sl2_20), l64C0 cI cL cZ ad (50) (T6), l64C0 cI cL cZ ad (51) (B6)])
        refine g_aload_n (pc := 27) hG 0 rfl dX11_findCorners_27 ?_
        refine g_get (pc := 28) hG fl11_252 0 rfl rfl dX11_findCorners_28 ?_
        refine g_ifb_eq (pc := 31) hG (tgt := 58) (by decide) dX11_findCorners_31 (fun h31 => ?_) (fun h31 => ?_)
        · refine g_iinc (pc := 58) hG 1 rfl (by decide) (lv' := [(1, iV ((((p : Nat) : Int)) + 1)), (0, .ref (ad (0)))]) rfl dX11_findCorners_58 ?_
          refine g_goto (pc := 61) hG (tgt := 7) (by decide) dX11_findCorners_61 ?_
          exact g_lv (pc := 7) hG [1, 0] rfl (ih7 (p + 1) (((naM p m : Nat) : Int)) (dtM Gm p m) M2_20 sg2_20 ac2_20 ba2_20 sl2_20 T6 B6 n6 hd2_24 tl2_24 ul2_24 th2_24 uh2_24 (by omega) (by omega) (by first | (have := hi_43.le; have := hi_55.le; omega) | omega) (by first | exact cn_skip hcn6 hrg_24 h31 | exact cn_step hcn6 (h31 ▸ hrg_24) (h31 ▸ hrb_24) hi_43 hi_55))
        · obtain ⟨hb1, hb2, hb3, hb4⟩ := id hrb_24
          simp only at hb2 hb4
          refine g_aload_n (pc := 34) hG 0 rfl dX11_findCorners_34 ?_
          refine g_aload_n (pc := 35) hG 0 rfl dX11_findCorners_35 ?_
          refine g_get (pc := 36) hG fl11_256 0 rfl rfl dX11_findCorners_36 ?_
          refine g_aload_n (pc := 39) hG 0 rfl dX11_findCorners_39 ?_
          refine g_get (pc := 40) hG fl11_259 0 rfl rfl dX11_findCorners_40 ?_
          refine g_callV (pc := 43) hG (As := [lV (tl2_24), lV (ul2_24)]) (rest := []) (c_X11_corner (l := l) (D := D) (cI := cI) (cL := cL) (cZ := cZ) (cX := cX) (cG := cG) ad m n yy k dn on tw bt bl bd (((naM p m : Nat) : Int)) (dtM Gm p m) tl2_24 ul2_24 th2_24 uh2_24 hd2_24 n6 T6 B6 tl2_24 ul2_24 (by omega) (hcn6.1) (hb1) (by omega)) (Sp.mg [true, false, false, false, false, false, false, false, false, false, false, false, false, false, true, true] rfl) cv11_278 ⟨rfl, rfl⟩ ⟨Nat.le_of_ble_eq_true rfl, Nat.le_of_ble_eq_true rfl⟩ 0 rfl rfl rfl rfl (Nat.le_of_ble_eq_true rfl) dX11_findCorners_43 (fun v w1 h => ?_)
          obtain ⟨ct2_43, cw2_43, nc2_43, hi_43, rfl, rfl⟩ := h
          show G 46 [(0, .ref (ad (0))), (1, iV (((p : Nat) : Int)))] [] ([mdoC0 cI cL cZ ad (0) (((m : Nat) : Int)) (((n : Nat) : Int)) (yy) (k) (dn) (on) (tw) (bt) (bl) (bd) (((naM p m : Nat) : Int)) (dtM Gm p m) (tl2_24) (ul2_24) (th2_24) (uh2_24) (hd2_24) (((nc2_43 : Nat) : Int)), mgC0 cI cL cZ cX cG ad (29) (Gm), mgC1 cI cL cZ cX cG ad (29) (Gm), mgC2 cI cL cZ cX cG ad (29) (Gm), mgC3 cI cL cZ cX cG ad (29) (Gm), mgC0 cI cL cZ cX cG ad (35) (M2_20), mgC1 cI cL cZ cX cG ad (35) (M2_20), mgC2 cI cL cZ cX cG ad (35) (M2_20), mgC3 cI cL cZ cX cG ad (35) (M2_20), l3C0 cI cL cZ ad (33) (hh), i3C0 cI cL cZ ad (46) (sg2_20), i3C0 cI cL cZ ad (47) (ac2_20), l3C0 cI cL cZ ad (48) (ba2_20), l3C0 cI cL cZ ad (49) (sl2_20), l64C0 cI cL cZ ad (50) (ct2_43), l64C0 cI cL cZ ad (51) (cw2_43)])
          have hle := hi_43.le
          refine g_aload_n (pc := 46) hG 0 rfl dX11_findCorners_46 ?_
          refine g_aload_n (pc := 47) hG 0 rfl dX11_findCorners_47 ?_
          refine g_get (pc := 48) hG fl11_265 0 rfl rfl dX11_findCorners_48 ?_
          refine g_aload_n (pc := 51) hG 0 rfl dX11_findCorners_51 ?_
          refine g_get (pc := 52) hG fl11_262 0 rfl rfl dX11_findCorners_52 ?_
          refine g_callV (pc := 55) hG (As := [lV (th2_24), lV (uh2_24)]) (rest := []) (c_X11_corner (l := l) (D := D) (cI := cI) (cL := cL) (cZ := cZ) (cX := cX) (cG := cG) ad m n yy k dn on tw bt bl bd (((naM p m : Nat) : Int)) (dtM Gm p m) tl2_24 ul2_24 th2_24 uh2_24 hd2_24 nc2_43 ct2_43 cw2_43 th2_24 uh2_24 (by omega) (hi_43.cr hcn6.1 hb1 (by omega)) (hb3) (hb4)) (Sp.mg [true, false, false, false, false, false, false, false, false, false, false, false, false, false, true, true] rfl) cv11_278 ⟨rfl, rfl⟩ ⟨Nat.le_of_ble_eq_true rfl, Nat.le_of_ble_eq_true rfl⟩ 0 rfl rfl rfl rfl (Nat.le_of_ble_eq_true rfl) dX11_findCorners_55 (fun v w1 h => ?_)
          obtain ⟨ct2_55, cw2_55, nc2_55, hi_55, rfl, rfl⟩ := h
          show G 58 [(0, .ref (ad (0))), (1, iV (((p : Nat) : Int)))] [] ([mdoC0 cI cL cZ ad (0) (((m : Nat) : Int)) (((n : Nat) : Int)) (yy) (k) (dn) (on) (tw) (bt) (bl) (bd) (((naM p m : Nat) : Int)) (dtM Gm p m) (tl2_24) (ul2_24) (th2_24) (uh2_24) (hd2_24) (((nc2_55 : Nat) : Int)), mgC0 cI cL cZ cX cG ad (29) (Gm), mgC1 cI cL cZ cX cG ad (29) (Gm), mgC2 cI cL cZ cX cG ad (29) (Gm), mgC3 cI cL cZ cX cG ad (29) (Gm), mgC0 cI cL cZ cX cG ad (35) (M2_20), mgC1 cI cL cZ cX cG ad (35) (M2_20), mgC2 cI cL cZ cX cG ad (35) (M2_20), mgC3 cI cL cZ cX cG ad (35) (M2_20), l3C0 cI cL cZ ad (33) (hh), i3C0 cI cL cZ ad (46) (sg2_20), i3C0 cI cL cZ ad (47) (ac2_20), l3C0 cI cL cZ ad (48) (ba2_20), l3C0 cI cL cZ ad (49) (sl2_20), l64C0 cI cL cZ ad (50) (ct2_55), l64C0 cI cL cZ ad (51) (cw2_55)])
          refine g_iinc (pc := 58) hG 1 rfl (by decide) (lv' := [(1, iV ((((p : Nat) : Int)) + 1)), (0, .ref (ad (0)))]) rfl dX11_findCorners_58 ?_
          refine g_goto (pc := 61) hG (tgt := 7) (by decide) dX11_findCorners_61 ?_
          exact g_lv (pc := 7) hG [1, 0] rfl (ih7 (p + 1) (((naM p m : Nat) : Int)) (dtM Gm p m) M2_20 sg2_20 ac2_20 ba2_20 sl2_20 ct2_55 cw2_55 nc2_55 hd2_24 tl2_24 ul2_24 th2_24 uh2_24 (by omega) (by omega) (by first | (have := hi_43.le; have := hi_55.le; omega) | omega) (by first | exact cn_skip hcn6 hrg_24 h31 | exact cn_step hcn6 (h31 ▸ hrg_24) (h31 ▸ hrb_24) hi_43 hi_55))
  exact g_lv (pc := 7) hG [1, 0] rfl (L7 _ 0 na dt Mm sg ac ba sl ct cw 0 hd tl ul th uh (Nat.lt_succ_self _) (Nat.zero_le _) (Nat.zero_le _) (CnI.init))
set_option maxHeartbeats 4000000 in
set_option maxRecDepth 100000 in
theorem c_X11_corners {l : Launch} {D : va_G} {cI cL cZ cX cG : ClassId} (ad : Nat → Nat) (m : Nat) (n : Nat) (yy : Int) (k : Int) (dn : Int) (on : Int) (tw : Int) (bt : Int) (bl : Int) (bd : Int) (na : Int) (dt : Int) (tl : Int) (ul : Int) (th : Int) (uh : Int) (hd : Bool) (cn : Int) (X : Nat → Nat → Int) (Y : Nat → Int) (K : Nat → Bool) (U : Nat → Bool) (Gm : Nat → Nat → Int) (hh : Nat → Int) (cl : Nat → Int) (Mm : Nat → Nat → Int) (nr : Nat → Int) (sg : Nat → Int) (ac : Nat → Int) (ba : Nat → Int) (sl : Nat → Int) (ct : Nat → Int) (cw : Nat → Int) (hm : 1 ≤ m ∧ m ≤ 3) (hB : MbB X Y n) (hPa : (¬ detM (gmA X K n) m = 0) → PaB (gmA X K n) (rhA X Y K n) m) : Ct l D (gT cI cL cZ cX cG) yX11_corners cX11_corners 1 (some .int) ({ frames := 5, cells := 0, slots := 0, locals := 145 }) [.ref (ad (0))] ([mdoC0 cI cL cZ ad (0) (((m : Nat) : Int)) (((n : Nat) : Int)) (yy) (k) (dn) (on) (tw) (bt) (bl) (bd) (na) (dt) (tl) (ul) (th) (uh) (hd) (cn), i24C0 cI cL cZ ad (26) (Y), z24C0 cI cL cZ ad (27) (K), z24C0 cI cL cZ ad (28) (U), mgC0 cI cL cZ cX cG ad (29) (Gm), mgC1 cI cL cZ cX cG ad (29) (Gm), mgC2 cI cL cZ cX cG ad (29) (Gm), mgC3 cI cL cZ cX cG ad (29) (Gm), i3C0 cI cL cZ ad (34) (cl), mgC0 cI cL cZ cX cG ad (35) (Mm), mgC1 cI cL cZ cX cG ad (35) (Mm), mgC2 cI cL cZ cX cG ad (35) (Mm), mgC3 cI cL cZ cX cG ad (35) (Mm), l3C0 cI cL cZ ad (41) (nr), l3C0 cI cL cZ ad (33) (hh), i3C0 cI cL cZ ad (46) (sg), i3C0 cI cL cZ ad (47) (ac), l3C0 cI cL cZ ad (48) (ba), l3C0 cI cL cZ ad (49) (sl), l64C0 cI cL cZ ad (50) (ct), l64C0 cI cL cZ ad (51) (cw), mxC0 cI cL cZ cX cG ad (1) (X), mxC1 cI cL cZ cX cG ad (1) (X), mxC2 cI cL cZ cX cG ad (1) (X), mxC3 cI cL cZ cX cG ad (1) (X), mxC4 cI cL cZ cX cG ad (1) (X), mxC5 cI cL cZ cX cG ad (1) (X), mxC6 cI cL cZ cX cG ad (1) (X), mxC7 cI cL cZ cX cG ad (1) (X), mxC8 cI cL cZ cX cG ad (1) (X), mxC9 cI cL cZ cX cG ad (1) (X), mxC10 cI cL cZ cX cG ad (1) (X), mxC11 cI cL cZ cX cG ad (1) (X), mxC12 cI cL cZ cX cG ad (1) (X), mxC13 cI cL cZ cX cG ad (1) (X), mxC14 cI cL cZ cX cG ad (1) (X), mxC15 cI cL cZ cX cG ad (1) (X), mxC16 cI cL cZ cX cG ad (1) (X), mxC17 cI cL cZ cX cG ad (1) (X), mxC18 cI cL cZ cX cG ad (1) (X), mxC19 cI cL cZ cX cG ad (1) (X), mxC20 cI cL cZ cX cG ad (1) (X), mxC21 cI cL cZ cX cG ad (1) (X), mxC22 cI cL cZ cX cG ad (1) (X), mxC23 cI cL cZ cX cG ad (1) (X), mxC24 cI cL cZ cX cG ad (1) (X)]) (fun vv_ ww_ => ∃ (v : Int), ∃ (U2 : Nat → Bool), ∃ (k2 : Int), ∃ (yy2 : Int), ∃ (G2 : Nat → Nat → Int), ∃ (h2 : Nat → Int), ∃ (cl2 : Nat → Int), ∃ (on2 : Int), ∃ (tw2 : Int), ∃ (M2 : Nat → Nat → Int), ∃ (n2 : Nat → Int), ∃ (na2 : Int), ∃ (dt2 : Int), ∃ (sg2 : Nat → Int), ∃ (ac2 : Nat → Int), ∃ (ba2 : Nat → Int), ∃ (sl2 : Nat → Int), ∃ (hd2 : Bool), ∃ (tl2 : Int), ∃ (ul2 : Int), ∃ (th2 : Int), ∃ (uh2 : Int), ∃ (ct2 : Nat → Int), ∃ (cw2 : Nat → Int), ∃ (cn2 : Int), (((¬ detM (gmA X K n) m = 0) ∧ ∃ T9 B9 q9, CnI (EndP (gmA X K n) (rhA X Y K n) m) (3 ^ m) T9 B9 q9 ∧ v = ((q9 : Nat) : Int)) ∨ (¬ (¬ detM (gmA X K n) m = 0) ∧ v = -1)) ∧ vv_ = some (iV (v)) ∧ ww_ = [mdoC0 cI cL cZ ad (0) (((m : Nat) : Int)) (((n : Nat) : Int)) (yy2) (k2) (dn) (on2) (tw2) (bt) (bl) (bd) (na2) (dt2) (tl2) (ul2) (th2) (uh2) (hd2) (cn2), i24C0 cI cL cZ ad (26) (Y), z24C0 cI cL cZ ad (27) (K), z24C0 cI cL cZ ad (28) (U2), mgC0 cI cL cZ cX cG ad (29) (G2), mgC1 cI cL cZ cX cG ad (29) (G2), mgC2 cI cL cZ cX cG ad (29) (G2), mgC3 cI cL cZ cX cG ad (29) (G2), i3C0 cI cL cZ ad (34) (cl2), mgC0 cI cL cZ cX cG ad (35) (M2), mgC1 cI cL cZ cX cG ad (35) (M2), mgC2 cI cL cZ cX cG ad (35) (M2), mgC3 cI cL cZ cX cG ad (35) (M2), l3C0 cI cL cZ ad (41) (n2), l3C0 cI cL cZ ad (33) (h2), i3C0 cI cL cZ ad (46) (sg2), i3C0 cI cL cZ ad (47) (ac2), l3C0 cI cL cZ ad (48) (ba2), l3C0 cI cL cZ ad (49) (sl2), l64C0 cI cL cZ ad (50) (ct2), l64C0 cI cL cZ ad (51) (cw2), mxC0 cI cL cZ cX cG ad (1) (X), mxC1 cI cL cZ cX cG ad (1) (X), mxC2 cI cL cZ cX cG ad (1) (X), mxC3 cI cL cZ cX cG ad (1) (X), mxC4 cI cL cZ cX cG ad (1) (X), mxC5 cI cL cZ cX cG ad (1) (X), mxC6 cI cL cZ cX cG ad (1) (X), mxC7 cI cL cZ cX cG ad (1) (X), mxC8 cI cL cZ cX cG ad (1) (X), mxC9 cI cL cZ cX cG ad (1) (X), mxC10 cI cL cZ cX cG ad (1) (X), mxC11 cI cL cZ cX cG ad (1) (X), mxC12 cI cL cZ cX cG ad (1) (X), mxC13 cI cL cZ cX cG ad (1) (X), mxC14 cI cL cZ cX cG ad (1) (X), mxC15 cI cL cZ cX cG ad (1) (X), mxC16 cI cL cZ cX cG ad (1) (X), mxC17 cI cL cZ cX cG ad (1) (X), mxC18 cI cL cZ cX cG ad (1) (X), mxC19 cI cL cZ cX cG ad (1) (X), mxC20 cI cL cZ cX cG ad (1) (X), mxC21 cI cL cZ cX cG ad (1) (X), mxC22 cI cL cZ cX cG ad (1) (X), mxC23 cI cL cZ cX cG ad (1) (X), mxC24 cI cL cZ cX cG ad (1) (X)]) := by
  refine Ct.of (by decide) (Nat.le_of_ble_eq_true rfl) (fun G hG => ?_)
  show G 0 [(0, .ref (ad (0)))] [] ([mdoC0 cI cL cZ ad (0) (((m : Nat) : Int)) (((n : Nat) : Int)) (yy) (k) (dn) (on) (tw) (bt) (bl) (bd) (na) (dt) (tl) (ul) (th) (uh) (hd) (cn), i24C0 cI cL cZ ad (26) (Y), z24C0 cI cL cZ ad (27) (K), z24C0 cI cL cZ ad (28) (U), mgC0 cI cL cZ cX cG ad (29) (Gm), mgC1 cI cL cZ cX cG ad (29) (Gm), mgC2 cI cL cZ cX cG ad (29) (Gm), mgC3 cI cL cZ cX cG ad (29) (Gm), i3C0 cI cL cZ ad (34) (cl), mgC0 cI cL cZ cX cG ad (35) (Mm), mgC1 cI cL cZ cX cG ad (35) (Mm), mgC2 cI cL cZ cX cG ad (35) (Mm), mgC3 cI cL cZ cX cG ad (35) (Mm), l3C0 cI cL cZ ad (41) (nr), l3C0 cI cL cZ ad (33) (hh), i3C0 cI cL cZ ad (46) (sg), i3C0 cI cL cZ ad (47) (ac), l3C0 cI cL cZ ad (48) (ba), l3C0 cI cL cZ ad (49) (sl), l64C0 cI cL cZ ad (50) (ct), l64C0 cI cL cZ ad (51) (cw), mxC0 cI cL cZ cX cG ad (1) (X), mxC1 cI cL cZ cX cG ad (1) (X), mxC2 cI cL cZ cX cG ad (1) (X), mxC3 cI cL cZ cX cG ad (1) (X), mxC4 cI cL cZ cX cG ad (1) (X), mxC5 cI cL cZ cX cG ad (1) (X), mxC6 cI cL cZ cX cG ad (1) (X), mxC7 cI cL cZ cX cG ad (1) (X), mxC8 cI cL cZ cX cG ad (1) (X), mxC9 cI cL cZ cX cG ad (1) (X), mxC10 cI cL cZ cX cG ad (1) (X), mxC11 cI cL cZ cX cG ad (1) (X), mxC12 cI cL cZ cX cG ad (1) (X), mxC13 cI cL cZ cX cG ad (1) (X), mxC14 cI cL cZ cX cG ad (1) (X), mxC15 cI cL cZ cX cG ad (1) (X), mxC16 cI cL cZ cX cG ad (1) (X), mxC17 cI cL cZ cX cG ad (1) (X), mxC18 cI cL cZ cX cG ad (1) (X), mxC19 cI cL cZ cX cG ad (1) (X), mxC20 cI cL cZ cX cG ad (1) (X), mxC21 cI cL cZ cX cG ad (1) (X), mxC22 cI cL cZ cX cG ad (1) (X), mxC23 cI cL cZ cX cG ad (1) (X), mxC24 cI cL cZ cX cG ad (1) (X)])
  refine g_aload_n (pc := 0) hG 0 rfl dX11_corners_0 ?_
  refine g_callV (pc := 1) hG (As := []) (rest := []) (c_X11_isWhole (l := l) (D := D) (cI := cI) (cL := cL) (cZ := cZ) (cX := cX) (cG := cG) ad m n yy k dn on tw bt bl bd na dt tl ul th uh hd cn X Y K U Gm hh cl Mm nr (hm.2) (hB)) (Sp.mg [true, true, true, true, true, true, true, true, true, true, true, true, true, true, true, false, false, false, false, false, false, true, true, true, true, true, true, true, true, true, true, true, true, true, true, true, true, true, true, true, true, true, true, true, true, true] rfl) cv11_214 ⟨rfl, rfl⟩ ⟨Nat.le_of_ble_eq_true rfl, Nat.le_of_ble_eq_true rfl⟩ 0 rfl rfl rfl rfl (Nat.le_of_ble_eq_true rfl) dX11_corners_1 (fun v w1 h => ?_)
  obtain ⟨U2_1, k2_1, yy2_1, G2_1, h2_1, cl2_1, on2_1, tw2_1, M2_1, n2_1, hall_1, rfl, rfl⟩ := h
  show G 4 [(0, .ref (ad (0)))] [bV (decide (¬ detM (gmA X K n) m = 0))] ([mdoC0 cI cL cZ ad (0) (((m : Nat) : Int)) (((n : Nat) : Int)) (yy2_1) (((k2_1 : Nat) : Int)) (dn) (on2_1) (tw2_1) (bt) (bl) (bd) (na) (dt) (tl) (ul) (th) (uh) (hd) (cn), i24C0 cI cL cZ ad (26) (Y), z24C0 cI cL cZ ad (27) (K), z24C0 cI cL cZ ad (28) (U2_1), mgC0 cI cL cZ cX cG ad (29) (G2_1), mgC1 cI cL cZ cX cG ad (29) (G2_1), mgC2 cI cL cZ cX cG ad (29) (G2_1), mgC3 cI cL cZ cX cG ad (29) (G2_1), i3C0 cI cL cZ ad (34) (cl2_1), mgC0 cI cL cZ cX cG ad (35) (M2_1), mgC1 cI cL cZ cX cG ad (35) (M2_1), mgC2 cI cL cZ cX cG ad (35) (M2_1), mgC3 cI cL cZ cX cG ad (35) (M2_1), l3C0 cI cL cZ ad (41) (n2_1), l3C0 cI cL cZ ad (33) (h2_1), i3C0 cI cL cZ ad (46) (sg), i3C0 cI cL cZ ad (47) (ac), l3C0 cI cL cZ ad (48) (ba), l3C0 cI cL cZ ad (49) (sl), l64C0 cI cL cZ ad (50) (ct), l64C0 cI cL cZ ad (51) (cw), mxC0 cI cL cZ cX cG ad (1) (X), mxC1 cI cL cZ cX cG ad (1) (X), mxC2 cI cL cZ cX cG ad (1) (X), mxC3 cI cL cZ cX cG ad (1) (X), mxC4 cI cL cZ cX cG ad (1) (X), mxC5 cI cL cZ cX cG ad (1) (X), mxC6 cI cL cZ cX cG ad (1) (X), mxC7 cI cL cZ cX cG ad (1) (X), mxC8 cI cL cZ cX cG ad (1) (X), mxC9 cI cL cZ cX cG ad (1) (X), mxC10 cI cL cZ cX cG ad (1) (X), mxC11 cI cL cZ cX cG ad (1) (X), mxC12 cI cL cZ cX cG ad (1) (X), mxC13 cI cL cZ cX cG ad (1) (X), mxC14 cI cL cZ cX cG ad (1) (X), mxC15 cI cL cZ cX cG ad (1) (X), mxC16 cI cL cZ cX cG ad (1) (X), mxC17 cI cL cZ cX cG ad (1) (X), mxC18 cI cL cZ cX cG ad (1) (X), mxC19 cI cL cZ cX cG ad (1) (X), mxC20 cI cL cZ cX cG ad (1) (X), mxC21 cI cL cZ cX cG ad (1) (X), mxC22 cI cL cZ cX cG ad (1) (X), mxC23 cI cL cZ cX cG ad (1) (X), mxC24 cI cL cZ cX cG ad (1) (X)])
  refine g_ifb_ne (pc := 4) hG (tgt := 9) (by decide) dX11_corners_4 (fun h4 => ?_) (fun h4 => ?_)
  · have hwh := of_decide_eq_true h4
    have hgb := hall_1.gb hm.2 hB
    have hG9 := hall_1.2.2.2
    have hh9 := hall_1.2.2.1
    have hpa9 := PaB_congr hm.2 hG9 hh9 (hPa hwh)
    refine g_aload_n (pc := 9) hG 0 rfl dX11_corners_9 ?_
    refine g_callV (pc := 10) hG (As := []) (rest := []) (c_X11_findCorners (l := l) (D := D) (cI := cI) (cL := cL) (cZ := cZ) (cX := cX) (cG := cG) ad m n yy2_1 (((k2_1 : Nat) : Int)) dn on2_1 tw2_1 bt bl bd na dt tl ul th uh hd cn G2_1 M2_1 h2_1 sg ac ba sl ct cw (hm) (hgb.1) (hgb.2.1) (hpa9)) (Sp.mg [true, false, false, false, true, true, true, true, false, true, true, true, true, false, true, true, true, true, true, true, true] rfl) cv11_282 ⟨rfl, rfl⟩ ⟨Nat.le_of_ble_eq_true rfl, Nat.le_of_ble_eq_true rfl⟩ 0 rfl rfl rfl rfl (Nat.le_of_ble_eq_true rfl) dX11_corners_10 (fun v w1 h => ?_)
    obtain ⟨na2_10, dt2_10, M2_10, sg2_10, ac2_10, ba2_10, sl2_10, hd2_10, tl2_10, ul2_10, th2_10, uh2_10, ct2_10, cw2_10, nc2_10, hcn_10, rfl, rfl⟩ := h
    show G 13 [(0, .ref (ad (0)))] [] ([mdoC0 cI cL cZ ad (0) (((m : Nat) : Int)) (((n : Nat) : Int)) (yy2_1) (((k2_1 : Nat) : Int)) (dn) (on2_1) (tw2_1) (bt) (bl) (bd) (na2_10) (dt2_10) (tl2_10) (ul2_10) (th2_10) (uh2_10) (hd2_10) (((nc2_10 : Nat) : Int)), i24C0 cI cL cZ ad (26) (Y), z24C0 cI cL cZ ad (27) (K), z24C0 cI cL cZ ad (28) (U2_1), mgC0 cI cL cZ cX cG ad (29) (G2_1), mgC1 cI cL cZ cX cG ad (29) (G2_1), mgC2 cI cL cZ cX cG ad (29) (G2_1), mgC3 cI cL cZ cX cG ad (29) (G2_1), i3C0 cI cL cZ ad (34) (cl2_1), mgC0 cI cL cZ cX cG ad (35) (M2_10), mgC1 cI cL cZ cX cG ad (35) (M2_10), mgC2 cI cL cZ cX cG ad (35) (M2_10), mgC3 cI cL cZ cX cG ad (35) (M2_10), l3C0 cI cL cZ ad (41) (n2_1), l3C0 cI cL cZ ad (33) (h2_1), i3C0 cI cL cZ ad (46) (sg2_10), i3C0 cI cL cZ ad (47) (ac2_10), l3C0 cI cL cZ ad (48) (ba2_10), l3C0 cI cL cZ ad (49) (sl2_10), l64C0 cI cL cZ ad (50) (ct2_10), l64C0 cI cL cZ ad (51) (cw2_10), mxC0 cI cL cZ cX cG ad (1) (X), mxC1 cI cL cZ cX cG ad (1) (X), mxC2 cI cL cZ cX cG ad (1) (X), mxC3 cI cL cZ cX cG ad (1) (X), mxC4 cI cL cZ cX cG ad (1) (X), mxC5 cI cL cZ cX cG ad (1) (X), mxC6 cI cL cZ cX cG ad (1) (X), mxC7 cI cL cZ cX cG ad (1) (X), mxC8 cI cL cZ cX cG ad (1) (X), mxC9 cI cL cZ cX cG ad (1) (X), mxC10 cI cL cZ cX cG ad (1) (X), mxC11 cI cL cZ cX cG ad (1) (X), mxC12 cI cL cZ cX cG ad (1) (X), mxC13 cI cL cZ cX cG ad (1) (X), mxC14 cI cL cZ cX cG ad (1) (X), mxC15 cI cL cZ cX cG ad (1) (X), mxC16 cI cL cZ cX cG ad (1) (X), mxC17 cI cL cZ cX cG ad (1) (X), mxC18 cI cL cZ cX cG ad (1) (X), mxC19 cI cL cZ cX cG ad (1) (X), mxC20 cI cL cZ cX cG ad (1) (X), mxC21 cI cL cZ cX cG ad (1) (X), mxC22 cI cL cZ cX cG ad (1) (X), mxC23 cI cL cZ cX cG ad (1) (X), mxC24 cI cL cZ cX cG ad (1) (X)])
    refine g_aload_n (pc := 13) hG 0 rfl dX11_corners_13 ?_
    refine g_get (pc := 14) hG fl11_272 0 rfl rfl dX11_corners_14 ?_
    exact g_ireturn (pc := 17) hG ⟨((nc2_10 : Nat) : Int), U2_1, ((k2_1 : Nat) : Int), yy2_1, G2_1, h2_1, cl2_1, on2_1, tw2_1, M2_10, n2_1, na2_10, dt2_10, sg2_10, ac2_10, ba2_10, sl2_10, hd2_10, tl2_10, ul2_10, th2_10, uh2_10, ct2_10, cw2_10, ((nc2_10 : Nat) : Int), Or.inl ⟨hwh, _, _, _, hcn_10.1.congr hm.2 hG9 hh9, rfl⟩, rfl, rfl⟩ dX11_corners_17
  · refine g_iconst (pc := 7) hG dX11_corners_7 ?_
    exact g_ireturn (pc := 8) hG ⟨-1, U2_1, ((k2_1 : Nat) : Int), yy2_1, G2_1, h2_1, cl2_1, on2_1, tw2_1, M2_1, n2_1, na, dt, sg, ac, ba, sl, hd, tl, ul, th, uh, ct, cw, cn, Or.inr ⟨of_decide_eq_false h4, rfl⟩, rfl, rfl⟩ dX11_corners_8
set_option maxHeartbeats 4000000 in
set_option maxRecDepth 100000 in
theorem c_X11_corner_ {l : Launch} {D : va_G} {cI cL cZ cX cG : ClassId} (ad : Nat → Nat) (m : Nat) (n : Nat) (yy : Int) (k : Int) (dn : Int) (on : Int) (tw : Int) (bt : Int) (bl : Int) (bd : Int) (na : Int) (dt : Int) (tl : Int) (ul : Int) (th : Int) (uh : Int) (hd : Bool) (cn : Int) (X : Nat → Nat → Int) (Y : Nat → Int) (K : Nat → Bool) (U : Nat → Bool) (Gm : Nat → Nat → Int) (hh : Nat → Int) (cl : Nat → Int) (Mm : Nat → Nat → Int) (nr : Nat → Int) (sg : Nat → Int) (ac : Nat → Int) (ba : Nat → Int) (sl : Nat → Int) (ct : Nat → Int) (cw : Nat → Int) (i : Int) (wh : Int) (hm : 1 ≤ m ∧ m ≤ 3) (hB : MbB X Y n) (hPa : (¬ detM (gmA X K n) m = 0) → PaB (gmA X K n) (rhA X Y K n) m) (hi : InI i) (hw : InI wh) : Ct l D (gT cI cL cZ cX cG) yX11_corner_ cX11_corner_ 3 (some .long) ({ frames := 5, cells := 0, slots := 0, locals := 145 }) [.ref (ad (0)), iV (i), iV (wh)] ([mdoC0 cI cL cZ ad (0) (((m : Nat) : Int)) (((n : Nat) : Int)) (yy) (k) (dn) (on) (tw) (bt) (bl) (bd) (na) (dt) (tl) (ul) (th) (uh) (hd) (cn), i24C0 cI cL cZ ad (26) (Y), z24C0 cI cL cZ ad (27) (K), z24C0 cI cL cZ ad (28) (U), mgC0 cI cL cZ cX cG ad (29) (Gm), mgC1 cI cL cZ cX cG ad (29) (Gm), mgC2 cI cL cZ cX cG ad (29) (Gm), mgC3 cI cL cZ cX cG ad (29) (Gm), i3C0 cI cL cZ ad (34) (cl), mgC0 cI cL cZ cX cG ad (35) (Mm), mgC1 cI cL cZ cX cG ad (35) (Mm), mgC2 cI cL cZ cX cG ad (35) (Mm), mgC3 cI cL cZ cX cG ad (35) (Mm), l3C0 cI cL cZ ad (41) (nr), l3C0 cI cL cZ ad (33) (hh), i3C0 cI cL cZ ad (46) (sg), i3C0 cI cL cZ ad (47) (ac), l3C0 cI cL cZ ad (48) (ba), l3C0 cI cL cZ ad (49) (sl), l64C0 cI cL cZ ad (50) (ct), l64C0 cI cL cZ ad (51) (cw), mxC0 cI cL cZ cX cG ad (1) (X), mxC1 cI cL cZ cX cG ad (1) (X), mxC2 cI cL cZ cX cG ad (1) (X), mxC3 cI cL cZ cX cG ad (1) (X), mxC4 cI cL cZ cX cG ad (1) (X), mxC5 cI cL cZ cX cG ad (1) (X), mxC6 cI cL cZ cX cG ad (1) (X), mxC7 cI cL cZ cX cG ad (1) (X), mxC8 cI cL cZ cX cG ad (1) (X), mxC9 cI cL cZ cX cG ad (1) (X), mxC10 cI cL cZ cX cG ad (1) (X), mxC11 cI cL cZ cX cG ad (1) (X), mxC12 cI cL cZ cX cG ad (1) (X), mxC13 cI cL cZ cX cG ad (1) (X), mxC14 cI cL cZ cX cG ad (1) (X), mxC15 cI cL cZ cX cG ad (1) (X), mxC16 cI cL cZ cX cG ad (1) (X), mxC17 cI cL cZ cX cG ad (1) (X), mxC18 cI cL cZ cX cG ad (1) (X), mxC19 cI cL cZ cX cG ad (1) (X), mxC20 cI cL cZ cX cG ad (1) (X), mxC21 cI cL cZ cX cG ad (1) (X), mxC22 cI cL cZ cX cG ad (1) (X), mxC23 cI cL cZ cX cG ad (1) (X), mxC24 cI cL cZ cX cG ad (1) (X)]) (fun vv_ ww_ => ∃ (v : Int), ∃ (U2 : Nat → Bool), ∃ (k2 : Int), ∃ (yy2 : Int), ∃ (G2 : Nat → Nat → Int), ∃ (h2 : Nat → Int), ∃ (cl2 : Nat → Int), ∃ (on2 : Int), ∃ (tw2 : Int), ∃ (M2 : Nat → Nat → Int), ∃ (n2 : Nat → Int), ∃ (na2 : Int), ∃ (dt2 : Int), ∃ (sg2 : Nat → Int), ∃ (ac2 : Nat → Int), ∃ (ba2 : Nat → Int), ∃ (sl2 : Nat → Int), ∃ (hd2 : Bool), ∃ (tl2 : Int), ∃ (ul2 : Int), ∃ (th2 : Int), ∃ (uh2 : Int), ∃ (ct2 : Nat → Int), ∃ (cw2 : Nat → Int), ∃ (cn2 : Int), (((¬ detM (gmA X K n) m = 0) ∧ ∃ T9 B9 q9, CnI (EndP (gmA X K n) (rhA X Y K n) m) (3 ^ m) T9 B9 q9 ∧ v = if 0 ≤ i ∧ i < ((q9 : Nat) : Int) then tellZ (T9 i.toNat) (B9 i.toNat) wh else -1) ∨ (¬ (¬ detM (gmA X K n) m = 0) ∧ v = -1)) ∧ vv_ = some (lV (v)) ∧ ww_ = [mdoC0 cI cL cZ ad (0) (((m : Nat) : Int)) (((n : Nat) : Int)) (yy2) (k2) (dn) (on2) (tw2) (bt) (bl) (bd) (na2) (dt2) (tl2) (ul2) (th2) (uh2) (hd2) (cn2), i24C0 cI cL cZ ad (26) (Y), z24C0 cI cL cZ ad (27) (K), z24C0 cI cL cZ ad (28) (U2), mgC0 cI cL cZ cX cG ad (29) (G2), mgC1 cI cL cZ cX cG ad (29) (G2), mgC2 cI cL cZ cX cG ad (29) (G2), mgC3 cI cL cZ cX cG ad (29) (G2), i3C0 cI cL cZ ad (34) (cl2), mgC0 cI cL cZ cX cG ad (35) (M2), mgC1 cI cL cZ cX cG ad (35) (M2), mgC2 cI cL cZ cX cG ad (35) (M2), mgC3 cI cL cZ cX cG ad (35) (M2), l3C0 cI cL cZ ad (41) (n2), l3C0 cI cL cZ ad (33) (h2), i3C0 cI cL cZ ad (46) (sg2), i3C0 cI cL cZ ad (47) (ac2), l3C0 cI cL cZ ad (48) (ba2), l3C0 cI cL cZ ad (49) (sl2), l64C0 cI cL cZ ad (50) (ct2), l64C0 cI cL cZ ad (51) (cw2), mxC0 cI cL cZ cX cG ad (1) (X), mxC1 cI cL cZ cX cG ad (1) (X), mxC2 cI cL cZ cX cG ad (1) (X), mxC3 cI cL cZ cX cG ad (1) (X), mxC4 cI cL cZ cX cG ad (1) (X), mxC5 cI cL cZ cX cG ad (1) (X), mxC6 cI cL cZ cX cG ad (1) (X), mxC7 cI cL cZ cX cG ad (1) (X), mxC8 cI cL cZ cX cG ad (1) (X), mxC9 cI cL cZ cX cG ad (1) (X), mxC10 cI cL cZ cX cG ad (1) (X), mxC11 cI cL cZ cX cG ad (1) (X), mxC12 cI cL cZ cX cG ad (1) (X), mxC13 cI cL cZ cX cG ad (1) (X), mxC14 cI cL cZ cX cG ad (1) (X), mxC15 cI cL cZ cX cG ad (1) (X), mxC16 cI cL cZ cX cG ad (1) (X), mxC17 cI cL cZ cX cG ad (1) (X), mxC18 cI cL cZ cX cG ad (1) (X), mxC19 cI cL cZ cX cG ad (1) (X), mxC20 cI cL cZ cX cG ad (1) (X), mxC21 cI cL cZ cX cG ad (1) (X), mxC22 cI cL cZ cX cG ad (1) (X), mxC23 cI cL cZ cX cG ad (1) (X), mxC24 cI cL cZ cX cG ad (1) (X)]) := by
  refine Ct.of (by decide) (Nat.le_of_ble_eq_true rfl) (fun G hG => ?_)
  show G 0 [(0, .ref (ad (0))), (1, iV (i)), (2, iV (wh))] [] ([mdoC0 cI cL cZ ad (0) (((m : Nat) : Int)) (((n : Nat) : Int)) (yy) (k) (dn) (on) (tw) (bt) (bl) (bd) (na) (dt) (tl) (ul) (th) (uh) (hd) (cn), i24C0 cI cL cZ ad (26) (Y), z24C0 cI cL cZ ad (27) (K), z24C0 cI cL cZ ad (28) (U), mgC0 cI cL cZ cX cG ad (29) (Gm), mgC1 cI cL cZ cX cG ad (29) (Gm), mgC2 cI cL cZ cX cG ad (29) (Gm), mgC3 cI cL cZ cX cG ad (29) (Gm), i3C0 cI cL cZ ad (34) (cl), mgC0 cI cL cZ cX cG ad (35) (Mm), mgC1 cI cL cZ cX cG ad (35) (Mm), mgC2 cI cL cZ cX cG ad (35) (Mm), mgC3 cI cL cZ cX cG ad (35) (Mm), l3C0 cI cL cZ ad (41) (nr), l3C0 cI cL cZ ad (33) (hh), i3C0 cI cL cZ ad (46) (sg), i3C0 cI cL cZ ad (47) (ac), l3C0 cI cL cZ ad (48) (ba), l3C0 cI cL cZ ad (49) (sl), l64C0 cI cL cZ ad (50) (ct), l64C0 cI cL cZ ad (51) (cw), mxC0 cI cL cZ cX cG ad (1) (X), mxC1 cI cL cZ cX cG ad (1) (X), mxC2 cI cL cZ cX cG ad (1) (X), mxC3 cI cL cZ cX cG ad (1) (X), mxC4 cI cL cZ cX cG ad (1) (X), mxC5 cI cL cZ cX cG ad (1) (X), mxC6 cI cL cZ cX cG ad (1) (X), mxC7 cI cL cZ cX cG ad (1) (X), mxC8 cI cL cZ cX cG ad (1) (X), mxC9 cI cL cZ cX cG ad (1) (X), mxC10 cI cL cZ cX cG ad (1) (X), mxC11 cI cL cZ cX cG ad (1) (X), mxC12 cI cL cZ cX cG ad (1) (X), mxC13 cI cL cZ cX cG ad (1) (X), mxC14 cI cL cZ cX cG ad (1) (X), mxC15 cI cL cZ cX cG ad (1) (X), mxC16 cI cL cZ cX cG ad (1) (X), mxC17 cI cL cZ cX cG ad (1) (X), mxC18 cI cL cZ cX cG ad (1) (X), mxC19 cI cL cZ cX cG ad (1) (X), mxC20 cI cL cZ cX cG ad (1) (X), mxC21 cI cL cZ cX cG ad (1) (X), mxC22 cI cL cZ cX cG ad (1) (X), mxC23 cI cL cZ cX cG ad (1) (X), mxC24 cI cL cZ cX cG ad (1) (X)])
  refine g_aload_n (pc := 0) hG 0 rfl dX11_corner__0 ?_
  refine g_callV (pc := 1) hG (As := []) (rest := []) (c_X11_isWhole (l := l) (D := D) (cI := cI) (cL := cL) (cZ := cZ) (cX := cX) (cG := cG) ad m n yy k dn on tw bt bl bd na dt tl ul th uh hd cn X Y K U Gm hh cl Mm nr (hm.2) (hB)) (Sp.mg [true, true, true, true, true, true, true, true, true, true, true, true, true, true, true, false, false, false, false, false, false, true, true, true, true, true, true, true, true, true, true, true, true, true, true, true, true, true, true, true, true, true, true, true, true, true] rfl) cv11_214 ⟨rfl, rfl⟩ ⟨Nat.le_of_ble_eq_true rfl, Nat.le_of_ble_eq_true rfl⟩ 0 rfl rfl rfl rfl (Nat.le_of_ble_eq_true rfl) dX11_corner__1 (fun v w1 h => ?_)
  obtain ⟨U2_1, k2_1, yy2_1, G2_1, h2_1, cl2_1, on2_1, tw2_1, M2_1, n2_1, hall_1, rfl, rfl⟩ := h
  show G 4 [(0, .ref (ad (0))), (1, iV (i)), (2, iV (wh))] [bV (decide (¬ detM (gmA X K n) m = 0))] ([mdoC0 cI cL cZ ad (0) (((m : Nat) : Int)) (((n : Nat) : Int)) (yy2_1) (((k2_1 : Nat) : Int)) (dn) (on2_1) (tw2_1) (bt) (bl) (bd) (na) (dt) (tl) (ul) (th) (uh) (hd) (cn), i24C0 cI cL cZ ad (26) (Y), z24C0 cI cL cZ ad (27) (K), z24C0 cI cL cZ ad (28) (U2_1), mgC0 cI cL cZ cX cG ad (29) (G2_1), mgC1 cI cL cZ cX cG ad (29) (G2_1), mgC2 cI cL cZ cX cG ad (29) (G2_1), mgC3 cI cL cZ cX cG ad (29) (G2_1), i3C0 cI cL cZ ad (34) (cl2_1), mgC0 cI cL cZ cX cG ad (35) (M2_1), mgC1 cI cL cZ cX cG ad (35) (M2_1), mgC2 cI cL cZ cX cG ad (35) (M2_1), mgC3 cI cL cZ cX cG ad (35) (M2_1), l3C0 cI cL cZ ad (41) (n2_1), l3C0 cI cL cZ ad (33) (h2_1), i3C0 cI cL cZ ad (46) (sg), i3C0 cI cL cZ ad (47) (ac), l3C0 cI cL cZ ad (48) (ba), l3C0 cI cL cZ ad (49) (sl), l64C0 cI cL cZ ad (50) (ct), l64C0 cI cL cZ ad (51) (cw), mxC0 cI cL cZ cX cG ad (1) (X), mxC1 cI cL cZ cX cG ad (1) (X), mxC2 cI cL cZ cX cG ad (1) (X), mxC3 cI cL cZ cX cG ad (1) (X), mxC4 cI cL cZ cX cG ad (1) (X), mxC5 cI cL cZ cX cG ad (1) (X), mxC6 cI cL cZ cX cG ad (1) (X), mxC7 cI cL cZ cX cG ad (1) (X), mxC8 cI cL cZ cX cG ad (1) (X), mxC9 cI cL cZ cX cG ad (1) (X), mxC10 cI cL cZ cX cG ad (1) (X), mxC11 cI cL cZ cX cG ad (1) (X), mxC12 cI cL cZ cX cG ad (1) (X), mxC13 cI cL cZ cX cG ad (1) (X), mxC14 cI cL cZ cX cG ad (1) (X), mxC15 cI cL cZ cX cG ad (1) (X), mxC16 cI cL cZ cX cG ad (1) (X), mxC17 cI cL cZ cX cG ad (1) (X), mxC18 cI cL cZ cX cG ad (1) (X), mxC19 cI cL cZ cX cG ad (1) (X), mxC20 cI cL cZ cX cG ad (1) (X), mxC21 cI cL cZ cX cG ad (1) (X), mxC22 cI cL cZ cX cG ad (1) (X), mxC23 cI cL cZ cX cG ad (1) (X), mxC24 cI cL cZ cX cG ad (1) (X)])
  refine g_ifb_ne (pc := 4) hG (tgt := 11) (by decide) dX11_corner__4 (fun h4 => ?_) (fun h4 => ?_)
  · have hwh := of_decide_eq_true h4
    have hgb := hall_1.gb hm.2 hB
    have hG9 := hall_1.2.2.2
    have hh9 := hall_1.2.2.1
    have hpa9 := PaB_congr hm.2 hG9 hh9 (hPa hwh)
    refine g_aload_n (pc := 11) hG 0 rfl dX11_corner__11 ?_
    refine g_callV (pc := 12) hG (As := []) (rest := []) (c_X11_findCorners (l := l) (D := D) (cI := cI) (cL := cL) (cZ := cZ) (cX := cX) (cG := cG) ad m n yy2_1 (((k2_1 : Nat) : Int)) dn on2_1 tw2_1 bt bl bd na dt tl ul th uh hd cn G2_1 M2_1 h2_1 sg ac ba sl ct cw (hm) (hgb.1) (hgb.2.1) (hpa9)) (Sp.mg [true, false, false, false, true, true, true, true, false, true, true, true, true, false, true, true, true, true, true, true, true] rfl) cv11_282 ⟨rfl, rfl⟩ ⟨Nat.le_of_ble_eq_true rfl, Nat.le_of_ble_eq_true rfl⟩ 0 rfl rfl rfl rfl (Nat.le_of_ble_eq_true rfl) dX11_corner__12 (fun v w1 h => ?_)
    obtain ⟨na2_12, dt2_12, M2_12, sg2_12, ac2_12, ba2_12, sl2_12, hd2_12, tl2_12, ul2_12, th2_12, uh2_12, ct2_12, cw2_12, nc2_12, hcn_12, rfl, rfl⟩ := h
    show G 15 [(0, .ref (ad (0))), (1, iV (i)), (2, iV (wh))] [] ([mdoC0 cI cL cZ ad (0) (((m : Nat) : Int)) (((n : Nat) : Int)) (yy2_1) (((k2_1 : Nat) : Int)) (dn) (on2_1) (tw2_1) (bt) (bl) (bd) (na2_12) (dt2_12) (tl2_12) (ul2_12) (th2_12) (uh2_12) (hd2_12) (((nc2_12 : Nat) : Int)), i24C0 cI cL cZ ad (26) (Y), z24C0 cI cL cZ ad (27) (K), z24C0 cI cL cZ ad (28) (U2_1), mgC0 cI cL cZ cX cG ad (29) (G2_1), mgC1 cI cL cZ cX cG ad (29) (G2_1), mgC2 cI cL cZ cX cG ad (29) (G2_1), mgC3 cI cL cZ cX cG ad (29) (G2_1), i3C0 cI cL cZ ad (34) (cl2_1), mgC0 cI cL cZ cX cG ad (35) (M2_12), mgC1 cI cL cZ cX cG ad (35) (M2_12), mgC2 cI cL cZ cX cG ad (35) (M2_12), mgC3 cI cL cZ cX cG ad (35) (M2_12), l3C0 cI cL cZ ad (41) (n2_1), l3C0 cI cL cZ ad (33) (h2_1), i3C0 cI cL cZ ad (46) (sg2_12), i3C0 cI cL cZ ad (47) (ac2_12), l3C0 cI cL cZ ad (48) (ba2_12), l3C0 cI cL cZ ad (49) (sl2_12), l64C0 cI cL cZ ad (50) (ct2_12), l64C0 cI cL cZ ad (51) (cw2_12), mxC0 cI cL cZ cX cG ad (1) (X), mxC1 cI cL cZ cX cG ad (1) (X), mxC2 cI cL cZ cX cG ad (1) (X), mxC3 cI cL cZ cX cG ad (1) (X), mxC4 cI cL cZ cX cG ad (1) (X), mxC5 cI cL cZ cX cG ad (1) (X), mxC6 cI cL cZ cX cG ad (1) (X), mxC7 cI cL cZ cX cG ad (1) (X), mxC8 cI cL cZ cX cG ad (1) (X), mxC9 cI cL cZ cX cG ad (1) (X), mxC10 cI cL cZ cX cG ad (1) (X), mxC11 cI cL cZ cX cG ad (1) (X), mxC12 cI cL cZ cX cG ad (1) (X), mxC13 cI cL cZ cX cG ad (1) (X), mxC14 cI cL cZ cX cG ad (1) (X), mxC15 cI cL cZ cX cG ad (1) (X), mxC16 cI cL cZ cX cG ad (1) (X), mxC17 cI cL cZ cX cG ad (1) (X), mxC18 cI cL cZ cX cG ad (1) (X), mxC19 cI cL cZ cX cG ad (1) (X), mxC20 cI cL cZ cX cG ad (1) (X), mxC21 cI cL cZ cX cG ad (1) (X), mxC22 cI cL cZ cX cG ad (1) (X), mxC23 cI cL cZ cX cG ad (1) (X), mxC24 cI cL cZ cX cG ad (1) (X)])
    refine g_iload_n (pc := 15) hG 1 rfl dX11_corner__15 ?_
    refine g_if_lt (pc := 16) hG (by omega) (tgt := 27) (by decide) dX11_corner__16 (fun h16 => ?_) (fun h16 => ?_)
    · refine g_ldc2 (z := -1) (pc := 27) hG (v := -1) (inB wd_935 rfl) (by decide) dX11_corner__27 ?_
      refine g_goto (pc := 30) hG (tgt := 49) (by decide) dX11_corner__30 ?_
      exact g_lreturn (pc := 49) hG ⟨-1, U2_1, ((k2_1 : Nat) : Int), yy2_1, G2_1, h2_1, cl2_1, on2_1, tw2_1, M2_12, n2_1, na2_12, dt2_12, sg2_12, ac2_12, ba2_12, sl2_12, hd2_12, tl2_12, ul2_12, th2_12, uh2_12, ct2_12, cw2_12, ((nc2_12 : Nat) : Int), Or.inl ⟨hwh, _, _, _, hcn_12.1.congr hm.2 hG9 hh9, by first | rw [if_pos (by omega)] | rw [if_neg (by omega)]⟩, rfl, rfl⟩ dX11_corner__49
    · refine g_iload_n (pc := 19) hG 1 rfl dX11_corner__19 ?_
      refine g_aload_n (pc := 20) hG 0 rfl dX11_corner__20 ?_
      refine g_get (pc := 21) hG fl11_272 0 rfl rfl dX11_corner__21 ?_
      refine g_icmp_lt (pc := 24) hG (by omega) (by have := hcn_12.2; omega) (tgt := 33) (by decide) dX11_corner__24 (fun h24 => ?_) (fun h24 => ?_)
      · have hci := hcn_12.1.1.1 i.toNat (by omega)
        have hc2 := hcn_12.2
        refine g_aload_n (pc := 33) hG 0 rfl dX11_corner__33 ?_
        refine g_get (pc := 34) hG fl11_77 0 rfl rfl dX11_corner__34 ?_
        refine g_iload_n (pc := 37) hG 1 rfl dX11_corner__37 ?_
        refine g_laload (pc := 38) hG 19 ((i).toNat) rfl rfl (by omega) (by omega) (by decide) dX11_corner__38 ?_
        refine g_aload_n (pc := 39) hG 0 rfl dX11_corner__39 ?_
        refine g_get (pc := 40) hG fl11_80 0 rfl rfl dX11_corner__40 ?_
        refine g_iload_n (pc := 43) hG 1 rfl dX11_corner__43 ?_
        refine g_laload (pc := 44) hG 20 ((i).toNat) rfl rfl (by omega) (by omega) (by decide) dX11_corner__44 ?_
        refine g_iload_n (pc := 45) hG 2 rfl dX11_corner__45 ?_
        refine g_callP (pc := 46) hG (As := [lV (ct2_12 ((i).toNat)), lV (cw2_12 ((i).toNat)), iV (wh)]) (rest := []) (c_X11_told (l := l) (D := D) (cI := cI) (cL := cL) (cZ := cZ) (cX := cX) (cG := cG) (ct2_12 ((i).toNat)) (cw2_12 ((i).toNat)) wh (hci.1) (by omega) (hw) (by omega)) cs11_163 ⟨rfl, rfl⟩ ⟨Nat.le_of_ble_eq_true rfl, Nat.le_of_ble_eq_true rfl⟩ rfl rfl (Nat.le_of_ble_eq_true rfl) dX11_corner__46 (fun v h => ?_)
        obtain ⟨rfl, -⟩ := h
        show G 49 [(0, .ref (ad (0))), (1, iV (i)), (2, iV (wh))] [lV (tellZ (ct2_12 ((i).toNat)) (cw2_12 ((i).toNat)) wh)] ([mdoC0 cI cL cZ ad (0) (((m : Nat) : Int)) (((n : Nat) : Int)) (yy2_1) (((k2_1 : Nat) : Int)) (dn) (on2_1) (tw2_1) (bt) (bl) (bd) (na2_12) (dt2_12) (tl2_12) (ul2_12) (th2_12) (uh2_12) (hd2_12) (((nc2_12 : Nat) : Int)), i24C0 cI cL cZ ad (26) (Y), z24C0 cI cL cZ ad (27) (K), z24C0 cI cL cZ ad (28) (U2_1), mgC0 cI cL cZ cX cG ad (29) (G2_1), mgC1 cI cL cZ cX cG ad (29) (G2_1), mgC2 cI cL cZ cX cG ad (29) (G2_1), mgC3 cI cL cZ cX cG ad (29) (G2_1), i3C0 cI cL cZ ad (34) (cl2_1), mgC0 cI cL cZ cX cG ad (35) (M2_12), mgC1 cI cL cZ cX cG ad (35) (M2_12), mgC2 cI cL cZ cX cG ad (35) (M2_12), mgC3 cI cL cZ cX cG ad (35) (M2_12), l3C0 cI cL cZ ad (41) (n2_1), l3C0 cI cL cZ ad (33) (h2_1), i3C0 cI cL cZ ad (46) (sg2_12), i3C0 cI cL cZ ad (47) (ac2_12), l3C0 cI cL cZ ad (48) (ba2_12), l3C0 cI cL cZ ad (49) (sl2_12), l64C0 cI cL cZ ad (50) (ct2_12), l64C0 cI cL cZ ad (51) (cw2_12), mxC0 cI cL cZ cX cG ad (1) (X), mxC1 cI cL cZ cX cG ad (1) (X), mxC2 cI cL cZ cX cG ad (1) (X), mxC3 cI cL cZ cX cG ad (1) (X), mxC4 cI cL cZ cX cG ad (1) (X), mxC5 cI cL cZ cX cG ad (1) (X), mxC6 cI cL cZ cX cG ad (1) (X), mxC7 cI cL cZ cX cG ad (1) (X), mxC8 cI cL cZ cX cG ad (1) (X), mxC9 cI cL cZ cX cG ad (1) (X), mxC10 cI cL cZ cX cG ad (1) (X), mxC11 cI cL cZ cX cG ad (1) (X), mxC12 cI cL cZ cX cG ad (1) (X), mxC13 cI cL cZ cX cG ad (1) (X), mxC14 cI cL cZ cX cG ad (1) (X), mxC15 cI cL cZ cX cG ad (1) (X), mxC16 cI cL cZ cX cG ad (1) (X), mxC17 cI cL cZ cX cG ad (1) (X), mxC18 cI cL cZ cX cG ad (1) (X), mxC19 cI cL cZ cX cG ad (1) (X), mxC20 cI cL cZ cX cG ad (1) (X), mxC21 cI cL cZ cX cG ad (1) (X), mxC22 cI cL cZ cX cG ad (1) (X), mxC23 cI cL cZ cX cG ad (1) (X), mxC24 cI cL cZ cX cG ad (1) (X)])
        exact g_lreturn (pc := 49) hG ⟨tellZ (ct2_12 ((i).toNat)) (cw2_12 ((i).toNat)) wh, U2_1, ((k2_1 : Nat) : Int), yy2_1, G2_1, h2_1, cl2_1, on2_1, tw2_1, M2_12, n2_1, na2_12, dt2_12, sg2_12, ac2_12, ba2_12, sl2_12, hd2_12, tl2_12, ul2_12, th2_12, uh2_12, ct2_12, cw2_12, ((nc2_12 : Nat) : Int), Or.inl ⟨hwh, _, _, _, hcn_12.1.congr hm.2 hG9 hh9, by first | rw [if_pos (by omega)] | rw [if_neg (by omega)]⟩, rfl, rfl⟩ dX11_corner__49
      · refine g_ldc2 (z := -1) (pc := 27) hG (v := -1) (inB wd_935 rfl) (by decide) dX11_corner__27 ?_
        refine g_goto (pc := 30) hG (tgt := 49) (by decide) dX11_corner__30 ?_
        exact g_lreturn (pc := 49) hG ⟨-1, U2_1, ((k2_1 : Nat) : Int), yy2_1, G2_1, h2_1, cl2_1, on2_1, tw2_1, M2_12, n2_1, na2_12, dt2_12, sg2_12, ac2_12, ba2_12, sl2_12, hd2_12, tl2_12, ul2_12, th2_12, uh2_12, ct2_12, cw2_12, ((nc2_12 : Nat) : Int), Or.inl ⟨hwh, _, _, _, hcn_12.1.congr hm.2 hG9 hh9, by first | rw [if_pos (by omega)] | rw [if_neg (by omega)]⟩, rfl, rfl⟩ dX11_corner__49
  · refine g_ldc2 (z := -1) (pc := 7) hG (v := -1) (inB wd_935 rfl) (by decide) dX11_corner__7 ?_
    exact g_lreturn (pc := 10) hG ⟨-1, U2_1, ((k2_1 : Nat) : Int), yy2_1, G2_1, h2_1, cl2_1, on2_1, tw2_1, M2_1, n2_1, na, dt, sg, ac, ba, sl, hd, tl, ul, th, uh, ct, cw, cn, Or.inr ⟨of_decide_eq_false h4, rfl⟩, rfl, rfl⟩ dX11_corner__10
