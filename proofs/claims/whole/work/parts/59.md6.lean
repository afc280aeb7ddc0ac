set_option maxHeartbeats 4000000 in
set_option maxRecDepth 100000 in
theorem c_J13_signum_95d88 {l : Launch} {D : va_G} {cI cL cZ cX cG : ClassId} (a : Int) (ha : -9223372036854775807 ≤ a ∧ a ≤ 9223372036854775807) : Ct l D (gT cI cL cZ cX cG) yJ13_signum_95d88 cJ13_signum_95d88 2 (some .int) ({ frames := 0, cells := 0, slots := 0, locals := 0 }) [lV (a)] ([]) (fun vv_ ww_ => vv_ = some (iV (sgnZ a)) ∧ ww_ = []) := by
  refine Ct.ofF (by decide +kernel) (Nat.le_of_ble_eq_true rfl) (fun G hG => ?_)
  show G 0 [(0, lV (a))] [] ([])
  refine g_lload_n (pc := 0) hG 0 rfl dJ13_signum_95d88_0 ?_
  refine g_bipush (pc := 1) hG dJ13_signum_95d88_1 (by decide) ?_
  refine g_lshr (z := if a < 0 then -1 else 0) (pc := 3) hG (by exact sg_shr (by omega)) dJ13_signum_95d88_3 ?_
  refine g_lload_n (pc := 4) hG 0 rfl dJ13_signum_95d88_4 ?_
  refine g_lneg (pc := 5) hG dJ13_signum_95d88_5 ?_
  refine g_bipush (pc := 6) hG dJ13_signum_95d88_6 (by decide) ?_
  refine g_lushr (z := if -a < 0 then 1 else 0) (pc := 8) hG (by exact sg_ushr (a := -a) (by omega)) dJ13_signum_95d88_8 ?_
  refine g_lor (z := sgnZ a) (pc := 9) hG (by exact sg_or) dJ13_signum_95d88_9 ?_
  refine g_l2i (z := sgnZ a) (pc := 10) hG (by exact sg_2i) dJ13_signum_95d88_10 ?_
  exact g_ireturn (pc := 11) hG ⟨rfl, rfl⟩ dJ13_signum_95d88_11
set_option maxHeartbeats 4000000 in
set_option maxRecDepth 100000 in
theorem c_X11_pattern {l : Launch} {D : va_G} {cI cL cZ cX cG : ClassId} (ad : Nat → Nat) (m : Nat) (n : Nat) (yy : Int) (k : Int) (dn : Int) (on : Int) (tw : Int) (bt : Int) (bl : Int) (bd : Int) (na : Int) (dt : Int) (tl : Int) (ul : Int) (th : Int) (uh : Int) (hd : Bool) (cn : Int) (Gm : Nat → Nat → Int) (Mm : Nat → Nat → Int) (hh : Nat → Int) (sg : Nat → Int) (ac : Nat → Int) (ba : Nat → Int) (sl : Nat → Int) (p : Nat) (hm : m ≤ 3) (hp : p < 27) : Ct l D (gT cI cL cZ cX cG) yX11_pattern cX11_pattern 7 none ({ frames := 2, cells := 0, slots := 0, locals := 47 }) [.ref (ad (0)), iV (((p : Nat) : Int))] ([mdoC0 cI cL cZ ad (0) (((m : Nat) : Int)) (((n : Nat) : Int)) (yy) (k) (dn) (on) (tw) (bt) (bl) (bd) (na) (dt) (tl) (ul) (th) (uh) (hd) (cn), mgC0 cI cL cZ cX cG ad (29) (Gm), mgC1 cI cL cZ cX cG ad (29) (Gm), mgC2 cI cL cZ cX cG ad (29) (Gm), mgC3 cI cL cZ cX cG ad (29) (Gm), mgC0 cI cL cZ cX cG ad (35) (Mm), mgC1 cI cL cZ cX cG ad (35) (Mm), mgC2 cI cL cZ cX cG ad (35) (Mm), mgC3 cI cL cZ cX cG ad (35) (Mm), l3C0 cI cL cZ ad (33) (hh), i3C0 cI cL cZ ad (46) (sg), i3C0 cI cL cZ ad (47) (ac), l3C0 cI cL cZ ad (48) (ba), l3C0 cI cL cZ ad (49) (sl)]) (fun vv_ ww_ => ∃ (na2 : Int), ∃ (dt2 : Int), ∃ (M2 : Nat → Nat → Int), ∃ (sg2 : Nat → Int), ∃ (ac2 : Nat → Int), ∃ (ba2 : Nat → Int), ∃ (sl2 : Nat → Int), (PatR Gm hh m p na2 dt2 sg2 ac2 ba2 sl2) ∧ vv_ = none ∧ ww_ = [mdoC0 cI cL cZ ad (0) (((m : Nat) : Int)) (((n : Nat) : Int)) (yy) (k) (dn) (on) (tw) (bt) (bl) (bd) (na2) (dt2) (tl) (ul) (th) (uh) (hd) (cn), mgC0 cI cL cZ cX cG ad (29) (Gm), mgC1 cI cL cZ cX cG ad (29) (Gm), mgC2 cI cL cZ cX cG ad (29) (Gm), mgC3 cI cL cZ cX cG ad (29) (Gm), mgC0 cI cL cZ cX cG ad (35) (M2), mgC1 cI cL cZ cX cG ad (35) (M2), mgC2 cI cL cZ cX cG ad (35) (M2), mgC3 cI cL cZ cX cG ad (35) (M2), l3C0 cI cL cZ ad (33) (hh), i3C0 cI cL cZ ad (46) (sg2), i3C0 cI cL cZ ad (47) (ac2), l3C0 cI cL cZ ad (48) (ba2), l3C0 cI cL cZ ad (49) (sl2)]) := by
  refine Ct.of (by decide) (Nat.le_of_ble_eq_true rfl) (fun G hG => ?_)
  show G 0 [(0, .ref (ad (0))), (1, iV (((p : Nat) : Int)))] [] ([mdoC0 cI cL cZ ad (0) (((m : Nat) : Int)) (((n : Nat) : Int)) (yy) (k) (dn) (on) (tw) (bt) (bl) (bd) (na) (dt) (tl) (ul) (th) (uh) (hd) (cn), mgC0 cI cL cZ cX cG ad (29) (Gm), mgC1 cI cL cZ cX cG ad (29) (Gm), mgC2 cI cL cZ cX cG ad (29) (Gm), mgC3 cI cL cZ cX cG ad (29) (Gm), mgC0 cI cL cZ cX cG ad (35) (Mm), mgC1 cI cL cZ cX cG ad (35) (Mm), mgC2 cI cL cZ cX cG ad (35) (Mm), mgC3 cI cL cZ cX cG ad (35) (Mm), l3C0 cI cL cZ ad (33) (hh), i3C0 cI cL cZ ad (46) (sg), i3C0 cI cL cZ ad (47) (ac), l3C0 cI cL cZ ad (48) (ba), l3C0 cI cL cZ ad (49) (sl)])
  have hst := stM_lt hp hm
  refine g_iload_n (pc := 0) hG 1 rfl dX11_pattern_0 ?_
  refine g_istore_n (pc := 1) hG (by decide) (lv' := [(2, iV (((p : Nat) : Int))), (0, .ref (ad (0))), (1, iV (((p : Nat) : Int)))]) rfl dX11_pattern_1 ?_
  refine g_aload_n (pc := 2) hG 1 rfl dX11_pattern_2 ?_
  refine g_iconst (pc := 3) hG dX11_pattern_3 ?_
  refine g_put (pc := 4) hG fp11_220 0 rfl rfl rfl (Nat.le_of_ble_eq_true rfl) (ws' := [mdoC0 cI cL cZ ad (0) (((m : Nat) : Int)) (((n : Nat) : Int)) (yy) (k) (dn) (on) (tw) (bt) (bl) (bd) (0) (dt) (tl) (ul) (th) (uh) (hd) (cn), mgC0 cI cL cZ cX cG ad (29) (Gm), mgC1 cI cL cZ cX cG ad (29) (Gm), mgC2 cI cL cZ cX cG ad (29) (Gm), mgC3 cI cL cZ cX cG ad (29) (Gm), mgC0 cI cL cZ cX cG ad (35) (Mm), mgC1 cI cL cZ cX cG ad (35) (Mm), mgC2 cI cL cZ cX cG ad (35) (Mm), mgC3 cI cL cZ cX cG ad (35) (Mm), l3C0 cI cL cZ ad (33) (hh), i3C0 cI cL cZ ad (46) (sg), i3C0 cI cL cZ ad (47) (ac), l3C0 cI cL cZ ad (48) (ba), l3C0 cI cL cZ ad (49) (sl)]) rfl dX11_pattern_4 ?_
  refine g_iconst (pc := 7) hG dX11_pattern_7 ?_
  refine g_istore_n (pc := 8) hG (by decide) (lv' := [(3, iV (0)), (2, iV (((p : Nat) : Int))), (0, .ref (ad (0))), (1, iV (((p : Nat) : Int)))]) rfl dX11_pattern_8 ?_
  have L9 : ∀ (fu9 : Nat) (lf : Nat) (c : Nat) (nq : Nat) (sg9 : Nat → Int) (ac9 : Nat → Int) (ba9 : Nat → Int) (sl9 : Nat → Int), m - c < fu9 → (c ≤ m) → (lf = p / 3 ^ c ∧ lf ≤ 26) → (nq = cb (stM p m) c) → (∀ j, j < c → sg9 j = sgM p j) → (∀ a, a < nq → ac9 a = ((clF (stM p m) a : Nat) : Int)) → (∀ j, j < c → ba9 j = 0) → (∀ j, j < c → sl9 j = 0) → G 9 [(0, .ref (ad (0))), (1, iV (((p : Nat) : Int))), (2, iV (((lf : Nat) : Int))), (3, iV (((c : Nat) : Int)))] [] ([mdoC0 cI cL cZ ad (0) (((m : Nat) : Int)) (((n : Nat) : Int)) (yy) (k) (dn) (on) (tw) (bt) (bl) (bd) (((nq : Nat) : Int)) (dt) (tl) (ul) (th) (uh) (hd) (cn), mgC0 cI cL cZ cX cG ad (29) (Gm), mgC1 cI cL cZ cX cG ad (29) (Gm), mgC2 cI cL cZ cX cG ad (29) (Gm), mgC3 cI cL cZ cX cG ad (29) (Gm), mgC0 cI cL cZ cX cG ad (35) (Mm), mgC1 cI cL cZ cX cG ad (35) (Mm), mgC2 cI cL cZ cX cG ad (35) (Mm), mgC3 cI cL cZ cX cG ad (35) (Mm), l3C0 cI cL cZ ad (33) (hh), i3C0 cI cL cZ ad (46) (sg9), i3C0 cI cL cZ ad (47) (ac9), l3C0 cI cL cZ ad (48) (ba9), l3C0 cI cL cZ ad (49) (sl9)]) := by
    intro fu9
    induction fu9 with
    | zero => intro lf c nq sg9 ac9 ba9 sl9 hm; exact absurd hm (Nat.not_lt_zero _)
    | succ fu9 ih9 =>
      intro lf c nq sg9 ac9 ba9 sl9 hm9 hc hlf hnq hsg hac hba hsl
      have hdl := dig_lt p c
      have hcl := cb_le (stM p m) c
      refine g_iload_n (pc := 9) hG 3 rfl dX11_pattern_9 ?_
      refine g_aload_n (pc := 10) hG 0 rfl dX11_pattern_10 ?_
      refine g_get (pc := 11) hG fl11_7 0 rfl rfl dX11_pattern_11 ?_
      refine g_icmp_ge (pc := 14) hG (by omega) (by omega) (tgt := 81) (by decide) dX11_pattern_14 (fun h14 => ?_) (fun h14 => ?_)
      · have hcm : c = m := by omega
        have hnm : nq = cb (stM p m) m := by rw [hnq, hcm]
        have hnl := cb_le (stM p m) m
        refine g_iconst (pc := 81) hG dX11_pattern_81 ?_
        refine g_istore_n (pc := 82) hG (by decide) (lv' := [(3, iV (0)), (0, .ref (ad (0))), (1, iV (((p : Nat) : Int))), (2, iV (((lf : Nat) : Int)))]) rfl dX11_pattern_82 ?_
        have L83 : ∀ (fu83 : Nat) (a5 : Nat) (M5 : Nat → Nat → Int), nq - a5 < fu83 → (a5 ≤ nq) → (∀ a b, a < a5 → b < nq → M5 a b = gsM Gm p m a b) → G 83 [(0, .ref (ad (0))), (1, iV (((p : Nat) : Int))), (3, iV (((a5 : Nat) : Int)))] [] ([mdoC0 cI cL cZ ad (0) (((m : Nat) : Int)) (((n : Nat) : Int)) (yy) (k) (dn) (on) (tw) (bt) (bl) (bd) (((nq : Nat) : Int)) (dt) (tl) (ul) (th) (uh) (hd) (cn), mgC0 cI cL cZ cX cG ad (29) (Gm), mgC1 cI cL cZ cX cG ad (29) (Gm), mgC2 cI cL cZ cX cG ad (29) (Gm), mgC3 cI cL cZ cX cG ad (29) (Gm), mgC0 cI cL cZ cX cG ad (35) (M5), mgC1 cI cL cZ cX cG ad (35) (M5), mgC2 cI cL cZ cX cG ad (35) (M5), mgC3 cI cL cZ cX cG ad (35) (M5), l3C0 cI cL cZ ad (33) (hh), i3C0 cI cL cZ ad (46) (sg9), i3C0 cI cL cZ ad (47) (ac9), l3C0 cI cL cZ ad (48) (ba9), l3C0 cI cL cZ ad (49) (sl9)]) := by
          intro fu83
          induction fu83 with
          | zero => intro a5 M5 hm; exact absurd hm (Nat.not_lt_zero _)
          | succ fu83 ih83 =>
            intro a5 M5 hm83 ha5 hM5
            refine g_iload_n (pc := 83) hG 2 rfl dX11_pattern_83 ?_
            refine g_aload_n (pc := 84) hG 0 rfl dX11_pattern_84 ?_
            refine g_get (pc := 85) hG fl11_220 0 rfl rfl dX11_pattern_85 ?_
            refine g_icmp_ge (pc := 88) hG (by omega) (by omega) (tgt := 143) (by decide) dX11_pattern_88 (fun h88 => ?_) (fun h88 => ?_)
            · have hMn : ∀ a b, a < nq → b < nq → M5 a b = gsM Gm p m a b := fun a b ha hb => hM5 a b (by omega) hb
              refine g_aload_n (pc := 143) hG 0 rfl dX11_pattern_143 ?_
              refine g_aload_n (pc := 144) hG 0 rfl dX11_pattern_144 ?_
              refine g_aload_n (pc := 145) hG 0 rfl dX11_pattern_145 ?_
              refine g_get (pc := 146) hG fl11_220 0 rfl rfl dX11_pattern_146 ?_
              refine g_callV (pc := 149) hG (As := [iV (((nq : Nat) : Int))]) (rest := [.ref (ad (0))]) (c_X11_determinant (l := l) (D := D) (cI := cI) (cL := cL) (cZ := cZ) (cX := cX) (cG := cG) ad m n yy k dn on tw bt bl bd (((nq : Nat) : Int)) dt tl ul th uh hd cn M5 nq (by omega)) (Sp.mg [true, false, false, false, false, true, true, true, true] rfl) cv11_112 ⟨rfl, rfl⟩ ⟨Nat.le_of_ble_eq_true rfl, Nat.le_of_ble_eq_true rfl⟩ 0 rfl rfl rfl rfl (Nat.le_of_ble_eq_true rfl) dX11_pattern_149 (fun v w1 h => ?_)
              obtain ⟨rfl, rfl⟩ := h
              show G 152 [(0, .ref (ad (0))), (1, iV (((p : Nat) : Int))), (3, iV (((a5 : Nat) : Int)))] [lV (detM M5 nq), .ref (ad (0))] ([mdoC0 cI cL cZ ad (0) (((m : Nat) : Int)) (((n : Nat) : Int)) (yy) (k) (dn) (on) (tw) (bt) (bl) (bd) (((nq : Nat) : Int)) (dt) (tl) (ul) (th) (uh) (hd) (cn), mgC0 cI cL cZ cX cG ad (29) (Gm), mgC1 cI cL cZ cX cG ad (29) (Gm), mgC2 cI cL cZ cX cG ad (29) (Gm), mgC3 cI cL cZ cX cG ad (29) (Gm), mgC0 cI cL cZ cX cG ad (35) (M5), mgC1 cI cL cZ cX cG ad (35) (M5), mgC2 cI cL cZ cX cG ad (35) (M5), mgC3 cI cL cZ cX cG ad (35) (M5), l3C0 cI cL cZ ad (33) (hh), i3C0 cI cL cZ ad (46) (sg9), i3C0 cI cL cZ ad (47) (ac9), l3C0 cI cL cZ ad (48) (ba9), l3C0 cI cL cZ ad (49) (sl9)])
              refine g_nmL (pc := 152) hG (fun x152 ex152 => ?_)
              refine g_put (pc := 152) hG fp11_223 0 rfl rfl rfl (Nat.le_of_ble_eq_true rfl) (ws' := [mdoC0 cI cL cZ ad (0) (((m : Nat) : Int)) (((n : Nat) : Int)) (yy) (k) (dn) (on) (tw) (bt) (bl) (bd) (((nq : Nat) : Int)) (x152) (tl) (ul) (th) (uh) (hd) (cn), mgC0 cI cL cZ cX cG ad (29) (Gm), mgC1 cI cL cZ cX cG ad (29) (Gm), mgC2 cI cL cZ cX cG ad (29) (Gm), mgC3 cI cL cZ cX cG ad (29) (Gm), mgC0 cI cL cZ cX cG ad (35) (M5), mgC1 cI cL cZ cX cG ad (35) (M5), mgC2 cI cL cZ cX cG ad (35) (M5), mgC3 cI cL cZ cX cG ad (35) (M5), l3C0 cI cL cZ ad (33) (hh), i3C0 cI cL cZ ad (46) (sg9), i3C0 cI cL cZ ad (47) (ac9), l3C0 cI cL cZ ad (48) (ba9), l3C0 cI cL cZ ad (49) (sl9)]) rfl dX11_pattern_152 ?_
              have hdt : x152 = dtM Gm p m := by rw [ex152, detM_congr (by omega) hMn, hnm]; rfl
              refine g_iconst (pc := 155) hG dX11_pattern_155 ?_
              refine g_istore_n (pc := 156) hG (by decide) (lv' := [(3, iV (0)), (0, .ref (ad (0))), (1, iV (((p : Nat) : Int)))]) rfl dX11_pattern_156 ?_
              have L157 : ∀ (fu157 : Nat) (c7 : Nat) (b7 : Nat → Int) (s7 : Nat → Int), nq - c7 < fu157 → (c7 ≤ nq) → (PbI (stM p m) nq m (fun a r => crS (gsM Gm p m) (bvM hh p m) nq a r) c7 0 b7) → (PbI (stM p m) nq m (fun a r => -crS (gsM Gm p m) (svM p m) nq a r) c7 0 s7) → G 157 [(0, .ref (ad (0))), (1, iV (((p : Nat) : Int))), (3, iV (((c7 : Nat) : Int)))] [] ([mdoC0 cI cL cZ ad (0) (((m : Nat) : Int)) (((n : Nat) : Int)) (yy) (k) (dn) (on) (tw) (bt) (bl) (bd) (((nq : Nat) : Int)) (x152) (tl) (ul) (th) (uh) (hd) (cn), mgC0 cI cL cZ cX cG ad (29) (Gm), mgC1 cI cL cZ cX cG ad (29) (Gm), mgC2 cI cL cZ cX cG ad (29) (Gm), mgC3 cI cL cZ cX cG ad (29) (Gm), mgC0 cI cL cZ cX cG ad (35) (M5), mgC1 cI cL cZ cX cG ad (35) (M5), mgC2 cI cL cZ cX cG ad (35) (M5), mgC3 cI cL cZ cX cG ad (35) (M5), l3C0 cI cL cZ ad (33) (hh), i3C0 cI cL cZ ad (46) (sg9), i3C0 cI cL cZ ad (47) (ac9), l3C0 cI cL cZ ad (48) (b7), l3C0 cI cL cZ ad (49) (s7)]) := by
                intro fu157
                induction fu157 with
                | zero => intro c7 b7 s7 hm; exact absurd hm (Nat.not_lt_zero _)
                | succ fu157 ih157 =>
                  intro c7 b7 s7 hm157 hc7 hb7 hs7
                  refine g_iload_n (pc := 157) hG 2 rfl dX11_pattern_157 ?_
                  refine g_aload_n (pc := 158) hG 0 rfl dX11_pattern_158 ?_
                  refine g_get (pc := 159) hG fl11_220 0 rfl rfl dX11_pattern_159 ?_
                  refine g_icmp_ge (pc := 162) hG (by omega) (by omega) (tgt := 343) (by decide) dX11_pattern_162 (fun h162 => ?_) (fun h162 => ?_)
                  · exact g_return (pc := 343) hG ⟨((nq : Nat) : Int), x152, M5, sg9, ac9, b7, s7, pat_out hp hm hnm hdt (by omega) hsg hac (by omega) hb7 hs7, rfl, rfl⟩ dX11_pattern_343
                  · refine g_iconst (pc := 165) hG dX11_pattern_165 ?_
                    refine g_istore (pc := 166) hG (by decide) (lv' := [(4, iV (0)), (0, .ref (ad (0))), (1, iV (((p : Nat) : Int))), (3, iV (((c7 : Nat) : Int)))]) rfl dX11_pattern_166 ?_
                    have L168 : ∀ (fu168 : Nat) (r8 : Nat) (b8 : Nat → Int) (s8 : Nat → Int), nq - r8 < fu168 → (r8 ≤ nq) → (PbI (stM p m) nq m (fun a r => crS (gsM Gm p m) (bvM hh p m) nq a r) c7 r8 b8) → (PbI (stM p m) nq m (fun a r => -crS (gsM Gm p m) (svM p m) nq a r) c7 r8 s8) → G 168 [(0, .ref (ad (0))), (1, iV (((p : Nat) : Int))), (3, iV (((c7 : Nat) : Int))), (4, iV (((r8 : Nat) : Int)))] [] ([mdoC0 cI cL cZ ad (0) (((m : Nat) : Int)) (((n : Nat) : Int)) (yy) (k) (dn) (on) (tw) (bt) (bl) (bd) (((nq : Nat) : Int)) (x152) (tl) (ul) (th) (uh) (hd) (cn), mgC0 cI cL cZ cX cG ad (29) (Gm), mgC1 cI cL cZ cX cG ad (29) (Gm), mgC2 cI cL cZ cX cG ad (29) (Gm), mgC3 cI cL cZ cX cG ad (29) (Gm), mgC0 cI cL cZ cX cG ad (35) (M5), mgC1 cI cL cZ cX cG ad (35) (M5), mgC2 cI cL cZ cX cG ad (35) (M5), mgC3 cI cL cZ cX cG ad (35) (M5), l3C0 cI cL cZ ad (33) (hh), i3C0 cI cL cZ ad (46) (sg9), i3C0 cI cL cZ ad (47) (ac9), l3C0 cI cL cZ ad (48) (b8), l3C0 cI cL cZ ad (49) (s8)]) := by
                      intro fu168
                      induction fu168 with
                      | zero => intro r8 b8 s8 hm; exact absurd hm (Nat.not_lt_zero _)
                      | succ fu168 ih168 =>
                        intro r8 b8 s8 hm168 hr8 hb8 hs8
                        refine g_iload (pc := 168) hG 3 rfl dX11_pattern_168 ?_
                        refine g_aload_n (pc := 170) hG 0 rfl dX11_pattern_170 ?_
                        refine g_get (pc := 171) hG fl11_220 0 rfl rfl dX11_pattern_171 ?_
                        refine g_icmp_ge (pc := 174) hG (by omega) (by omega) (tgt := 337) (by decide) dX11_pattern_174 (fun h174 => ?_) (fun h174 => ?_)
                        · refine g_iinc (pc := 337) hG 2 rfl (by decide) (lv' := [(3, iV ((((c7 : Nat) : Int)) + 1)), (0, .ref (ad (0))), (1, iV (((p : Nat) : Int))), (4, iV (((r8 : Nat) : Int)))]) rfl dX11_pattern_337 ?_
                          refine g_goto (pc := 340) hG (tgt := 157) (by decide) dX11_pattern_340 ?_
                          exact g_lv (pc := 157) hG [1, 2, 0] rfl (ih157 (c7 + 1) b8 s8 (by omega) (by omega) (hb8.next (by omega) hr8 (fun a => rfl)) (hs8.next (by omega) hr8 (fun a => rfl)))
                        · refine g_aload_n (pc := 177) hG 0 rfl dX11_pattern_177 ?_
                          refine g_get (pc := 178) hG fl11_220 0 rfl rfl dX11_pattern_178 ?_
                          refine g_iconst (pc := 181) hG dX11_pattern_181 ?_
                          have J266 : ∀ (j266s0 : Int), (((¬ ((nq : Nat) : Int) = 1) ∧ (¬ ((nq : Nat) : Int) = 2) ∧ (¬ (((r8 + c7) % 2 : Nat) : Int) = 0) ∧ j266s0 = -(minM M5 r8 c7)) ∨ ((¬ ((nq : Nat) : Int) = 1) ∧ (¬ ((nq : Nat) : Int) = 2) ∧ ((((r8 + c7) % 2 : Nat) : Int) = 0) ∧ j266s0 = minM M5 r8 c7) ∨ ((¬ ((nq : Nat) : Int) = 1) ∧ (((nq : Nat) : Int) = 2) ∧ (¬ (((r8 + c7) % 2 : Nat) : Int) = 0) ∧ j266s0 = -(M5 (1 - r8) (1 - c7))) ∨ ((¬ ((nq : Nat) : Int) = 1) ∧ (((nq : Nat) : Int) = 2) ∧ ((((r8 + c7) % 2 : Nat) : Int) = 0) ∧ j266s0 = M5 (1 - r8) (1 - c7)) ∨ ((((nq : Nat) : Int) = 1) ∧ j266s0 = 1)) → G 266 [(0, .ref (ad (0))), (1, iV (((p : Nat) : Int))), (3, iV (((c7 : Nat) : Int))), (4, iV (((r8 : Nat) : Int)))] [lV (j266s0)] ([mdoC0 cI cL cZ ad (0) (((m : Nat) : Int)) (((n : Nat) : Int)) (yy) (k) (dn) (on) (tw) (bt) (bl) (bd) (((nq : Nat) : Int)) (x152) (tl) (ul) (th) (uh) (hd) (cn), mgC0 cI cL cZ cX cG ad (29) (Gm), mgC1 cI cL cZ cX cG ad (29) (Gm), mgC2 cI cL cZ cX cG ad (29) (Gm), mgC3 cI cL cZ cX cG ad (29) (Gm), mgC0 cI cL cZ cX cG ad (35) (M5), mgC1 cI cL cZ cX cG ad (35) (M5), mgC2 cI cL cZ cX cG ad (35) (M5), mgC3 cI cL cZ cX cG ad (35) (M5), l3C0 cI cL cZ ad (33) (hh), i3C0 cI cL cZ ad (46) (sg9), i3C0 cI cL cZ ad (47) (ac9), l3C0 cI cL cZ ad (48) (b8), l3C0 cI cL cZ ad (49) (s8)]) := by
                            intro j266s0 k266
                            refine g_lstore (pc := 266) hG (by decide) (lv' := [(5, lV (j266s0)), (0, .ref (ad (0))), (1, iV (((p : Nat) : Int))), (3, iV (((c7 : Nat) : Int))), (4, iV (((r8 : Nat) : Int)))]) rfl dX11_pattern_266 ?_
                            have hcf : j266s0 = cofM (gsM Gm p m) nq r8 c7 := by rw [cof_j2 k266]; exact cofM_congr (by omega) hMn (by omega) (by omega)
                            have hka := cl_bit hst hm (show c7 < cb (stM p m) m by omega)
                            have hkb := cl_bit hst hm (show r8 < cb (stM p m) m by omega)
                            refine g_aload_n (pc := 268) hG 1 rfl dX11_pattern_268 ?_
                            refine g_get (pc := 269) hG fl11_71 0 rfl rfl dX11_pattern_269 ?_
                            refine g_aload_n (pc := 272) hG 1 rfl dX11_pattern_272 ?_
                            refine g_get (pc := 273) hG fl11_68 0 rfl rfl dX11_pattern_273 ?_
                            refine g_iload_n (pc := 276) hG 3 rfl dX11_pattern_276 ?_
                            refine g_iaload (pc := 277) hG 11 c7 rfl rfl (by omega) (by omega) (by decide) dX11_pattern_277 ?_
                            refine g_eqI (pc := 278) hG (show (ac9 c7) = ((clF (stM p m) c7 : Nat) : Int) by exact hac c7 (by omega)) ?_
                            refine g_dup2_11 (pc := 278) hG rfl rfl dX11_pattern_278 ?_
                            refine g_laload (pc := 279) hG 12 (clF (stM p m) c7) rfl rfl (by omega) (by omega) (by decide) dX11_pattern_279 ?_
                            refine g_ldc2 (z := 2) (pc := 280) hG (v := 2) (inB wd_1056 rfl) (by decide) dX11_pattern_280 ?_
                            refine g_lload (pc := 283) hG 0 rfl dX11_pattern_283 ?_
                            refine g_lmul (pc := 285) hG dX11_pattern_285 ?_
                            refine g_aload_n (pc := 286) hG 1 rfl dX11_pattern_286 ?_
                            refine g_get (pc := 287) hG fl11_34 0 rfl rfl dX11_pattern_287 ?_
                            refine g_aload_n (pc := 290) hG 1 rfl dX11_pattern_290 ?_
                            refine g_get (pc := 291) hG fl11_68 0 rfl rfl dX11_pattern_291 ?_
                            refine g_iload (pc := 294) hG 4 rfl dX11_pattern_294 ?_
                            refine g_iaload (pc := 296) hG 11 r8 rfl rfl (by omega) (by omega) (by decide) dX11_pattern_296 ?_
                            refine g_eqI (pc := 297) hG (show (ac9 r8) = ((clF (stM p m) r8 : Nat) : Int) by exact hac r8 (by omega)) ?_
                            refine g_laload (pc := 297) hG 9 (clF (stM p m) r8) rfl rfl (by omega) (by omega) (by decide) dX11_pattern_297 ?_
                            refine g_lmul (pc := 298) hG dX11_pattern_298 ?_
                            refine g_ladd (pc := 299) hG dX11_pattern_299 ?_
                            refine g_nmL (pc := 300) hG (fun x300 ex300 => ?_)
                            refine g_lastore (pc := 300) hG 12 (clF (stM p m) c7) rfl rfl (by omega) (by omega) (by decide) (ws' := [mdoC0 cI cL cZ ad (0) (((m : Nat) : Int)) (((n : Nat) : Int)) (yy) (k) (dn) (on) (tw) (bt) (bl) (bd) (((nq : Nat) : Int)) (x152) (tl) (ul) (th) (uh) (hd) (cn), mgC0 cI cL cZ cX cG ad (29) (Gm), mgC1 cI cL cZ cX cG ad (29) (Gm), mgC2 cI cL cZ cX cG ad (29) (Gm), mgC3 cI cL cZ cX cG ad (29) (Gm), mgC0 cI cL cZ cX cG ad (35) (M5), mgC1 cI cL cZ cX cG ad (35) (M5), mgC2 cI cL cZ cX cG ad (35) (M5), mgC3 cI cL cZ cX cG ad (35) (M5), l3C0 cI cL cZ ad (33) (hh), i3C0 cI cL cZ ad (46) (sg9), i3C0 cI cL cZ ad (47) (ac9), l3C0 cI cL cZ ad (48) (upZ b8 (clF (stM p m) c7) x300), l3C0 cI cL cZ ad (49) (s8)]) rfl dX11_pattern_300 ?_
                            refine g_aload_n (pc := 301) hG 1 rfl dX11_pattern_301 ?_
                            refine g_get (pc := 302) hG fl11_74 0 rfl rfl dX11_pattern_302 ?_
                            refine g_aload_n (pc := 305) hG 1 rfl dX11_pattern_305 ?_
                            refine g_get (pc := 306) hG fl11_68 0 rfl rfl dX11_pattern_306 ?_
                            refine g_iload_n (pc := 309) hG 3 rfl dX11_pattern_309 ?_
                            refine g_iaload (pc := 310) hG 11 c7 rfl rfl (by omega) (by omega) (by decide) dX11_pattern_310 ?_
                            refine g_eqI (pc := 311) hG (show (ac9 c7) = ((clF (stM p m) c7 : Nat) : Int) by exact hac c7 (by omega)) ?_
                            refine g_dup2_11 (pc := 311) hG rfl rfl dX11_pattern_311 ?_
                            refine g_laload (pc := 312) hG 13 (clF (stM p m) c7) rfl rfl (by omega) (by omega) (by decide) dX11_pattern_312 ?_
                            refine g_lload (pc := 313) hG 0 rfl dX11_pattern_313 ?_
                            refine g_aload_n (pc := 315) hG 1 rfl dX11_pattern_315 ?_
                            refine g_get (pc := 316) hG fl11_65 0 rfl rfl dX11_pattern_316 ?_
                            refine g_aload_n (pc := 319) hG 1 rfl dX11_pattern_319 ?_
                            refine g_get (pc := 320) hG fl11_68 0 rfl rfl dX11_pattern_320 ?_
                            refine g_iload (pc := 323) hG 4 rfl dX11_pattern_323 ?_
                            refine g_iaload (pc := 325) hG 11 r8 rfl rfl (by omega) (by omega) (by decide) dX11_pattern_325 ?_
                            refine g_eqI (pc := 326) hG (show (ac9 r8) = ((clF (stM p m) r8 : Nat) : Int) by exact hac r8 (by omega)) ?_
                            have hsr := hsg (clF (stM p m) r8) (by omega)
                            have hsb := sgM_bd p (clF (stM p m) r8)
                            refine g_iaload (pc := 326) hG 10 (clF (stM p m) r8) rfl rfl (by omega) (by omega) (by decide) dX11_pattern_326 ?_
                            refine g_i2l (pc := 327) hG (by omega) dX11_pattern_327 ?_
                            refine g_lmul (pc := 328) hG dX11_pattern_328 ?_
                            refine g_lsub (pc := 329) hG dX11_pattern_329 ?_
                            refine g_nmL (pc := 330) hG (fun x330 ex330 => ?_)
                            refine g_lastore (pc := 330) hG 13 (clF (stM p m) c7) rfl rfl (by omega) (by omega) (by decide) (ws' := [mdoC0 cI cL cZ ad (0) (((m : Nat) : Int)) (((n : Nat) : Int)) (yy) (k) (dn) (on) (tw) (bt) (bl) (bd) (((nq : Nat) : Int)) (x152) (tl) (ul) (th) (uh) (hd) (cn), mgC0 cI cL cZ cX cG ad (29) (Gm), mgC1 cI cL cZ cX cG ad (29) (Gm), mgC2 cI cL cZ cX cG ad (29) (Gm), mgC3 cI cL cZ cX cG ad (29) (Gm), mgC0 cI cL cZ cX cG ad (35) (M5), mgC1 cI cL cZ cX cG ad (35) (M5), mgC2 cI cL cZ cX cG ad (35) (M5), mgC3 cI cL cZ cX cG ad (35) (M5), l3C0 cI cL cZ ad (33) (hh), i3C0 cI cL cZ ad (46) (sg9), i3C0 cI cL cZ ad (47) (ac9), l3C0 cI cL cZ ad (48) (upZ b8 (clF (stM p m) c7) x300), l3C0 cI cL cZ ad (49) (upZ s8 (clF (stM p m) c7) x330)]) rfl dX11_pattern_330 ?_
                            refine g_iinc (pc := 331) hG 4 rfl (by decide) (lv' := [(4, iV ((((r8 : Nat) : Int)) + 1)), (5, lV (j266s0)), (0, .ref (ad (0))), (1, iV (((p : Nat) : Int))), (3, iV (((c7 : Nat) : Int)))]) rfl dX11_pattern_331 ?_
                            refine g_goto (pc := 334) hG (tgt := 168) (by decide) dX11_pattern_334 ?_
                            exact g_lv (pc := 168) hG [2, 3, 4, 0] rfl (ih168 (r8 + 1) (upZ b8 (clF (stM p m) c7) x300) (upZ s8 (clF (stM p m) c7) x330) (by omega) (by omega) (hb8.step hst hm hnm (by omega) (by rw [ex300, hcf]; show _ = _ + (crS _ _ _ _ r8 + _ - crS _ _ _ _ r8); unfold bvM; grind)) (hs8.step hst hm hnm (by omega) (by rw [ex330, hcf, hsg _ (by omega)]; show _ = _ + (-(crS _ _ _ _ r8 + _) - -crS _ _ _ _ r8); unfold svM; grind)))
                          refine g_icmp_ne (pc := 182) hG (by omega) (by omega) (tgt := 189) (by decide) dX11_pattern_182 (fun h182 => ?_) (fun h182 => ?_)
                          · refine g_aload_n (pc := 189) hG 0 rfl dX11_pattern_189 ?_
                            refine g_get (pc := 190) hG fl11_220 0 rfl rfl dX11_pattern_190 ?_
                            refine g_iconst (pc := 193) hG dX11_pattern_193 ?_
                            refine g_icmp_ne (pc := 194) hG (by omega) (by omega) (tgt := 239) (by decide) dX11_pattern_194 (fun h194 => ?_) (fun h194 => ?_)
                            · refine g_iload (pc := 239) hG 3 rfl dX11_pattern_239 ?_
                              refine g_iload_n (pc := 241) hG 2 rfl dX11_pattern_241 ?_
                              refine g_iadd (pc := 242) hG dX11_pattern_242 ?_
                              refine g_iconst (pc := 243) hG dX11_pattern_243 ?_
                              refine g_iand (z := (((r8 + c7) % 2 : Nat) : Int)) (pc := 244) hG (by exact and_1i (by omega) (by omega)) dX11_pattern_244 ?_
                              refine g_if_ne (pc := 245) hG (by omega) (tgt := 258) (by decide) dX11_pattern_245 (fun h245 => ?_) (fun h245 => ?_)
                              · refine g_aload_n (pc := 258) hG 0 rfl dX11_pattern_258 ?_
                                refine g_iload (pc := 259) hG 3 rfl dX11_pattern_259 ?_
                                refine g_iload_n (pc := 261) hG 2 rfl dX11_pattern_261 ?_
                                refine g_callV (pc := 262) hG (As := [iV (((r8 : Nat) : Int)), iV (((c7 : Nat) : Int))]) (rest := []) (c_X11_minor (l := l) (D := D) (cI := cI) (cL := cL) (cZ := cZ) (cX := cX) (cG := cG) ad m n yy k dn on tw bt bl bd (((nq : Nat) : Int)) x152 tl ul th uh hd cn M5 r8 c7 (by omega) (by omega)) (Sp.mg [true, false, false, false, false, true, true, true, true] rfl) cv11_108 ⟨rfl, rfl⟩ ⟨Nat.le_of_ble_eq_true rfl, Nat.le_of_ble_eq_true rfl⟩ 0 rfl rfl rfl rfl (Nat.le_of_ble_eq_true rfl) dX11_pattern_262 (fun v w1 h => ?_)
                                obtain ⟨rfl, rfl⟩ := h
                                show G 265 [(0, .ref (ad (0))), (1, iV (((p : Nat) : Int))), (3, iV (((c7 : Nat) : Int))), (4, iV (((r8 : Nat) : Int)))] [lV (minM M5 r8 c7)] ([mdoC0 cI cL cZ ad (0) (((m : Nat) : Int)) (((n : Nat) : Int)) (yy) (k) (dn) (on) (tw) (bt) (bl) (bd) (((nq : Nat) : Int)) (x152) (tl) (ul) (th) (uh) (hd) (cn), mgC0 cI cL cZ cX cG ad (29) (Gm), mgC1 cI cL cZ cX cG ad (29) (Gm), mgC2 cI cL cZ cX cG ad (29) (Gm), mgC3 cI cL cZ cX cG ad (29) (Gm), mgC0 cI cL cZ cX cG ad (35) (M5), mgC1 cI cL cZ cX cG ad (35) (M5), mgC2 cI cL cZ cX cG ad (35) (M5), mgC3 cI cL cZ cX cG ad (35) (M5), l3C0 cI cL cZ ad (33) (hh), i3C0 cI cL cZ ad (46) (sg9), i3C0 cI cL cZ ad (47) (ac9), l3C0 cI cL cZ ad (48) (b8), l3C0 cI cL cZ ad (49) (s8)])
                                refine g_lneg (pc := 265) hG dX11_pattern_265 ?_
                                exact g_lv (pc := 266) hG [0, 1, 2, 3] rfl (J266 (-(minM M5 r8 c7)) (Or.inl ⟨h182, h194, h245, rfl⟩))
                              · refine g_aload_n (pc := 248) hG 0 rfl dX11_pattern_248 ?_
                                refine g_iload (pc := 249) hG 3 rfl dX11_pattern_249 ?_
                                refine g_iload_n (pc := 251) hG 2 rfl dX11_pattern_251 ?_
                                refine g_callV (pc := 252) hG (As := [iV (((r8 : Nat) : Int)), iV (((c7 : Nat) : Int))]) (rest := []) (c_X11_minor (l := l) (D := D) (cI := cI) (cL := cL) (cZ := cZ) (cX := cX) (cG := cG) ad m n yy k dn on tw bt bl bd (((nq : Nat) : Int)) x152 tl ul th uh hd cn M5 r8 c7 (by omega) (by omega)) (Sp.mg [true, false, false, false, false, true, true, true, true] rfl) cv11_108 ⟨rfl, rfl⟩ ⟨Nat.le_of_ble_eq_true rfl, Nat.le_of_ble_eq_true rfl⟩ 0 rfl rfl rfl rfl (Nat.le_of_ble_eq_true rfl) dX11_pattern_252 (fun v w1 h => ?_)
                                obtain ⟨rfl, rfl⟩ := h
                                show G 255 [(0, .ref (ad (0))), (1, iV (((p : Nat) : Int))), (3, iV (((c7 : Nat) : Int))), (4, iV (((r8 : Nat) : Int)))] [lV (minM M5 r8 c7)] ([mdoC0 cI cL cZ ad (0) (((m : Nat) : Int)) (((n : Nat) : Int)) (yy) (k) (dn) (on) (tw) (bt) (bl) (bd) (((nq : Nat) : Int)) (x152) (tl) (ul) (th) (uh) (hd) (cn), mgC0 cI cL cZ cX cG ad (29) (Gm), mgC1 cI cL cZ cX cG ad (29) (Gm), mgC2 cI cL cZ cX cG ad (29) (Gm), mgC3 cI cL cZ cX cG ad (29) (Gm), mgC0 cI cL cZ cX cG ad (35) (M5), mgC1 cI cL cZ cX cG ad (35) (M5), mgC2 cI cL cZ cX cG ad (35) (M5), mgC3 cI cL cZ cX cG ad (35) (M5), l3C0 cI cL cZ ad (33) (hh), i3C0 cI cL cZ ad (46) (sg9), i3C0 cI cL cZ ad (47) (ac9), l3C0 cI cL cZ ad (48) (b8), l3C0 cI cL cZ ad (49) (s8)])
                                refine g_goto (pc := 255) hG (tgt := 266) (by decide) dX11_pattern_255 ?_
                                exact g_lv (pc := 266) hG [0, 1, 2, 3] rfl (J266 (minM M5 r8 c7) (Or.inr (Or.inl ⟨h182, h194, h245, rfl⟩)))
                            · refine g_iload (pc := 197) hG 3 rfl dX11_pattern_197 ?_
                              refine g_iload_n (pc := 199) hG 2 rfl dX11_pattern_199 ?_
                              refine g_iadd (pc := 200) hG dX11_pattern_200 ?_
                              refine g_iconst (pc := 201) hG dX11_pattern_201 ?_
                              refine g_iand (z := (((r8 + c7) % 2 : Nat) : Int)) (pc := 202) hG (by exact and_1i (by omega) (by omega)) dX11_pattern_202 ?_
                              refine g_if_ne (pc := 203) hG (by omega) (tgt := 222) (by decide) dX11_pattern_203 (fun h203 => ?_) (fun h203 => ?_)
                              · refine g_aload_n (pc := 222) hG 0 rfl dX11_pattern_222 ?_
                                refine g_get (pc := 223) hG fl11_41 0 rfl rfl dX11_pattern_223 ?_
                                refine g_iconst (pc := 226) hG dX11_pattern_226 ?_
                                refine g_iload (pc := 227) hG 3 rfl dX11_pattern_227 ?_
                                refine g_isub (pc := 229) hG dX11_pattern_229 ?_
                                refine g_aaload (pc := 230) hG 5 4 (1 - r8) rfl rfl (by omega) (by omega) (by decide) dX11_pattern_230 ?_
                                refine g_iconst (pc := 231) hG dX11_pattern_231 ?_
                                refine g_iload_n (pc := 232) hG 2 rfl dX11_pattern_232 ?_
                                refine g_isub (pc := 233) hG dX11_pattern_233 ?_
                                refine g_laload (pc := 234) hG (6 + (1 - r8)) (1 - c7) (rw_at [mdoC0 cI cL cZ ad (0) (((m : Nat) : Int)) (((n : Nat) : Int)) (yy) (k) (dn) (on) (tw) (bt) (bl) (bd) (((nq : Nat) : Int)) (x152) (tl) (ul) (th) (uh) (hd) (cn), mgC0 cI cL cZ cX cG ad (29) (Gm), mgC1 cI cL cZ cX cG ad (29) (Gm), mgC2 cI cL cZ cX cG ad (29) (Gm), mgC3 cI cL cZ cX cG ad (29) (Gm), mgC0 cI cL cZ cX cG ad (35) (M5)] _ 3 (fun i9 => (ad (36 + i9), aL cL 3 (M5 i9))) (by omega)) rfl (by omega) (by omega) (by decide) dX11_pattern_234 ?_
                                refine g_lneg (pc := 235) hG dX11_pattern_235 ?_
                                refine g_goto (pc := 236) hG (tgt := 266) (by decide) dX11_pattern_236 ?_
                                exact g_lv (pc := 266) hG [0, 1, 2, 3] rfl (J266 (-(M5 (1 - r8) (1 - c7))) (Or.inr (Or.inr (Or.inl ⟨h182, h194, h203, rfl⟩))))
                              · refine g_aload_n (pc := 206) hG 0 rfl dX11_pattern_206 ?_
                                refine g_get (pc := 207) hG fl11_41 0 rfl rfl dX11_pattern_207 ?_
                                refine g_iconst (pc := 210) hG dX11_pattern_210 ?_
                                refine g_iload (pc := 211) hG 3 rfl dX11_pattern_211 ?_
                                refine g_isub (pc := 213) hG dX11_pattern_213 ?_
                                refine g_aaload (pc := 214) hG 5 4 (1 - r8) rfl rfl (by omega) (by omega) (by decide) dX11_pattern_214 ?_
                                refine g_iconst (pc := 215) hG dX11_pattern_215 ?_
                                refine g_iload_n (pc := 216) hG 2 rfl dX11_pattern_216 ?_
                                refine g_isub (pc := 217) hG dX11_pattern_217 ?_
                                refine g_laload (pc := 218) hG (6 + (1 - r8)) (1 - c7) (rw_at [mdoC0 cI cL cZ ad (0) (((m : Nat) : Int)) (((n : Nat) : Int)) (yy) (k) (dn) (on) (tw) (bt) (bl) (bd) (((nq : Nat) : Int)) (x152) (tl) (ul) (th) (uh) (hd) (cn), mgC0 cI cL cZ cX cG ad (29) (Gm), mgC1 cI cL cZ cX cG ad (29) (Gm), mgC2 cI cL cZ cX cG ad (29) (Gm), mgC3 cI cL cZ cX cG ad (29) (Gm), mgC0 cI cL cZ cX cG ad (35) (M5)] _ 3 (fun i9 => (ad (36 + i9), aL cL 3 (M5 i9))) (by omega)) rfl (by omega) (by omega) (by decide) dX11_pattern_218 ?_
                                refine g_goto (pc := 219) hG (tgt := 266) (by decide) dX11_pattern_219 ?_
                                exact g_lv (pc := 266) hG [0, 1, 2, 3] rfl (J266 (M5 (1 - r8) (1 - c7)) (Or.inr (Or.inr (Or.inr (Or.inl ⟨h182, h194, h203, rfl⟩)))))
                          · refine g_lconst (z := 1) (pc := 185) hG dX11_pattern_185 (by decide) ?_
                            refine g_goto (pc := 186) hG (tgt := 266) (by decide) dX11_pattern_186 ?_
                            exact g_lv (pc := 266) hG [0, 1, 2, 3] rfl (J266 1 (Or.inr (Or.inr (Or.inr (Or.inr (⟨h182, rfl⟩))))))
                    exact g_lv (pc := 168) hG [1, 2, 3, 0] rfl (L168 _ 0 b7 s7 (Nat.lt_succ_self _) (Nat.zero_le _) (hb7) (hs7))
              exact g_lv (pc := 157) hG [1, 2, 0] rfl (L157 _ 0 ba9 sl9 (Nat.lt_succ_self _) (Nat.zero_le _) (PbI.init hst hm hnm (fun j hj => hba j (by omega)) (fun a => rfl)) (PbI.init hst hm hnm (fun j hj => hsl j (by omega)) (fun a => rfl)))
            · refine g_iconst (pc := 91) hG dX11_pattern_91 ?_
              refine g_istore (pc := 92) hG (by decide) (lv' := [(4, iV (0)), (0, .ref (ad (0))), (1, iV (((p : Nat) : Int))), (3, iV (((a5 : Nat) : Int)))]) rfl dX11_pattern_92 ?_
              have L94 : ∀ (fu94 : Nat) (b5 : Nat) (M6 : Nat → Nat → Int), nq - b5 < fu94 → (b5 ≤ nq) → (∀ a b, (a < a5 ∨ (a = a5 ∧ b < b5)) → b < nq → M6 a b = gsM Gm p m a b) → G 94 [(0, .ref (ad (0))), (1, iV (((p : Nat) : Int))), (3, iV (((a5 : Nat) : Int))), (4, iV (((b5 : Nat) : Int)))] [] ([mdoC0 cI cL cZ ad (0) (((m : Nat) : Int)) (((n : Nat) : Int)) (yy) (k) (dn) (on) (tw) (bt) (bl) (bd) (((nq : Nat) : Int)) (dt) (tl) (ul) (th) (uh) (hd) (cn), mgC0 cI cL cZ cX cG ad (29) (Gm), mgC1 cI cL cZ cX cG ad (29) (Gm), mgC2 cI cL cZ cX cG ad (29) (Gm), mgC3 cI cL cZ cX cG ad (29) (Gm), mgC0 cI cL cZ cX cG ad (35) (M6), mgC1 cI cL cZ cX cG ad (35) (M6), mgC2 cI cL cZ cX cG ad (35) (M6), mgC3 cI cL cZ cX cG ad (35) (M6), l3C0 cI cL cZ ad (33) (hh), i3C0 cI cL cZ ad (46) (sg9), i3C0 cI cL cZ ad (47) (ac9), l3C0 cI cL cZ ad (48) (ba9), l3C0 cI cL cZ ad (49) (sl9)]) := by
                intro fu94
                induction fu94 with
                | zero => intro b5 M6 hm; exact absurd hm (Nat.not_lt_zero _)
                | succ fu94 ih94 =>
                  intro b5 M6 hm94 hb5 hM6
                  refine g_iload (pc := 94) hG 3 rfl dX11_pattern_94 ?_
                  refine g_aload_n (pc := 96) hG 0 rfl dX11_pattern_96 ?_
                  refine g_get (pc := 97) hG fl11_220 0 rfl rfl dX11_pattern_97 ?_
                  refine g_icmp_ge (pc := 100) hG (by omega) (by omega) (tgt := 137) (by decide) dX11_pattern_100 (fun h100 => ?_) (fun h100 => ?_)
                  · refine g_iinc (pc := 137) hG 2 rfl (by decide) (lv' := [(3, iV ((((a5 : Nat) : Int)) + 1)), (0, .ref (ad (0))), (1, iV (((p : Nat) : Int))), (4, iV (((b5 : Nat) : Int)))]) rfl dX11_pattern_137 ?_
                    refine g_goto (pc := 140) hG (tgt := 83) (by decide) dX11_pattern_140 ?_
                    exact g_lv (pc := 83) hG [1, 2, 0] rfl (ih83 (a5 + 1) M6 (by omega) (by omega) (fun a b ha hb => hM6 a b (by omega) hb))
                  · have hka := cl_bit hst hm (show a5 < cb (stM p m) m by omega)
                    have hkb := cl_bit hst hm (show b5 < cb (stM p m) m by omega)
                    refine g_aload_n (pc := 103) hG 0 rfl dX11_pattern_103 ?_
                    refine g_get (pc := 104) hG fl11_41 0 rfl rfl dX11_pattern_104 ?_
                    refine g_iload_n (pc := 107) hG 2 rfl dX11_pattern_107 ?_
                    refine g_aaload (pc := 108) hG 5 4 a5 rfl rfl (by omega) (by omega) (by decide) dX11_pattern_108 ?_
                    refine g_iload (pc := 109) hG 3 rfl dX11_pattern_109 ?_
                    refine g_aload_n (pc := 111) hG 0 rfl dX11_pattern_111 ?_
                    refine g_get (pc := 112) hG fl11_31 0 rfl rfl dX11_pattern_112 ?_
                    refine g_aload_n (pc := 115) hG 0 rfl dX11_pattern_115 ?_
                    refine g_get (pc := 116) hG fl11_68 0 rfl rfl dX11_pattern_116 ?_
                    refine g_iload_n (pc := 119) hG 2 rfl dX11_pattern_119 ?_
                    refine g_iaload (pc := 120) hG 11 a5 rfl rfl (by omega) (by omega) (by decide) dX11_pattern_120 ?_
                    refine g_eqI (pc := 121) hG (show (ac9 a5) = ((clF (stM p m) a5 : Nat) : Int) by exact hac a5 (by omega)) ?_
                    refine g_aaload (pc := 121) hG 1 4 (clF (stM p m) a5) rfl rfl (by omega) (by omega) (by decide) dX11_pattern_121 ?_
                    refine g_aload_n (pc := 122) hG 0 rfl dX11_pattern_122 ?_
                    refine g_get (pc := 123) hG fl11_68 0 rfl rfl dX11_pattern_123 ?_
                    refine g_iload (pc := 126) hG 3 rfl dX11_pattern_126 ?_
                    refine g_iaload (pc := 128) hG 11 b5 rfl rfl (by omega) (by omega) (by decide) dX11_pattern_128 ?_
                    refine g_eqI (pc := 129) hG (show (ac9 b5) = ((clF (stM p m) b5 : Nat) : Int) by exact hac b5 (by omega)) ?_
                    refine g_laload (pc := 129) hG (2 + (clF (stM p m) a5)) (clF (stM p m) b5) (rw_at [mdoC0 cI cL cZ ad (0) (((m : Nat) : Int)) (((n : Nat) : Int)) (yy) (k) (dn) (on) (tw) (bt) (bl) (bd) (((nq : Nat) : Int)) (dt) (tl) (ul) (th) (uh) (hd) (cn), mgC0 cI cL cZ cX cG ad (29) (Gm)] _ 3 (fun i9 => (ad (30 + i9), aL cL 3 (Gm i9))) (by omega)) rfl (by omega) (by omega) (by decide) dX11_pattern_129 ?_
                    refine g_nmL (pc := 130) hG (fun x130 ex130 => ?_)
                    refine g_lastore (pc := 130) hG (6 + a5) b5 (rw_at [mdoC0 cI cL cZ ad (0) (((m : Nat) : Int)) (((n : Nat) : Int)) (yy) (k) (dn) (on) (tw) (bt) (bl) (bd) (((nq : Nat) : Int)) (dt) (tl) (ul) (th) (uh) (hd) (cn), mgC0 cI cL cZ cX cG ad (29) (Gm), mgC1 cI cL cZ cX cG ad (29) (Gm), mgC2 cI cL cZ cX cG ad (29) (Gm), mgC3 cI cL cZ cX cG ad (29) (Gm), mgC0 cI cL cZ cX cG ad (35) (M6)] _ 3 (fun i9 => (ad (36 + i9), aL cL 3 (M6 i9))) (by omega)) rfl (by omega) (by omega) (by decide) (ws' := [mdoC0 cI cL cZ ad (0) (((m : Nat) : Int)) (((n : Nat) : Int)) (yy) (k) (dn) (on) (tw) (bt) (bl) (bd) (((nq : Nat) : Int)) (dt) (tl) (ul) (th) (uh) (hd) (cn), mgC0 cI cL cZ cX cG ad (29) (Gm), mgC1 cI cL cZ cX cG ad (29) (Gm), mgC2 cI cL cZ cX cG ad (29) (Gm), mgC3 cI cL cZ cX cG ad (29) (Gm), mgC0 cI cL cZ cX cG ad (35) (up2 M6 a5 b5 x130), mgC1 cI cL cZ cX cG ad (35) (up2 M6 a5 b5 x130), mgC2 cI cL cZ cX cG ad (35) (up2 M6 a5 b5 x130), mgC3 cI cL cZ cX cG ad (35) (up2 M6 a5 b5 x130), l3C0 cI cL cZ ad (33) (hh), i3C0 cI cL cZ ad (46) (sg9), i3C0 cI cL cZ ad (47) (ac9), l3C0 cI cL cZ ad (48) (ba9), l3C0 cI cL cZ ad (49) (sl9)]) (rw_setL [mdoC0 cI cL cZ ad (0) (((m : Nat) : Int)) (((n : Nat) : Int)) (yy) (k) (dn) (on) (tw) (bt) (bl) (bd) (((nq : Nat) : Int)) (dt) (tl) (ul) (th) (uh) (hd) (cn), mgC0 cI cL cZ cX cG ad (29) (Gm), mgC1 cI cL cZ cX cG ad (29) (Gm), mgC2 cI cL cZ cX cG ad (29) (Gm), mgC3 cI cL cZ cX cG ad (29) (Gm), mgC0 cI cL cZ cX cG ad (35) (M6)] _ (X := M6) (n := 3) (k := a5) (by omega)) dX11_pattern_130 ?_
                    refine g_iinc (pc := 131) hG 3 rfl (by decide) (lv' := [(4, iV ((((b5 : Nat) : Int)) + 1)), (0, .ref (ad (0))), (1, iV (((p : Nat) : Int))), (3, iV (((a5 : Nat) : Int)))]) rfl dX11_pattern_131 ?_
                    refine g_goto (pc := 134) hG (tgt := 94) (by decide) dX11_pattern_134 ?_
                    exact g_lv (pc := 94) hG [1, 2, 3, 0] rfl (ih94 (b5 + 1) (up2 M6 a5 b5 x130) (by omega) (by omega) (gs_step hM6 ex130))
              exact g_lv (pc := 94) hG [1, 2, 3, 0] rfl (L94 _ 0 M5 (Nat.lt_succ_self _) (Nat.zero_le _) (fun a b h hb => hM5 a b (by omega) hb))
        exact g_lv (pc := 83) hG [1, 2, 0] rfl (L83 _ 0 Mm (Nat.lt_succ_self _) (Nat.zero_le _) (fun a b h => absurd h (Nat.not_lt_zero _)))
      · have hscb := stM_cb hp hm (show c < m by omega)
        refine g_aload_n (pc := 17) hG 0 rfl dX11_pattern_17 ?_
        refine g_get (pc := 18) hG fl11_65 0 rfl rfl dX11_pattern_18 ?_
        refine g_iload_n (pc := 21) hG 3 rfl dX11_pattern_21 ?_
        refine g_iload_n (pc := 22) hG 2 rfl dX11_pattern_22 ?_
        refine g_iconst (pc := 23) hG dX11_pattern_23 ?_
        refine g_irem (pc := 24) hG (by omega) (by omega) (by omega) dX11_pattern_24 ?_
        refine g_eqI (pc := 25) hG (show ((((lf : Nat) : Int)).tmod 3) = ((dig p c : Nat) : Int) by rw [show dig p c = lf % 3 by rw [hlf.1]; rfl, Int.tmod_eq_emod_of_nonneg (by omega)]; omega) ?_
        refine g_iconst (pc := 25) hG dX11_pattern_25 ?_
        refine g_isub (pc := 26) hG dX11_pattern_26 ?_
        refine g_eqI (pc := 27) hG (show (((dig p c : Nat) : Int)) - 1 = sgM p c by rfl) ?_
        refine g_nmI (pc := 27) hG (fun x27 ex27 => ?_)
        refine g_iastore (pc := 27) hG 10 c rfl rfl (by omega) (by omega) (by decide) (ws' := [mdoC0 cI cL cZ ad (0) (((m : Nat) : Int)) (((n : Nat) : Int)) (yy) (k) (dn) (on) (tw) (bt) (bl) (bd) (((nq : Nat) : Int)) (dt) (tl) (ul) (th) (uh) (hd) (cn), mgC0 cI cL cZ cX cG ad (29) (Gm), mgC1 cI cL cZ cX cG ad (29) (Gm), mgC2 cI cL cZ cX cG ad (29) (Gm), mgC3 cI cL cZ cX cG ad (29) (Gm), mgC0 cI cL cZ cX cG ad (35) (Mm), mgC1 cI cL cZ cX cG ad (35) (Mm), mgC2 cI cL cZ cX cG ad (35) (Mm), mgC3 cI cL cZ cX cG ad (35) (Mm), l3C0 cI cL cZ ad (33) (hh), i3C0 cI cL cZ ad (46) (upZ sg9 c x27), i3C0 cI cL cZ ad (47) (ac9), l3C0 cI cL cZ ad (48) (ba9), l3C0 cI cL cZ ad (49) (sl9)]) rfl dX11_pattern_27 ?_
        refine g_iload_n (pc := 28) hG 2 rfl dX11_pattern_28 ?_
        refine g_iconst (pc := 29) hG dX11_pattern_29 ?_
        refine g_idiv (pc := 30) hG (by omega) (by omega) (by omega) dX11_pattern_30 ?_
        refine g_eqI (pc := 31) hG (show ((((lf : Nat) : Int)).tdiv 3) = ((lf / 3 : Nat) : Int) by rw [Int.tdiv_eq_ediv_of_nonneg (by omega)]; omega) ?_
        refine g_istore_n (pc := 31) hG (by decide) (lv' := [(2, iV (((lf / 3 : Nat) : Int))), (0, .ref (ad (0))), (1, iV (((p : Nat) : Int))), (3, iV (((c : Nat) : Int)))]) rfl dX11_pattern_31 ?_
        refine g_aload_n (pc := 32) hG 1 rfl dX11_pattern_32 ?_
        refine g_get (pc := 33) hG fl11_71 0 rfl rfl dX11_pattern_33 ?_
        refine g_iload_n (pc := 36) hG 3 rfl dX11_pattern_36 ?_
        refine g_lconst (z := 0) (pc := 37) hG dX11_pattern_37 (by decide) ?_
        refine g_lastore (pc := 38) hG 12 c rfl rfl (by omega) (by omega) (by decide) (ws' := [mdoC0 cI cL cZ ad (0) (((m : Nat) : Int)) (((n : Nat) : Int)) (yy) (k) (dn) (on) (tw) (bt) (bl) (bd) (((nq : Nat) : Int)) (dt) (tl) (ul) (th) (uh) (hd) (cn), mgC0 cI cL cZ cX cG ad (29) (Gm), mgC1 cI cL cZ cX cG ad (29) (Gm), mgC2 cI cL cZ cX cG ad (29) (Gm), mgC3 cI cL cZ cX cG ad (29) (Gm), mgC0 cI cL cZ cX cG ad (35) (Mm), mgC1 cI cL cZ cX cG ad (35) (Mm), mgC2 cI cL cZ cX cG ad (35) (Mm), mgC3 cI cL cZ cX cG ad (35) (Mm), l3C0 cI cL cZ ad (33) (hh), i3C0 cI cL cZ ad (46) (upZ sg9 c x27), i3C0 cI cL cZ ad (47) (ac9), l3C0 cI cL cZ ad (48) (upZ ba9 c 0), l3C0 cI cL cZ ad (49) (sl9)]) rfl dX11_pattern_38 ?_
        refine g_aload_n (pc := 39) hG 1 rfl dX11_pattern_39 ?_
        refine g_get (pc := 40) hG fl11_74 0 rfl rfl dX11_pattern_40 ?_
        refine g_iload_n (pc := 43) hG 3 rfl dX11_pattern_43 ?_
        refine g_lconst (z := 0) (pc := 44) hG dX11_pattern_44 (by decide) ?_
        refine g_lastore (pc := 45) hG 13 c rfl rfl (by omega) (by omega) (by decide) (ws' := [mdoC0 cI cL cZ ad (0) (((m : Nat) : Int)) (((n : Nat) : Int)) (yy) (k) (dn) (on) (tw) (bt) (bl) (bd) (((nq : Nat) : Int)) (dt) (tl) (ul) (th) (uh) (hd) (cn), mgC0 cI cL cZ cX cG ad (29) (Gm), mgC1 cI cL cZ cX cG ad (29) (Gm), mgC2 cI cL cZ cX cG ad (29) (Gm), mgC3 cI cL cZ cX cG ad (29) (Gm), mgC0 cI cL cZ cX cG ad (35) (Mm), mgC1 cI cL cZ cX cG ad (35) (Mm), mgC2 cI cL cZ cX cG ad (35) (Mm), mgC3 cI cL cZ cX cG ad (35) (Mm), l3C0 cI cL cZ ad (33) (hh), i3C0 cI cL cZ ad (46) (upZ sg9 c x27), i3C0 cI cL cZ ad (47) (ac9), l3C0 cI cL cZ ad (48) (upZ ba9 c 0), l3C0 cI cL cZ ad (49) (upZ sl9 c 0)]) rfl dX11_pattern_45 ?_
        refine g_aload_n (pc := 46) hG 1 rfl dX11_pattern_46 ?_
        refine g_get (pc := 47) hG fl11_65 0 rfl rfl dX11_pattern_47 ?_
        refine g_iload_n (pc := 50) hG 3 rfl dX11_pattern_50 ?_
        refine g_iaload (pc := 51) hG 10 c rfl rfl (by omega) (by omega) (by decide) dX11_pattern_51 ?_
        refine g_eqI (pc := 52) hG (show (upZ sg9 c x27) c = sgM p c by rw [upZ_s, ex27]) ?_
        have hsb := sgM_bd p c
        refine g_if_eq (pc := 52) hG (by omega) (tgt := 75) (by decide) dX11_pattern_52 (fun h52 => ?_) (fun h52 => ?_)
        · refine g_iinc (pc := 75) hG 3 rfl (by decide) (lv' := [(3, iV ((((c : Nat) : Int)) + 1)), (2, iV (((lf / 3 : Nat) : Int))), (0, .ref (ad (0))), (1, iV (((p : Nat) : Int)))]) rfl dX11_pattern_75 ?_
          refine g_goto (pc := 78) hG (tgt := 9) (by decide) dX11_pattern_78 ?_
          exact g_lv (pc := 9) hG [2, 3, 1, 0] rfl (ih9 (lf / 3) (c + 1) nq (upZ sg9 c x27) ac9 (upZ ba9 c 0) (upZ sl9 c 0) (by omega) (by omega) (⟨by rw [hlf.1]; exact dig_step, by omega⟩) (by first | (rw [hscb, if_pos (sgM_z.mp h52)]; exact hnq) | (rw [hscb, if_neg (fun q => h52 (sgM_z.mpr q)), hnq])) (fill_step hsg ex27) (by first | exact hac | exact fill_step (g := fun a => ((clF (stM p m) a : Nat) : Int)) hac (by rw [hnq, clF_at hst (by omega) (by rw [stM_bit hp hm (by omega)]; exact decide_eq_true (fun q => h52 (sgM_z.mpr q)))])) (fill_step (g := fun _ => 0) hba rfl) (fill_step (g := fun _ => 0) hsl rfl))
        · refine g_aload_n (pc := 55) hG 1 rfl dX11_pattern_55 ?_
          refine g_get (pc := 56) hG fl11_68 0 rfl rfl dX11_pattern_56 ?_
          refine g_aload_n (pc := 59) hG 1 rfl dX11_pattern_59 ?_
          refine g_get (pc := 60) hG fl11_220 0 rfl rfl dX11_pattern_60 ?_
          refine g_iload_n (pc := 63) hG 3 rfl dX11_pattern_63 ?_
          refine g_iastore (pc := 64) hG 11 nq rfl rfl (by omega) (by omega) (by decide) (ws' := [mdoC0 cI cL cZ ad (0) (((m : Nat) : Int)) (((n : Nat) : Int)) (yy) (k) (dn) (on) (tw) (bt) (bl) (bd) (((nq : Nat) : Int)) (dt) (tl) (ul) (th) (uh) (hd) (cn), mgC0 cI cL cZ cX cG ad (29) (Gm), mgC1 cI cL cZ cX cG ad (29) (Gm), mgC2 cI cL cZ cX cG ad (29) (Gm), mgC3 cI cL cZ cX cG ad (29) (Gm), mgC0 cI cL cZ cX cG ad (35) (Mm), mgC1 cI cL cZ cX cG ad (35) (Mm), mgC2 cI cL cZ cX cG ad (35) (Mm), mgC3 cI cL cZ cX cG ad (35) (Mm), l3C0 cI cL cZ ad (33) (hh), i3C0 cI cL cZ ad (46) (upZ sg9 c x27), i3C0 cI cL cZ ad (47) (upZ ac9 nq (((c : Nat) : Int))), l3C0 cI cL cZ ad (48) (upZ ba9 c 0), l3C0 cI cL cZ ad (49) (upZ sl9 c 0)]) rfl dX11_pattern_64 ?_
          refine g_aload_n (pc := 65) hG 1 rfl dX11_pattern_65 ?_
          refine g_dup (pc := 66) hG rfl dX11_pattern_66 ?_
          refine g_get (pc := 67) hG fl11_220 0 rfl rfl dX11_pattern_67 ?_
          refine g_iconst (pc := 70) hG dX11_pattern_70 ?_
          refine g_iadd (pc := 71) hG dX11_pattern_71 ?_
          refine g_put (pc := 72) hG fp11_220 0 rfl rfl rfl (Nat.le_of_ble_eq_true rfl) (ws' := [mdoC0 cI cL cZ ad (0) (((m : Nat) : Int)) (((n : Nat) : Int)) (yy) (k) (dn) (on) (tw) (bt) (bl) (bd) (((nq + 1 : Nat) : Int)) (dt) (tl) (ul) (th) (uh) (hd) (cn), mgC0 cI cL cZ cX cG ad (29) (Gm), mgC1 cI cL cZ cX cG ad (29) (Gm), mgC2 cI cL cZ cX cG ad (29) (Gm), mgC3 cI cL cZ cX cG ad (29) (Gm), mgC0 cI cL cZ cX cG ad (35) (Mm), mgC1 cI cL cZ cX cG ad (35) (Mm), mgC2 cI cL cZ cX cG ad (35) (Mm), mgC3 cI cL cZ cX cG ad (35) (Mm), l3C0 cI cL cZ ad (33) (hh), i3C0 cI cL cZ ad (46) (upZ sg9 c x27), i3C0 cI cL cZ ad (47) (upZ ac9 nq (((c : Nat) : Int))), l3C0 cI cL cZ ad (48) (upZ ba9 c 0), l3C0 cI cL cZ ad (49) (upZ sl9 c 0)]) rfl dX11_pattern_72 ?_
          refine g_iinc (pc := 75) hG 3 rfl (by decide) (lv' := [(3, iV ((((c : Nat) : Int)) + 1)), (2, iV (((lf / 3 : Nat) : Int))), (0, .ref (ad (0))), (1, iV (((p : Nat) : Int)))]) rfl dX11_pattern_75 ?_
          refine g_goto (pc := 78) hG (tgt := 9) (by decide) dX11_pattern_78 ?_
          exact g_lv (pc := 9) hG [2, 3, 1, 0] rfl (ih9 (lf / 3) (c + 1) (nq + 1) (upZ sg9 c x27) (upZ ac9 nq (((c : Nat) : Int))) (upZ ba9 c 0) (upZ sl9 c 0) (by omega) (by omega) (⟨by rw [hlf.1]; exact dig_step, by omega⟩) (by first | (rw [hscb, if_pos (sgM_z.mp h52)]; exact hnq) | (rw [hscb, if_neg (fun q => h52 (sgM_z.mpr q)), hnq])) (fill_step hsg ex27) (by first | exact hac | exact fill_step (g := fun a => ((clF (stM p m) a : Nat) : Int)) hac (by rw [hnq, clF_at hst (by omega) (by rw [stM_bit hp hm (by omega)]; exact decide_eq_true (fun q => h52 (sgM_z.mpr q)))])) (fill_step (g := fun _ => 0) hba rfl) (fill_step (g := fun _ => 0) hsl rfl))
  exact g_lv (pc := 9) hG [2, 3, 1, 0] rfl (L9 _ p 0 0 sg ac ba sl (Nat.lt_succ_self _) (Nat.zero_le _) (⟨by simp, by omega⟩) (rfl) (fun j h => absurd h (Nat.not_lt_zero _)) (fun j h => absurd h (Nat.not_lt_zero _)) (fun j h => absurd h (Nat.not_lt_zero _)) (fun j h => absurd h (Nat.not_lt_zero _)))
set_option maxHeartbeats 4000000 in
set_option maxRecDepth 100000 in
theorem c_X11_patterns {l : Launch} {D : va_G} {cI cL cZ cX cG : ClassId} (m : Nat) (hm : 1 ≤ m ∧ m ≤ 3) : Ct l D (gT cI cL cZ cX cG) yX11_patterns cX11_patterns 1 (some .int) ({ frames := 0, cells := 0, slots := 0, locals := 0 }) [iV (((m : Nat) : Int))] ([]) (fun vv_ ww_ => vv_ = some (iV (((3 ^ m : Nat) : Int))) ∧ ww_ = []) := by
  refine Ct.of (by decide) (Nat.le_of_ble_eq_true rfl) (fun G hG => ?_)
  show G 0 [(0, iV (((m : Nat) : Int)))] [] ([])
  refine g_iload_n (pc := 0) hG 0 rfl dX11_patterns_0 ?_
  refine g_iconst (pc := 1) hG dX11_patterns_1 ?_
  have J21 : ∀ (j21s0 : Nat), (((¬ ((m : Nat) : Int) = 1) ∧ (¬ ((m : Nat) : Int) = 2) ∧ j21s0 = 27) ∨ ((¬ ((m : Nat) : Int) = 1) ∧ (((m : Nat) : Int) = 2) ∧ j21s0 = 9) ∨ ((((m : Nat) : Int) = 1) ∧ j21s0 = 3)) → G 21 [(0, iV (((m : Nat) : Int)))] [iV (((j21s0 : Nat) : Int))] ([]) := by
    intro j21s0 k21
    exact g_ireturn (pc := 21) hG ⟨sI (pat_n hm k21), rfl⟩ dX11_patterns_21
  refine g_icmp_ne (pc := 2) hG (by omega) (by omega) (tgt := 9) (by decide) dX11_patterns_2 (fun h2 => ?_) (fun h2 => ?_)
  · refine g_iload_n (pc := 9) hG 0 rfl dX11_patterns_9 ?_
    refine g_iconst (pc := 10) hG dX11_patterns_10 ?_
    refine g_icmp_ne (pc := 11) hG (by omega) (by omega) (tgt := 19) (by decide) dX11_patterns_11 (fun h11 => ?_) (fun h11 => ?_)
    · refine g_bipush (pc := 19) hG dX11_patterns_19 (by decide) ?_
      exact g_lv (pc := 21) hG [0] rfl (J21 27 (Or.inl ⟨h2, h11, rfl⟩))
    · refine g_bipush (pc := 14) hG dX11_patterns_14 (by decide) ?_
      refine g_goto (pc := 16) hG (tgt := 21) (by decide) dX11_patterns_16 ?_
      exact g_lv (pc := 21) hG [0] rfl (J21 9 (Or.inr (Or.inl ⟨h2, h11, rfl⟩)))
  · refine g_iconst (pc := 5) hG dX11_patterns_5 ?_
    refine g_goto (pc := 6) hG (tgt := 21) (by decide) dX11_patterns_6 ?_
    exact g_lv (pc := 21) hG [0] rfl (J21 3 (Or.inr (Or.inr (⟨h2, rfl⟩))))
