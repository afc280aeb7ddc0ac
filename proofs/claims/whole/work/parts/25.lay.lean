set_option maxHeartbeats 4000000 in
set_option maxRecDepth 100000 in
theorem c_X0_lay {l : Launch} {D : va_G} {cI cL cZ cX cG : ClassId} (ad : Nat → Nat) (o : Nat) (o2 : Nat) (cn : Int) (ts : Int) (rk : Int) (P8 : Nat → Int) (R8 : Nat → Int) (S8 : Nat → Int) (sg : Nat → Int) (db : Nat → Int) (bs : Nat → Int) (sl : Nat → Int) (fx : Nat → Int) (rs : Nat → Int) (st : Nat → Bool) (P : Nat → Int) (R : Nat → Int) (ts9 : Int) (rk9 : Int) (p : Nat) (hp : p < 27) (hP : PB P) : Ct l D (gT cI cL cZ cX cG) yX0_lay cX0_lay 7 (some .boolean) ({ frames := 2, cells := 0, slots := 0, locals := 58 }) [.ref (ad (o)), .ref (ad (o2)), iV (((p : Nat) : Int))] ([broC0 cI cL cZ ad (o) (cn), sqoC0 cI cL cZ ad (o + 1) (ts) (rk), l9C0 cI cL cZ ad (o + 2) (P8), l3C0 cI cL cZ ad (o + 3) (R8), l4C0 cI cL cZ ad (o + 5) (S8), l3C0 cI cL cZ ad (o + 6) (sg), l3C0 cI cL cZ ad (o + 7) (db), l3C0 cI cL cZ ad (o + 8) (bs), l3C0 cI cL cZ ad (o + 9) (sl), l6C0 cI cL cZ ad (o + 10) (fx), l6C0 cI cL cZ ad (o + 11) (rs), z6C0 cI cL cZ ad (o + 12) (st), sqoC0 cI cL cZ ad (o2) (ts9) (rk9), l9C0 cI cL cZ ad (o2 + 1) (P), l3C0 cI cL cZ ad (o2 + 2) (R)]) (fun vv_ ww_ => ∃ (v : Bool), ∃ (cn2 : Int), ∃ (ts2 : Int), ∃ (r2 : Nat), ∃ (P2 : Nat → Int), ∃ (R2 : Nat → Int), ∃ (S2 : Nat → Int), ∃ (sg2 : Nat → Int), ∃ (db2 : Nat → Int), ∃ (bs2 : Nat → Int), ∃ (sl2 : Nat → Int), ∃ (fx2 : Nat → Int), ∃ (rs2 : Nat → Int), ∃ (st2 : Nat → Bool), (LayR P R ts9 p v cn2 ts2 r2 S2 sg2 db2 bs2 sl2 fx2 rs2 st2) ∧ vv_ = some (bV (v)) ∧ ww_ = [broC0 cI cL cZ ad (o) (cn2), sqoC0 cI cL cZ ad (o + 1) (ts2) (((r2 : Nat) : Int)), l9C0 cI cL cZ ad (o + 2) (P2), l3C0 cI cL cZ ad (o + 3) (R2), l4C0 cI cL cZ ad (o + 5) (S2), l3C0 cI cL cZ ad (o + 6) (sg2), l3C0 cI cL cZ ad (o + 7) (db2), l3C0 cI cL cZ ad (o + 8) (bs2), l3C0 cI cL cZ ad (o + 9) (sl2), l6C0 cI cL cZ ad (o + 10) (fx2), l6C0 cI cL cZ ad (o + 11) (rs2), z6C0 cI cL cZ ad (o + 12) (st2), sqoC0 cI cL cZ ad (o2) (ts9) (rk9), l9C0 cI cL cZ ad (o2 + 1) (P), l3C0 cI cL cZ ad (o2 + 2) (R)]) := by
  refine Ct.of (by decide) (Nat.le_of_ble_eq_true rfl) (fun G hG => ?_)
  show G 0 [(0, .ref (ad (o))), (1, .ref (ad (o2))), (2, iV (((p : Nat) : Int)))] [] ([broC0 cI cL cZ ad (o) (cn), sqoC0 cI cL cZ ad (o + 1) (ts) (rk), l9C0 cI cL cZ ad (o + 2) (P8), l3C0 cI cL cZ ad (o + 3) (R8), l4C0 cI cL cZ ad (o + 5) (S8), l3C0 cI cL cZ ad (o + 6) (sg), l3C0 cI cL cZ ad (o + 7) (db), l3C0 cI cL cZ ad (o + 8) (bs), l3C0 cI cL cZ ad (o + 9) (sl), l6C0 cI cL cZ ad (o + 10) (fx), l6C0 cI cL cZ ad (o + 11) (rs), z6C0 cI cL cZ ad (o + 12) (st), sqoC0 cI cL cZ ad (o2) (ts9) (rk9), l9C0 cI cL cZ ad (o2 + 1) (P), l3C0 cI cL cZ ad (o2 + 2) (R)])
  refine g_iconst (pc := 0) hG dX0_lay_0 ?_
  refine g_istore_n (pc := 1) hG (by decide) (lv' := [(3, iV (0)), (0, .ref (ad (o))), (1, .ref (ad (o2))), (2, iV (((p : Nat) : Int)))]) rfl dX0_lay_1 ?_
  refine g_iload_n (pc := 2) hG 3 rfl dX0_lay_2 ?_
  refine g_istore (pc := 3) hG (by decide) (lv' := [(4, iV (((p : Nat) : Int))), (3, iV (0)), (0, .ref (ad (o))), (1, .ref (ad (o2))), (2, iV (((p : Nat) : Int)))]) rfl dX0_lay_3 ?_
  refine g_iconst (pc := 5) hG dX0_lay_5 ?_
  refine g_istore (pc := 6) hG (by decide) (lv' := [(5, iV (0)), (4, iV (((p : Nat) : Int))), (3, iV (0)), (0, .ref (ad (o))), (1, .ref (ad (o2))), (2, iV (((p : Nat) : Int)))]) rfl dX0_lay_6 ?_
  have L8 : ∀ (fu8 : Nat) (c : Nat) (r : Nat) (mk : Nat) (sg9 : Nat → Int) (db9 : Nat → Int), 3 - c < fu8 → (c ≤ 3) → (r = p / 3 ^ c) → (mk = mskC p c) → (∀ i, i < c → sg9 i = sgP p i) → (∀ i, i < c → db9 i = dbP R p i) → G 8 [(0, .ref (ad (o))), (1, .ref (ad (o2))), (2, iV (((p : Nat) : Int))), (3, iV (((mk : Nat) : Int))), (4, iV (((r : Nat) : Int))), (5, iV (((c : Nat) : Int)))] [] ([broC0 cI cL cZ ad (o) (cn), sqoC0 cI cL cZ ad (o + 1) (ts) (rk), l9C0 cI cL cZ ad (o + 2) (P8), l3C0 cI cL cZ ad (o + 3) (R8), l4C0 cI cL cZ ad (o + 5) (S8), l3C0 cI cL cZ ad (o + 6) (sg9), l3C0 cI cL cZ ad (o + 7) (db9), l3C0 cI cL cZ ad (o + 8) (bs), l3C0 cI cL cZ ad (o + 9) (sl), l6C0 cI cL cZ ad (o + 10) (fx), l6C0 cI cL cZ ad (o + 11) (rs), z6C0 cI cL cZ ad (o + 12) (st), sqoC0 cI cL cZ ad (o2) (ts9) (rk9), l9C0 cI cL cZ ad (o2 + 1) (P), l3C0 cI cL cZ ad (o2 + 2) (R)]) := by
    intro fu8
    induction fu8 with
    | zero => intro c r mk sg9 db9 hm; exact absurd hm (Nat.not_lt_zero _)
    | succ fu8 ih8 =>
      intro c r mk sg9 db9 hm8 hc hr hm hsg hdb
      refine g_iload (pc := 8) hG 5 rfl dX0_lay_8 ?_
      refine g_iconst (pc := 10) hG dX0_lay_10 ?_
      refine g_icmp_ge (pc := 11) hG (by omega) (by omega) (tgt := 97) (by decide) dX0_lay_11 (fun h11 => ?_) (fun h11 => ?_)
      · have e3 : c = 3 := by omega
        have hmk8 : mk < 8 := by rw [hm]; exact mskC_lt p c (by omega)
        refine g_aload_n (pc := 97) hG 0 rfl dX0_lay_97 ?_
        refine g_get (pc := 98) hG fl0_12 0 rfl rfl dX0_lay_98 ?_
        refine g_aload_n (pc := 101) hG 1 rfl dX0_lay_101 ?_
        refine g_iload_n (pc := 102) hG 3 rfl dX0_lay_102 ?_
        refine g_callV (pc := 103) hG (As := [.ref (ad (o2)), iV (((mk : Nat) : Int))]) (rest := []) (c_X8_copyColumns (l := l) (D := D) (cI := cI) (cL := cL) (cZ := cZ) (cX := cX) (cG := cG) ad (o + 1) o2 P8 R8 ts rk P R ts9 rk9 mk (hmk8)) (Sp.sel [1, 2, 3, 12, 13, 14] rfl (by decide)) cv0_94 ⟨rfl, rfl⟩ ⟨Nat.le_of_ble_eq_true rfl, Nat.le_of_ble_eq_true rfl⟩ 1 rfl rfl rfl rfl (Nat.le_of_ble_eq_true rfl) dX0_lay_103 (fun v w1 h => ?_)
        obtain ⟨P2_103, R2_103, hP_103, hR_103, rfl, rfl⟩ := h
        show G 106 [(0, .ref (ad (o))), (1, .ref (ad (o2))), (2, iV (((p : Nat) : Int))), (3, iV (((mk : Nat) : Int))), (4, iV (((r : Nat) : Int))), (5, iV (((c : Nat) : Int)))] [] ([broC0 cI cL cZ ad (o) (cn), sqoC0 cI cL cZ ad (o + 1) (ts9) (rk), l9C0 cI cL cZ ad (o + 2) (P2_103), l3C0 cI cL cZ ad (o + 3) (R2_103), l4C0 cI cL cZ ad (o + 5) (S8), l3C0 cI cL cZ ad (o + 6) (sg9), l3C0 cI cL cZ ad (o + 7) (db9), l3C0 cI cL cZ ad (o + 8) (bs), l3C0 cI cL cZ ad (o + 9) (sl), l6C0 cI cL cZ ad (o + 10) (fx), l6C0 cI cL cZ ad (o + 11) (rs), z6C0 cI cL cZ ad (o + 12) (st), sqoC0 cI cL cZ ad (o2) (ts9) (rk9), l9C0 cI cL cZ ad (o2 + 1) (P), l3C0 cI cL cZ ad (o2 + 2) (R)])
        have hq9 := qp_agree (P := P) (p := p) (by rw [hm, e3]; rfl) hP_103
        refine g_aload_n (pc := 106) hG 0 rfl dX0_lay_106 ?_
        refine g_get (pc := 107) hG fl0_12 0 rfl rfl dX0_lay_107 ?_
        refine g_callV (pc := 110) hG (As := []) (rest := []) (c_X8_measure (l := l) (D := D) (cI := cI) (cL := cL) (cZ := cZ) (cX := cX) (cG := cG) ad (o + 1) P2_103 S8 ts9 rk (PB_congr hq9 (PB_qp hP p))) (Sp.sel [1, 2, 4] rfl (by decide)) cv0_98 ⟨rfl, rfl⟩ ⟨Nat.le_of_ble_eq_true rfl, Nat.le_of_ble_eq_true rfl⟩ 1 rfl rfl rfl rfl (Nat.le_of_ble_eq_true rfl) dX0_lay_110 (fun v w1 h => ?_)
        obtain ⟨S2_110, hS_110, rfl, rfl⟩ := h
        show G 113 [(0, .ref (ad (o))), (1, .ref (ad (o2))), (2, iV (((p : Nat) : Int))), (3, iV (((mk : Nat) : Int))), (4, iV (((r : Nat) : Int))), (5, iV (((c : Nat) : Int)))] [] ([broC0 cI cL cZ ad (o) (cn), sqoC0 cI cL cZ ad (o + 1) (ts9) (((rk0 P2_103 : Nat) : Int)), l9C0 cI cL cZ ad (o + 2) (P2_103), l3C0 cI cL cZ ad (o + 3) (R2_103), l4C0 cI cL cZ ad (o + 5) (S2_110), l3C0 cI cL cZ ad (o + 6) (sg9), l3C0 cI cL cZ ad (o + 7) (db9), l3C0 cI cL cZ ad (o + 8) (bs), l3C0 cI cL cZ ad (o + 9) (sl), l6C0 cI cL cZ ad (o + 10) (fx), l6C0 cI cL cZ ad (o + 11) (rs), z6C0 cI cL cZ ad (o + 12) (st), sqoC0 cI cL cZ ad (o2) (ts9) (rk9), l9C0 cI cL cZ ad (o2 + 1) (P), l3C0 cI cL cZ ad (o2 + 2) (R)])
        have hrk : rk0 P2_103 = rk0 (QP P p) := rk0_congr hq9
        have hrl := rk_le P2_103
        have hbc := bc_le mk
        refine g_aload_n (pc := 113) hG 0 rfl dX0_lay_113 ?_
        refine g_get (pc := 114) hG fl0_12 0 rfl rfl dX0_lay_114 ?_
        refine g_get (pc := 117) hG fl0_101 1 rfl rfl dX0_lay_117 ?_
        refine g_iload_n (pc := 120) hG 3 rfl dX0_lay_120 ?_
        refine g_callP (pc := 121) hG (As := [iV (((mk : Nat) : Int))]) (rest := [iV (((rk0 P2_103 : Nat) : Int))]) (c_J6_bitCount_0f7a4 (l := l) (D := D) (cI := cI) (cL := cL) (cZ := cZ) (cX := cX) (cG := cG) mk (hmk8)) cs0_105 ⟨rfl, rfl⟩ ⟨Nat.le_of_ble_eq_true rfl, Nat.le_of_ble_eq_true rfl⟩ rfl rfl (Nat.le_of_ble_eq_true rfl) dX0_lay_121 (fun v h => ?_)
        obtain ⟨rfl, -⟩ := h
        show G 124 [(0, .ref (ad (o))), (1, .ref (ad (o2))), (2, iV (((p : Nat) : Int))), (3, iV (((mk : Nat) : Int))), (4, iV (((r : Nat) : Int))), (5, iV (((c : Nat) : Int)))] [iV (((bcN mk : Nat) : Int)), iV (((rk0 P2_103 : Nat) : Int))] ([broC0 cI cL cZ ad (o) (cn), sqoC0 cI cL cZ ad (o + 1) (ts9) (((rk0 P2_103 : Nat) : Int)), l9C0 cI cL cZ ad (o + 2) (P2_103), l3C0 cI cL cZ ad (o + 3) (R2_103), l4C0 cI cL cZ ad (o + 5) (S2_110), l3C0 cI cL cZ ad (o + 6) (sg9), l3C0 cI cL cZ ad (o + 7) (db9), l3C0 cI cL cZ ad (o + 8) (bs), l3C0 cI cL cZ ad (o + 9) (sl), l6C0 cI cL cZ ad (o + 10) (fx), l6C0 cI cL cZ ad (o + 11) (rs), z6C0 cI cL cZ ad (o + 12) (st), sqoC0 cI cL cZ ad (o2) (ts9) (rk9), l9C0 cI cL cZ ad (o2 + 1) (P), l3C0 cI cL cZ ad (o2 + 2) (R)])
        refine g_icmp_eq (pc := 124) hG (by omega) (by omega) (tgt := 129) (by decide) dX0_lay_124 (fun h124 => ?_) (fun h124 => ?_)
        · refine g_aload_n (pc := 129) hG 0 rfl dX0_lay_129 ?_
          refine g_get (pc := 130) hG fl0_12 0 rfl rfl dX0_lay_130 ?_
          refine g_aload_n (pc := 133) hG 0 rfl dX0_lay_133 ?_
          refine g_get (pc := 134) hG fl0_22 0 rfl rfl dX0_lay_134 ?_
          refine g_aload_n (pc := 137) hG 0 rfl dX0_lay_137 ?_
          refine g_get (pc := 138) hG fl0_25 0 rfl rfl dX0_lay_138 ?_
          refine g_callV (pc := 141) hG (As := [.ref (ad (o + 7)), .ref (ad (o + 8))]) (rest := []) (c_X8_solveFor (l := l) (D := D) (cI := cI) (cL := cL) (cZ := cZ) (cX := cX) (cG := cG) ad (o + 1) (o + 7) (o + 8) P2_103 S2_110 db9 bs ts9 (rk0 P2_103) (rk_le _)) (Sp.sel [1, 2, 4, 6, 7] rfl (by decide)) cv0_110 ⟨rfl, rfl⟩ ⟨Nat.le_of_ble_eq_true rfl, Nat.le_of_ble_eq_true rfl⟩ 1 rfl rfl rfl rfl (Nat.le_of_ble_eq_true rfl) dX0_lay_141 (fun v w1 h => ?_)
          obtain ⟨g2_141, hg_141, rfl, rfl⟩ := h
          show G 144 [(0, .ref (ad (o))), (1, .ref (ad (o2))), (2, iV (((p : Nat) : Int))), (3, iV (((mk : Nat) : Int))), (4, iV (((r : Nat) : Int))), (5, iV (((c : Nat) : Int)))] [] ([broC0 cI cL cZ ad (o) (cn), sqoC0 cI cL cZ ad (o + 1) (ts9) ((((rk0 P2_103) : Nat) : Int)), l9C0 cI cL cZ ad (o + 2) (P2_103), l3C0 cI cL cZ ad (o + 3) (R2_103), l4C0 cI cL cZ ad (o + 5) (S2_110), l3C0 cI cL cZ ad (o + 6) (sg9), l3C0 cI cL cZ ad (o + 7) (db9), l3C0 cI cL cZ ad (o + 8) (g2_141), l3C0 cI cL cZ ad (o + 9) (sl), l6C0 cI cL cZ ad (o + 10) (fx), l6C0 cI cL cZ ad (o + 11) (rs), z6C0 cI cL cZ ad (o + 12) (st), sqoC0 cI cL cZ ad (o2) (ts9) (rk9), l9C0 cI cL cZ ad (o2 + 1) (P), l3C0 cI cL cZ ad (o2 + 2) (R)])
          refine g_aload_n (pc := 144) hG 0 rfl dX0_lay_144 ?_
          refine g_get (pc := 145) hG fl0_12 0 rfl rfl dX0_lay_145 ?_
          refine g_aload_n (pc := 148) hG 0 rfl dX0_lay_148 ?_
          refine g_get (pc := 149) hG fl0_18 0 rfl rfl dX0_lay_149 ?_
          refine g_aload_n (pc := 152) hG 0 rfl dX0_lay_152 ?_
          refine g_get (pc := 153) hG fl0_28 0 rfl rfl dX0_lay_153 ?_
          refine g_callV (pc := 156) hG (As := [.ref (ad (o + 6)), .ref (ad (o + 9))]) (rest := []) (c_X8_solveFor (l := l) (D := D) (cI := cI) (cL := cL) (cZ := cZ) (cX := cX) (cG := cG) ad (o + 1) (o + 6) (o + 9) P2_103 S2_110 sg9 sl ts9 ((rk0 P2_103)) (rk_le _)) (Sp.sel [1, 2, 4, 5, 8] rfl (by decide)) cv0_110 ⟨rfl, rfl⟩ ⟨Nat.le_of_ble_eq_true rfl, Nat.le_of_ble_eq_true rfl⟩ 1 rfl rfl rfl rfl (Nat.le_of_ble_eq_true rfl) dX0_lay_156 (fun v w1 h => ?_)
          obtain ⟨g2_156, hg_156, rfl, rfl⟩ := h
          show G 159 [(0, .ref (ad (o))), (1, .ref (ad (o2))), (2, iV (((p : Nat) : Int))), (3, iV (((mk : Nat) : Int))), (4, iV (((r : Nat) : Int))), (5, iV (((c : Nat) : Int)))] [] ([broC0 cI cL cZ ad (o) (cn), sqoC0 cI cL cZ ad (o + 1) (ts9) (((((rk0 P2_103)) : Nat) : Int)), l9C0 cI cL cZ ad (o + 2) (P2_103), l3C0 cI cL cZ ad (o + 3) (R2_103), l4C0 cI cL cZ ad (o + 5) (S2_110), l3C0 cI cL cZ ad (o + 6) (sg9), l3C0 cI cL cZ ad (o + 7) (db9), l3C0 cI cL cZ ad (o + 8) (g2_141), l3C0 cI cL cZ ad (o + 9) (g2_156), l6C0 cI cL cZ ad (o + 10) (fx), l6C0 cI cL cZ ad (o + 11) (rs), z6C0 cI cL cZ ad (o + 12) (st), sqoC0 cI cL cZ ad (o2) (ts9) (rk9), l9C0 cI cL cZ ad (o2 + 1) (P), l3C0 cI cL cZ ad (o2 + 2) (R)])
          refine g_aload_n (pc := 159) hG 0 rfl dX0_lay_159 ?_
          refine g_iconst (pc := 160) hG dX0_lay_160 ?_
          refine g_put (pc := 161) hG fp0_114 0 rfl rfl rfl (Nat.le_of_ble_eq_true rfl) (ws' := [broC0 cI cL cZ ad (o) (0), sqoC0 cI cL cZ ad (o + 1) (ts9) (((((rk0 P2_103)) : Nat) : Int)), l9C0 cI cL cZ ad (o + 2) (P2_103), l3C0 cI cL cZ ad (o + 3) (R2_103), l4C0 cI cL cZ ad (o + 5) (S2_110), l3C0 cI cL cZ ad (o + 6) (sg9), l3C0 cI cL cZ ad (o + 7) (db9), l3C0 cI cL cZ ad (o + 8) (g2_141), l3C0 cI cL cZ ad (o + 9) (g2_156), l6C0 cI cL cZ ad (o + 10) (fx), l6C0 cI cL cZ ad (o + 11) (rs), z6C0 cI cL cZ ad (o + 12) (st), sqoC0 cI cL cZ ad (o2) (ts9) (rk9), l9C0 cI cL cZ ad (o2 + 1) (P), l3C0 cI cL cZ ad (o2 + 2) (R)]) rfl dX0_lay_161 ?_
          refine g_iconst (pc := 164) hG dX0_lay_164 ?_
          refine g_istore (pc := 165) hG (by decide) (lv' := [(5, iV (0)), (0, .ref (ad (o))), (1, .ref (ad (o2))), (2, iV (((p : Nat) : Int))), (3, iV (((mk : Nat) : Int))), (4, iV (((r : Nat) : Int)))]) rfl dX0_lay_165 ?_
          have L167 : ∀ (fu167 : Nat) (c : Nat) (n9 : Nat) (fx9 : Nat → Int) (rs9 : Nat → Int) (st9 : Nat → Bool), 3 - c < fu167 → (c ≤ 3) → (CdI P R p c n9 fx9 rs9 st9) → G 167 [(0, .ref (ad (o))), (1, .ref (ad (o2))), (5, iV (((c : Nat) : Int)))] [] ([broC0 cI cL cZ ad (o) (((n9 : Nat) : Int)), sqoC0 cI cL cZ ad (o + 1) (ts9) (((rk0 P2_103 : Nat) : Int)), l9C0 cI cL cZ ad (o + 2) (P2_103), l3C0 cI cL cZ ad (o + 3) (R2_103), l4C0 cI cL cZ ad (o + 5) (S2_110), l3C0 cI cL cZ ad (o + 6) (sg9), l3C0 cI cL cZ ad (o + 7) (db9), l3C0 cI cL cZ ad (o + 8) (g2_141), l3C0 cI cL cZ ad (o + 9) (g2_156), l6C0 cI cL cZ ad (o + 10) (fx9), l6C0 cI cL cZ ad (o + 11) (rs9), z6C0 cI cL cZ ad (o + 12) (st9), sqoC0 cI cL cZ ad (o2) (ts9) (rk9), l9C0 cI cL cZ ad (o2 + 1) (P), l3C0 cI cL cZ ad (o2 + 2) (R)]) := by
            intro fu167
            induction fu167 with
            | zero => intro c n9 fx9 rs9 st9 hm; exact absurd hm (Nat.not_lt_zero _)
            | succ fu167 ih167 =>
              intro c n9 fx9 rs9 st9 hm167 hc5 hI
              have hlf := lay_fin (R := R) e3 hq9 hS_110 hg_141 hg_156 hsg hdb
              refine g_iload (pc := 167) hG 2 rfl dX0_lay_167 ?_
              refine g_iconst (pc := 169) hG dX0_lay_169 ?_
              refine g_icmp_ge (pc := 170) hG (by omega) (by omega) (tgt := 237) (by decide) dX0_lay_170 (fun h170 => ?_) (fun h170 => ?_)
              · refine g_iconst (pc := 237) hG dX0_lay_237 ?_
                exact g_zreturn (pc := 238) hG (true) rfl ⟨true, ((n9 : Nat) : Int), ts9, rk0 P2_103, P2_103, R2_103, S2_110, sg9, db9, g2_141, g2_156, fx9, rs9, st9, LayR.yes hq9 hS_110 hm e3 h124 hsg hdb hlf (by omega) hI, rfl, rfl⟩ dX0_lay_238
              · refine g_aload_n (pc := 173) hG 0 rfl dX0_lay_173 ?_
                refine g_get (pc := 174) hG fl0_18 0 rfl rfl dX0_lay_174 ?_
                refine g_iload (pc := 177) hG 2 rfl dX0_lay_177 ?_
                refine g_laload (pc := 179) hG 5 c rfl rfl (by omega) (by omega) (by decide) dX0_lay_179 ?_
                refine g_lconst (z := 0) (pc := 180) hG dX0_lay_180 (by decide) ?_
                have hsb := sg_bd p c
                rw [← hsg c (by omega)] at hsb
                have hn9 := hI.1
                refine g_lc_ne (pc := 181) hG (by omega) (by omega) (tgt := 195) (by decide) dX0_lay_181 dX0_lay_182 (fun h181 => ?_) (fun h181 => ?_)
                · refine g_aload_n (pc := 195) hG 0 rfl dX0_lay_195 ?_
                  refine g_aload_n (pc := 196) hG 0 rfl dX0_lay_196 ?_
                  refine g_get (pc := 197) hG fl0_18 0 rfl rfl dX0_lay_197 ?_
                  refine g_iload (pc := 200) hG 2 rfl dX0_lay_200 ?_
                  refine g_laload (pc := 202) hG 5 c rfl rfl (by omega) (by omega) (by decide) dX0_lay_202 ?_
                  refine g_aload_n (pc := 203) hG 0 rfl dX0_lay_203 ?_
                  refine g_get (pc := 204) hG fl0_25 0 rfl rfl dX0_lay_204 ?_
                  refine g_iload (pc := 207) hG 2 rfl dX0_lay_207 ?_
                  refine g_laload (pc := 209) hG 7 c rfl rfl (by omega) (by omega) (by decide) dX0_lay_209 ?_
                  refine g_lmul (pc := 210) hG dX0_lay_210 ?_
                  refine g_aload_n (pc := 211) hG 0 rfl dX0_lay_211 ?_
                  refine g_get (pc := 212) hG fl0_18 0 rfl rfl dX0_lay_212 ?_
                  refine g_iload (pc := 215) hG 2 rfl dX0_lay_215 ?_
                  refine g_laload (pc := 217) hG 5 c rfl rfl (by omega) (by omega) (by decide) dX0_lay_217 ?_
                  refine g_lneg (pc := 218) hG dX0_lay_218 ?_
                  refine g_aload_n (pc := 219) hG 0 rfl dX0_lay_219 ?_
                  refine g_get (pc := 220) hG fl0_28 0 rfl rfl dX0_lay_220 ?_
                  refine g_iload (pc := 223) hG 2 rfl dX0_lay_223 ?_
                  refine g_laload (pc := 225) hG 8 c rfl rfl (by omega) (by omega) (by decide) dX0_lay_225 ?_
                  refine g_lmul (pc := 226) hG dX0_lay_226 ?_
                  refine g_iconst (pc := 227) hG dX0_lay_227 ?_
                  refine g_callV (pc := 228) hG (As := [lV ((sg9 c) * (g2_141 c)), lV ((-(sg9 c)) * (g2_156 c)), iV (1)]) (rest := []) (c_X0_addCondition (l := l) (D := D) (cI := cI) (cL := cL) (cZ := cZ) (cX := cX) (cG := cG) ad o n9 fx9 rs9 st9 ((sg9 c) * (g2_141 c)) ((-(sg9 c)) * (g2_156 c)) true (by have := hI.1; omega)) (Sp.sel [0, 9, 10, 11] rfl (by decide)) cv0_120 ⟨rfl, rfl⟩ ⟨Nat.le_of_ble_eq_true rfl, Nat.le_of_ble_eq_true rfl⟩ 0 rfl rfl rfl rfl (Nat.le_of_ble_eq_true rfl) dX0_lay_228 (fun v w1 h => ?_)
                  obtain ⟨rfl, rfl⟩ := h
                  show G 231 [(0, .ref (ad (o))), (1, .ref (ad (o2))), (5, iV (((c : Nat) : Int)))] [] ([broC0 cI cL cZ ad (o) (((n9 + 1 : Nat) : Int)), sqoC0 cI cL cZ ad (o + 1) (ts9) (((rk0 P2_103 : Nat) : Int)), l9C0 cI cL cZ ad (o + 2) (P2_103), l3C0 cI cL cZ ad (o + 3) (R2_103), l4C0 cI cL cZ ad (o + 5) (S2_110), l3C0 cI cL cZ ad (o + 6) (sg9), l3C0 cI cL cZ ad (o + 7) (db9), l3C0 cI cL cZ ad (o + 8) (g2_141), l3C0 cI cL cZ ad (o + 9) (g2_156), l6C0 cI cL cZ ad (o + 10) (upZ fx9 n9 ((sg9 c) * (g2_141 c))), l6C0 cI cL cZ ad (o + 11) (upZ rs9 n9 ((-(sg9 c)) * (g2_156 c))), z6C0 cI cL cZ ad (o + 12) (upB st9 n9 true), sqoC0 cI cL cZ ad (o2) (ts9) (rk9), l9C0 cI cL cZ ad (o2 + 1) (P), l3C0 cI cL cZ ad (o2 + 2) (R)])
                  refine g_iinc (pc := 231) hG 2 rfl (by decide) (lv' := [(5, iV ((((c : Nat) : Int)) + 1)), (0, .ref (ad (o))), (1, .ref (ad (o2)))]) rfl dX0_lay_231 ?_
                  refine g_goto (pc := 234) hG (tgt := 167) (by decide) dX0_lay_234 ?_
                  exact g_lv (pc := 167) hG [1, 2, 0] rfl (ih167 (c + 1) (n9 + 1) (upZ fx9 n9 ((sg9 c) * (g2_141 c))) (upZ rs9 n9 ((-(sg9 c)) * (g2_156 c))) (upB st9 n9 true) (by omega) (by omega) (hI.push1 (by omega) (by rw [hsg c (by omega)] at h181; exact sg_ne h181) (by rw [hsg c (by omega), hlf.2.1 c (by omega)]) (by rw [hsg c (by omega), hlf.2.2.1 c (by omega)])))
                · refine g_aload_n (pc := 185) hG 0 rfl dX0_lay_185 ?_
                  refine g_aload_n (pc := 186) hG 1 rfl dX0_lay_186 ?_
                  refine g_iload (pc := 187) hG 2 rfl dX0_lay_187 ?_
                  refine g_callV (pc := 189) hG (As := [.ref (ad (o2)), iV (((c : Nat) : Int))]) (rest := []) (c_X0_holdBack (l := l) (D := D) (cI := cI) (cL := cL) (cZ := cZ) (cX := cX) (cG := cG) ad o o2 n9 fx9 rs9 st9 S2_110 ts9 (rk0 P2_103) g2_141 g2_156 P R ts9 rk9 c (by have := hI.1; omega) (rk_le _) (by omega)) (Sp.sel [0, 9, 10, 11, 1, 4, 7, 8, 12, 13, 14] rfl (by decide)) cv0_117 ⟨rfl, rfl⟩ ⟨Nat.le_of_ble_eq_true rfl, Nat.le_of_ble_eq_true rfl⟩ 0 rfl rfl rfl rfl (Nat.le_of_ble_eq_true rfl) dX0_lay_189 (fun v w1 h => ?_)
                  obtain ⟨dr_189, mo_189, hdr_189, hmo_189, rfl, rfl⟩ := h
                  show G 192 [(0, .ref (ad (o))), (1, .ref (ad (o2))), (5, iV (((c : Nat) : Int)))] [] ([broC0 cI cL cZ ad (o) (((n9 + 2 : Nat) : Int)), sqoC0 cI cL cZ ad (o + 1) (ts9) ((((rk0 P2_103) : Nat) : Int)), l9C0 cI cL cZ ad (o + 2) (P2_103), l3C0 cI cL cZ ad (o + 3) (R2_103), l4C0 cI cL cZ ad (o + 5) (S2_110), l3C0 cI cL cZ ad (o + 6) (sg9), l3C0 cI cL cZ ad (o + 7) (db9), l3C0 cI cL cZ ad (o + 8) (g2_141), l3C0 cI cL cZ ad (o + 9) (g2_156), l6C0 cI cL cZ ad (o + 10) (upZ (upZ fx9 n9 (-dr_189)) (n9 + 1) dr_189), l6C0 cI cL cZ ad (o + 11) (upZ (upZ rs9 n9 (S2_110 (rk0 P2_103) - mo_189)) (n9 + 1) (S2_110 (rk0 P2_103) + mo_189)), z6C0 cI cL cZ ad (o + 12) (upB (upB st9 n9 false) (n9 + 1) false), sqoC0 cI cL cZ ad (o2) (ts9) (rk9), l9C0 cI cL cZ ad (o2 + 1) (P), l3C0 cI cL cZ ad (o2 + 2) (R)])
                  refine g_goto (pc := 192) hG (tgt := 231) (by decide) dX0_lay_192 ?_
                  refine g_iinc (pc := 231) hG 2 rfl (by decide) (lv' := [(5, iV ((((c : Nat) : Int)) + 1)), (0, .ref (ad (o))), (1, .ref (ad (o2)))]) rfl dX0_lay_231 ?_
                  refine g_goto (pc := 234) hG (tgt := 167) (by decide) dX0_lay_234 ?_
                  exact g_lv (pc := 167) hG [1, 2, 0] rfl (ih167 (c + 1) (n9 + 2) (upZ (upZ fx9 n9 (-dr_189)) (n9 + 1) dr_189) (upZ (upZ rs9 n9 (S2_110 (rk0 P2_103) - mo_189)) (n9 + 1) (S2_110 (rk0 P2_103) + mo_189)) (upB (upB st9 n9 false) (n9 + 1) false) (by omega) (by omega) (hI.push2 (by omega) (by rw [hsg c (by omega)] at h181; exact sg_eq h181) (by rw [hdr_189, hlf.1]; exact hlf.2.2.2.1 c (by omega)) (by rw [hmo_189]; exact hlf.2.2.2.2 c (by omega)) hlf.1))
          exact g_lv (pc := 167) hG [1, 2, 0] rfl (L167 _ 0 0 fx rs st (Nat.lt_succ_self _) (by omega) (CdI.init))
        · refine g_iconst (pc := 127) hG dX0_lay_127 ?_
          exact g_zreturn (pc := 128) hG (false) rfl ⟨false, cn, ts9, rk0 P2_103, P2_103, R2_103, S2_110, sg9, db9, bs, sl, fx, rs, st, LayR.no hq9 hS_110 hm e3 h124 hsg hdb, rfl, rfl⟩ dX0_lay_128
      · have hr27 : r < 27 := by rw [hr]; exact Nat.lt_of_le_of_lt (Nat.div_le_self _ _) hp
        have hmk8 : mk < 8 := by rw [hm]; exact mskC_lt p c (by omega)
        refine g_iload (pc := 14) hG 4 rfl dX0_lay_14 ?_
        refine g_iconst (pc := 16) hG dX0_lay_16 ?_
        refine g_irem (pc := 17) hG (by omega) (by omega) (by omega) dX0_lay_17 ?_
        refine g_eqI (pc := 18) hG (show ((((r : Nat) : Int)).tmod 3) = ((r % 3 : Nat) : Int) by exact (Int.ofNat_tmod r 3).symm) ?_
        refine g_istore (pc := 18) hG (by decide) (lv' := [(6, iV (((r % 3 : Nat) : Int))), (0, .ref (ad (o))), (1, .ref (ad (o2))), (2, iV (((p : Nat) : Int))), (3, iV (((mk : Nat) : Int))), (4, iV (((r : Nat) : Int))), (5, iV (((c : Nat) : Int)))]) rfl dX0_lay_18 ?_
        refine g_iload (pc := 20) hG 5 rfl dX0_lay_20 ?_
        refine g_iconst (pc := 22) hG dX0_lay_22 ?_
        refine g_idiv (pc := 23) hG (by omega) (by omega) (by omega) dX0_lay_23 ?_
        refine g_eqI (pc := 24) hG (show ((((r : Nat) : Int)).tdiv 3) = ((r / 3 : Nat) : Int) by exact (Int.ofNat_tdiv r 3).symm) ?_
        refine g_istore (pc := 24) hG (by decide) (lv' := [(4, iV (((r / 3 : Nat) : Int))), (6, iV (((r % 3 : Nat) : Int))), (0, .ref (ad (o))), (1, .ref (ad (o2))), (2, iV (((p : Nat) : Int))), (3, iV (((mk : Nat) : Int))), (5, iV (((c : Nat) : Int)))]) rfl dX0_lay_24 ?_
        refine g_aload_n (pc := 26) hG 2 rfl dX0_lay_26 ?_
        refine g_get (pc := 27) hG fl0_18 0 rfl rfl dX0_lay_27 ?_
        refine g_iload (pc := 30) hG 6 rfl dX0_lay_30 ?_
        refine g_iload (pc := 32) hG 1 rfl dX0_lay_32 ?_
        refine g_iconst (pc := 34) hG dX0_lay_34 ?_
        have J47 : ∀ (j47s0 : Int), (((¬ ((r % 3 : Nat) : Int) = 2) ∧ j47s0 = ((r % 3 : Nat) : Int)) ∨ ((((r % 3 : Nat) : Int) = 2) ∧ j47s0 = -1)) → G 47 [(0, .ref (ad (o))), (1, .ref (ad (o2))), (2, iV (((p : Nat) : Int))), (3, iV (((mk : Nat) : Int))), (4, iV (((r / 3 : Nat) : Int))), (5, iV (((c : Nat) : Int))), (6, iV (((r % 3 : Nat) : Int)))] [lV (j47s0), iV (((c : Nat) : Int)), .ref (ad (o + 6))] ([broC0 cI cL cZ ad (o) (cn), sqoC0 cI cL cZ ad (o + 1) (ts) (rk), l9C0 cI cL cZ ad (o + 2) (P8), l3C0 cI cL cZ ad (o + 3) (R8), l4C0 cI cL cZ ad (o + 5) (S8), l3C0 cI cL cZ ad (o + 6) (sg9), l3C0 cI cL cZ ad (o + 7) (db9), l3C0 cI cL cZ ad (o + 8) (bs), l3C0 cI cL cZ ad (o + 9) (sl), l6C0 cI cL cZ ad (o + 10) (fx), l6C0 cI cL cZ ad (o + 11) (rs), z6C0 cI cL cZ ad (o + 12) (st), sqoC0 cI cL cZ ad (o2) (ts9) (rk9), l9C0 cI cL cZ ad (o2 + 1) (P), l3C0 cI cL cZ ad (o2 + 2) (R)]) := by
          intro j47s0 k47
          refine g_lastore (pc := 47) hG 5 c rfl rfl (by omega) (by omega) (by decide) (ws' := [broC0 cI cL cZ ad (o) (cn), sqoC0 cI cL cZ ad (o + 1) (ts) (rk), l9C0 cI cL cZ ad (o + 2) (P8), l3C0 cI cL cZ ad (o + 3) (R8), l4C0 cI cL cZ ad (o + 5) (S8), l3C0 cI cL cZ ad (o + 6) (upZ sg9 c j47s0), l3C0 cI cL cZ ad (o + 7) (db9), l3C0 cI cL cZ ad (o + 8) (bs), l3C0 cI cL cZ ad (o + 9) (sl), l6C0 cI cL cZ ad (o + 10) (fx), l6C0 cI cL cZ ad (o + 11) (rs), z6C0 cI cL cZ ad (o + 12) (st), sqoC0 cI cL cZ ad (o2) (ts9) (rk9), l9C0 cI cL cZ ad (o2 + 1) (P), l3C0 cI cL cZ ad (o2 + 2) (R)]) rfl dX0_lay_47 ?_
          refine g_iload_n (pc := 48) hG 3 rfl dX0_lay_48 ?_
          refine g_iload (pc := 49) hG 6 rfl dX0_lay_49 ?_
          have J62 : ∀ (j62s0 : Nat), (((¬ ((r % 3 : Nat) : Int) = 0) ∧ j62s0 = 1 <<< c) ∨ ((((r % 3 : Nat) : Int) = 0) ∧ j62s0 = 0)) → G 62 [(0, .ref (ad (o))), (1, .ref (ad (o2))), (2, iV (((p : Nat) : Int))), (3, iV (((mk : Nat) : Int))), (4, iV (((r / 3 : Nat) : Int))), (5, iV (((c : Nat) : Int))), (6, iV (((r % 3 : Nat) : Int)))] [iV (((j62s0 : Nat) : Int)), iV (((mk : Nat) : Int))] ([broC0 cI cL cZ ad (o) (cn), sqoC0 cI cL cZ ad (o + 1) (ts) (rk), l9C0 cI cL cZ ad (o + 2) (P8), l3C0 cI cL cZ ad (o + 3) (R8), l4C0 cI cL cZ ad (o + 5) (S8), l3C0 cI cL cZ ad (o + 6) (upZ sg9 c j47s0), l3C0 cI cL cZ ad (o + 7) (db9), l3C0 cI cL cZ ad (o + 8) (bs), l3C0 cI cL cZ ad (o + 9) (sl), l6C0 cI cL cZ ad (o + 10) (fx), l6C0 cI cL cZ ad (o + 11) (rs), z6C0 cI cL cZ ad (o + 12) (st), sqoC0 cI cL cZ ad (o2) (ts9) (rk9), l9C0 cI cL cZ ad (o2 + 1) (P), l3C0 cI cL cZ ad (o2 + 2) (R)]) := by
            intro j62s0 k62
            refine g_ior (z := ((mk ||| j62s0 : Nat) : Int)) (pc := 62) hG (by exact or_8 hmk8 (msk_8 (by omega) k62)) dX0_lay_62 ?_
            refine g_istore_n (pc := 63) hG (by decide) (lv' := [(3, iV (((mk ||| j62s0 : Nat) : Int))), (0, .ref (ad (o))), (1, .ref (ad (o2))), (2, iV (((p : Nat) : Int))), (4, iV (((r / 3 : Nat) : Int))), (5, iV (((c : Nat) : Int))), (6, iV (((r % 3 : Nat) : Int)))]) rfl dX0_lay_63 ?_
            refine g_aload_n (pc := 64) hG 1 rfl dX0_lay_64 ?_
            refine g_get (pc := 65) hG fl0_22 0 rfl rfl dX0_lay_65 ?_
            refine g_iload (pc := 68) hG 5 rfl dX0_lay_68 ?_
            refine g_iload (pc := 70) hG 6 rfl dX0_lay_70 ?_
            have J90 : ∀ (j90s0 : Int), (((¬ ((r % 3 : Nat) : Int) = 0) ∧ j90s0 = 2 * (R c)) ∨ ((((r % 3 : Nat) : Int) = 0) ∧ j90s0 = 0)) → G 90 [(0, .ref (ad (o))), (1, .ref (ad (o2))), (2, iV (((p : Nat) : Int))), (3, iV (((mk ||| j62s0 : Nat) : Int))), (4, iV (((r / 3 : Nat) : Int))), (5, iV (((c : Nat) : Int))), (6, iV (((r % 3 : Nat) : Int)))] [lV (j90s0), iV (((c : Nat) : Int)), .ref (ad (o + 7))] ([broC0 cI cL cZ ad (o) (cn), sqoC0 cI cL cZ ad (o + 1) (ts) (rk), l9C0 cI cL cZ ad (o + 2) (P8), l3C0 cI cL cZ ad (o + 3) (R8), l4C0 cI cL cZ ad (o + 5) (S8), l3C0 cI cL cZ ad (o + 6) (upZ sg9 c j47s0), l3C0 cI cL cZ ad (o + 7) (db9), l3C0 cI cL cZ ad (o + 8) (bs), l3C0 cI cL cZ ad (o + 9) (sl), l6C0 cI cL cZ ad (o + 10) (fx), l6C0 cI cL cZ ad (o + 11) (rs), z6C0 cI cL cZ ad (o + 12) (st), sqoC0 cI cL cZ ad (o2) (ts9) (rk9), l9C0 cI cL cZ ad (o2 + 1) (P), l3C0 cI cL cZ ad (o2 + 2) (R)]) := by
              intro j90s0 k90
              refine g_lastore (pc := 90) hG 6 c rfl rfl (by omega) (by omega) (by decide) (ws' := [broC0 cI cL cZ ad (o) (cn), sqoC0 cI cL cZ ad (o + 1) (ts) (rk), l9C0 cI cL cZ ad (o + 2) (P8), l3C0 cI cL cZ ad (o + 3) (R8), l4C0 cI cL cZ ad (o + 5) (S8), l3C0 cI cL cZ ad (o + 6) (upZ sg9 c j47s0), l3C0 cI cL cZ ad (o + 7) (upZ db9 c j90s0), l3C0 cI cL cZ ad (o + 8) (bs), l3C0 cI cL cZ ad (o + 9) (sl), l6C0 cI cL cZ ad (o + 10) (fx), l6C0 cI cL cZ ad (o + 11) (rs), z6C0 cI cL cZ ad (o + 12) (st), sqoC0 cI cL cZ ad (o2) (ts9) (rk9), l9C0 cI cL cZ ad (o2 + 1) (P), l3C0 cI cL cZ ad (o2 + 2) (R)]) rfl dX0_lay_90 ?_
              refine g_iinc (pc := 91) hG 5 rfl (by decide) (lv' := [(5, iV ((((c : Nat) : Int)) + 1)), (0, .ref (ad (o))), (1, .ref (ad (o2))), (2, iV (((p : Nat) : Int))), (3, iV (((mk ||| j62s0 : Nat) : Int))), (4, iV (((r / 3 : Nat) : Int))), (6, iV (((r % 3 : Nat) : Int)))]) rfl dX0_lay_91 ?_
              refine g_goto (pc := 94) hG (tgt := 8) (by decide) dX0_lay_94 ?_
              exact g_lv (pc := 8) hG [1, 2, 3, 4, 5, 0] rfl (ih8 (c + 1) (r / 3) (mk ||| j62s0) (upZ sg9 c j47s0) (upZ db9 c j90s0) (by omega) (by omega) (by rw [hr, Nat.div_div_eq_div_mul, Nat.pow_succ]) (by rw [hm, msk_step hr k62]) (fill_step hsg (sg_step hr k47)) (fill_step hdb (db_step hr k90)))
            refine g_if_ne (pc := 72) hG (by omega) (tgt := 79) (by decide) dX0_lay_72 (fun h72 => ?_) (fun h72 => ?_)
            · refine g_ldc2 (z := 2) (pc := 79) hG (v := 2) (inB wd_662 rfl) (by decide) dX0_lay_79 ?_
              refine g_aload_n (pc := 82) hG 2 rfl dX0_lay_82 ?_
              refine g_get (pc := 83) hG fl0_91 12 rfl rfl dX0_lay_83 ?_
              refine g_iload (pc := 86) hG 5 rfl dX0_lay_86 ?_
              refine g_laload (pc := 88) hG 14 c rfl rfl (by omega) (by omega) (by decide) dX0_lay_88 ?_
              refine g_lmul (pc := 89) hG dX0_lay_89 ?_
              exact g_lv (pc := 90) hG [1, 2, 3, 0, 4, 5, 6] rfl (J90 (2 * (R c)) (Or.inl ⟨h72, rfl⟩))
            · refine g_lconst (z := 0) (pc := 75) hG dX0_lay_75 (by decide) ?_
              refine g_goto (pc := 76) hG (tgt := 90) (by decide) dX0_lay_76 ?_
              exact g_lv (pc := 90) hG [1, 2, 3, 0, 4, 5, 6] rfl (J90 0 (Or.inr (⟨h72, rfl⟩)))
          refine g_if_ne (pc := 51) hG (by omega) (tgt := 58) (by decide) dX0_lay_51 (fun h51 => ?_) (fun h51 => ?_)
          · refine g_iconst (pc := 58) hG dX0_lay_58 ?_
            refine g_iload (pc := 59) hG 5 rfl dX0_lay_59 ?_
            refine g_ishl (z := ((1 <<< c : Nat) : Int)) (pc := 61) hG (by exact shl_c (by omega)) dX0_lay_61 ?_
            exact g_lv (pc := 62) hG [0, 1, 2, 3, 4, 5, 6] rfl (J62 (1 <<< c) (Or.inl ⟨h51, rfl⟩))
          · refine g_iconst (pc := 54) hG dX0_lay_54 ?_
            refine g_goto (pc := 55) hG (tgt := 62) (by decide) dX0_lay_55 ?_
            exact g_lv (pc := 62) hG [0, 1, 2, 3, 4, 5, 6] rfl (J62 0 (Or.inr (⟨h51, rfl⟩)))
        refine g_icmp_ne (pc := 35) hG (by omega) (by omega) (tgt := 44) (by decide) dX0_lay_35 (fun h35 => ?_) (fun h35 => ?_)
        · refine g_iload (pc := 44) hG 1 rfl dX0_lay_44 ?_
          refine g_i2l (pc := 46) hG (by omega) dX0_lay_46 ?_
          exact g_lv (pc := 47) hG [2, 3, 4, 5, 0, 6, 1] rfl (J47 (((r % 3 : Nat) : Int)) (Or.inl ⟨h35, rfl⟩))
        · refine g_ldc2 (z := -1) (pc := 38) hG (v := -1) (inB wd_661 rfl) (by decide) dX0_lay_38 ?_
          refine g_goto (pc := 41) hG (tgt := 47) (by decide) dX0_lay_41 ?_
          exact g_lv (pc := 47) hG [2, 3, 4, 5, 0, 6, 1] rfl (J47 (-1) (Or.inr (⟨h35, rfl⟩)))
  exact g_lv (pc := 8) hG [3, 4, 5, 2, 1, 0] rfl (L8 _ 0 p 0 sg db (Nat.lt_succ_self _) (by omega) (by simp) (rfl) (fun i h => absurd h (Nat.not_lt_zero _)) (fun i h => absurd h (Nat.not_lt_zero _)))
