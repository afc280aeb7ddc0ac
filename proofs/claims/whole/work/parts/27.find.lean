set_option maxHeartbeats 4000000 in
set_option maxRecDepth 100000 in
theorem c_X0_holdsBeside {l : Launch} {D : va_G} {cI cL cZ cX cG : ClassId} (ad : Nat → Nat) (o : Nat) (cn : Nat) (fx : Nat → Int) (rs : Nat → Int) (st : Nat → Bool) (tp : Int) (bt : Int) (sd : Int) (hc : cn ≤ 6) (hs : sd = 1 ∨ sd = -1) (hf : ∀ q, q < cn → InL (fx q * bt + rs q * tp) ∧ InL (rs q) ∧ InL (-rs q)) : Ct l D (gT cI cL cZ cX cG) yX0_holdsBeside cX0_holdsBeside 9 (some .boolean) ({ frames := 0, cells := 0, slots := 0, locals := 0 }) [.ref (ad (o)), lV (tp), lV (bt), iV (sd)] ([broC0 cI cL cZ ad (o) (((cn : Nat) : Int)), l6C0 cI cL cZ ad (o + 10) (fx), l6C0 cI cL cZ ad (o + 11) (rs), z6C0 cI cL cZ ad (o + 12) (st)]) (fun vv_ ww_ => vv_ = some (bV (hbB cn fx rs st tp bt sd)) ∧ ww_ = [broC0 cI cL cZ ad (o) (((cn : Nat) : Int)), l6C0 cI cL cZ ad (o + 10) (fx), l6C0 cI cL cZ ad (o + 11) (rs), z6C0 cI cL cZ ad (o + 12) (st)]) := by
  refine Ct.of (by decide) (Nat.le_of_ble_eq_true rfl) (fun G hG => ?_)
  show G 0 [(0, .ref (ad (o))), (1, lV (tp)), (3, lV (bt)), (5, iV (sd))] [] ([broC0 cI cL cZ ad (o) (((cn : Nat) : Int)), l6C0 cI cL cZ ad (o + 10) (fx), l6C0 cI cL cZ ad (o + 11) (rs), z6C0 cI cL cZ ad (o + 12) (st)])
  refine g_iconst (pc := 0) hG dX0_holdsBeside_0 ?_
  refine g_istore (pc := 1) hG (by decide) (lv' := [(6, iV (0)), (0, .ref (ad (o))), (1, lV (tp)), (3, lV (bt)), (5, iV (sd))]) rfl dX0_holdsBeside_1 ?_
  have L3 : ∀ (fu3 : Nat) (q : Nat), cn - q < fu3 → (q ≤ cn) → (hbB q fx rs st tp bt sd = true) → G 3 [(0, .ref (ad (o))), (1, lV (tp)), (3, lV (bt)), (5, iV (sd)), (6, iV (((q : Nat) : Int)))] [] ([broC0 cI cL cZ ad (o) (((cn : Nat) : Int)), l6C0 cI cL cZ ad (o + 10) (fx), l6C0 cI cL cZ ad (o + 11) (rs), z6C0 cI cL cZ ad (o + 12) (st)]) := by
    intro fu3
    induction fu3 with
    | zero => intro q hm; exact absurd hm (Nat.not_lt_zero _)
    | succ fu3 ih3 =>
      intro q hm3 hq hp
      refine g_iload (pc := 3) hG 4 rfl dX0_holdsBeside_3 ?_
      refine g_aload_n (pc := 5) hG 0 rfl dX0_holdsBeside_5 ?_
      refine g_get (pc := 6) hG fl0_114 0 rfl rfl dX0_holdsBeside_6 ?_
      refine g_icmp_ge (pc := 9) hG (by omega) (by omega) (tgt := 85) (by decide) dX0_holdsBeside_9 (fun h9 => ?_) (fun h9 => ?_)
      · refine g_iconst (pc := 85) hG dX0_holdsBeside_85 ?_
        exact g_zreturn (pc := 86) hG (true) rfl ⟨sB (by rw [← hp, show q = cn by omega]), rfl⟩ dX0_holdsBeside_86
      · refine g_aload_n (pc := 12) hG 0 rfl dX0_holdsBeside_12 ?_
        refine g_get (pc := 13) hG fl0_31 0 rfl rfl dX0_holdsBeside_13 ?_
        refine g_iload (pc := 16) hG 4 rfl dX0_holdsBeside_16 ?_
        refine g_laload (pc := 18) hG 1 q rfl rfl (by omega) (by omega) (by decide) dX0_holdsBeside_18 ?_
        refine g_lload_n (pc := 19) hG 2 rfl dX0_holdsBeside_19 ?_
        refine g_lmul (pc := 20) hG dX0_holdsBeside_20 ?_
        refine g_aload_n (pc := 21) hG 0 rfl dX0_holdsBeside_21 ?_
        refine g_get (pc := 22) hG fl0_34 0 rfl rfl dX0_holdsBeside_22 ?_
        refine g_iload (pc := 25) hG 4 rfl dX0_holdsBeside_25 ?_
        refine g_laload (pc := 27) hG 2 q rfl rfl (by omega) (by omega) (by decide) dX0_holdsBeside_27 ?_
        refine g_lload_n (pc := 28) hG 1 rfl dX0_holdsBeside_28 ?_
        refine g_lmul (pc := 29) hG dX0_holdsBeside_29 ?_
        refine g_ladd (pc := 30) hG dX0_holdsBeside_30 ?_
        refine g_nmL (pc := 31) hG (fun x31 ex31 => ?_)
        refine g_lstore (pc := 31) hG (by decide) (lv' := [(7, lV (x31)), (0, .ref (ad (o))), (1, lV (tp)), (3, lV (bt)), (5, iV (sd)), (6, iV (((q : Nat) : Int)))]) rfl dX0_holdsBeside_31 ?_
        refine g_lload (pc := 33) hG 0 rfl dX0_holdsBeside_33 ?_
        refine g_lconst (z := 0) (pc := 35) hG dX0_holdsBeside_35 (by decide) ?_
        obtain ⟨hf1, hf2, hf3⟩ := hf q (by omega)
        rw [← ex31] at hf1
        have J53 : ∀ (j53l7 : Int), (((¬ x31 = 0) ∧ j53l7 = x31) ∨ ((x31 = 0) ∧ j53l7 = (rs q) * sd)) → G 53 [(0, .ref (ad (o))), (1, lV (tp)), (3, lV (bt)), (5, iV (sd)), (6, iV (((q : Nat) : Int))), (7, lV (j53l7))] [] ([broC0 cI cL cZ ad (o) (((cn : Nat) : Int)), l6C0 cI cL cZ ad (o + 10) (fx), l6C0 cI cL cZ ad (o + 11) (rs), z6C0 cI cL cZ ad (o + 12) (st)]) := by
          intro j53l7 k53
          have hf4 : InL j53l7 := by rw [hb_val k53]; split; exact hb_in hs hf2 hf3; exact hf1
          have hj9 := hb_val2 ex31 k53
          refine g_lload (pc := 53) hG 5 rfl dX0_holdsBeside_53 ?_
          refine g_lconst (z := 0) (pc := 55) hG dX0_holdsBeside_55 (by decide) ?_
          have J77 : ∀ (_ : Unit), (((j53l7 < 0)) ∨ ((¬ j53l7 < 0) ∧ (j53l7 = 0) ∧ ((st q) = true))) → G 77 [(0, .ref (ad (o))), (1, lV (tp)), (3, lV (bt)), (5, iV (sd)), (6, iV (((q : Nat) : Int))), (7, lV (j53l7))] [] ([broC0 cI cL cZ ad (o) (((cn : Nat) : Int)), l6C0 cI cL cZ ad (o + 10) (fx), l6C0 cI cL cZ ad (o + 11) (rs), z6C0 cI cL cZ ad (o + 12) (st)]) := by
            intro _ k77
            refine g_iconst (pc := 77) hG dX0_holdsBeside_77 ?_
            exact g_zreturn (pc := 78) hG (false) rfl ⟨sB (hb_no (q := q) (by omega) hj9 (okb_f k77)).symm, rfl⟩ dX0_holdsBeside_78
          refine g_lc_lt (pc := 56) hG (by omega) (by omega) (tgt := 77) (by decide) dX0_holdsBeside_56 dX0_holdsBeside_57 (fun h56 => ?_) (fun h56 => ?_)
          · exact g_lv (pc := 77) hG [0, 1, 2, 3, 4, 5] rfl (J77 () (Or.inl (h56)))
          · refine g_lload (pc := 60) hG 5 rfl dX0_holdsBeside_60 ?_
            refine g_lconst (z := 0) (pc := 62) hG dX0_holdsBeside_62 (by decide) ?_
            have J79 : ∀ (_ : Unit), (((¬ j53l7 = 0)) ∨ ((j53l7 = 0) ∧ ((st q) = false))) → G 79 [(0, .ref (ad (o))), (1, lV (tp)), (3, lV (bt)), (5, iV (sd)), (6, iV (((q : Nat) : Int))), (7, lV (j53l7))] [] ([broC0 cI cL cZ ad (o) (((cn : Nat) : Int)), l6C0 cI cL cZ ad (o + 10) (fx), l6C0 cI cL cZ ad (o + 11) (rs), z6C0 cI cL cZ ad (o + 12) (st)]) := by
              intro _ k79
              refine g_iinc (pc := 79) hG 4 rfl (by decide) (lv' := [(6, iV ((((q : Nat) : Int)) + 1)), (0, .ref (ad (o))), (1, lV (tp)), (3, lV (bt)), (5, iV (sd)), (7, lV (j53l7))]) rfl dX0_holdsBeside_79 ?_
              refine g_goto (pc := 82) hG (tgt := 3) (by decide) dX0_holdsBeside_82 ?_
              exact g_lv (pc := 3) hG [1, 2, 3, 4, 0] rfl (ih3 (q + 1) (by omega) (by omega) (hb_step hp hj9 (okb_t h56 k79)))
            refine g_lc_ne (pc := 63) hG (by omega) (by omega) (tgt := 79) (by decide) dX0_holdsBeside_63 dX0_holdsBeside_64 (fun h63 => ?_) (fun h63 => ?_)
            · exact g_lv (pc := 79) hG [0, 1, 2, 3, 4, 5] rfl (J79 () (Or.inl (h63)))
            · refine g_aload_n (pc := 67) hG 0 rfl dX0_holdsBeside_67 ?_
              refine g_get (pc := 68) hG fl0_37 0 rfl rfl dX0_holdsBeside_68 ?_
              refine g_iload (pc := 71) hG 4 rfl dX0_holdsBeside_71 ?_
              refine g_baload (pc := 73) hG 3 q rfl rfl (by omega) (by omega) (by decide) dX0_holdsBeside_73 ?_
              refine g_ifb_eq (pc := 74) hG (tgt := 79) (by decide) dX0_holdsBeside_74 (fun h74 => ?_) (fun h74 => ?_)
              · exact g_lv (pc := 79) hG [0, 1, 2, 3, 4, 5] rfl (J79 () (Or.inr (⟨h63, h74⟩)))
              · exact g_lv (pc := 77) hG [0, 1, 2, 3, 4, 5] rfl (J77 () (Or.inr (⟨h56, h63, h74⟩)))
        refine g_lc_ne (pc := 36) hG (by omega) (by omega) (tgt := 53) (by decide) dX0_holdsBeside_36 dX0_holdsBeside_37 (fun h36 => ?_) (fun h36 => ?_)
        · exact g_lv (pc := 53) hG [1, 2, 3, 4, 5, 0] rfl (J53 x31 (Or.inl ⟨h36, rfl⟩))
        · refine g_aload_n (pc := 40) hG 1 rfl dX0_holdsBeside_40 ?_
          refine g_get (pc := 41) hG fl0_34 0 rfl rfl dX0_holdsBeside_41 ?_
          refine g_iload (pc := 44) hG 5 rfl dX0_holdsBeside_44 ?_
          refine g_laload (pc := 46) hG 2 q rfl rfl (by omega) (by omega) (by decide) dX0_holdsBeside_46 ?_
          refine g_iload (pc := 47) hG 4 rfl dX0_holdsBeside_47 ?_
          refine g_i2l (pc := 49) hG (by omega) dX0_holdsBeside_49 ?_
          refine g_lmul (pc := 50) hG dX0_holdsBeside_50 ?_
          refine g_lstore (pc := 51) hG (by decide) (lv' := [(7, lV ((rs q) * sd)), (0, .ref (ad (o))), (1, lV (tp)), (3, lV (bt)), (5, iV (sd)), (6, iV (((q : Nat) : Int)))]) rfl dX0_holdsBeside_51 ?_
          exact g_lv (pc := 53) hG [1, 2, 3, 4, 5, 0] rfl (J53 ((rs q) * sd) (Or.inr (⟨h36, rfl⟩)))
  exact g_lv (pc := 3) hG [1, 2, 3, 4, 0] rfl (L3 _ 0 (Nat.lt_succ_self _) (by omega) (rfl))
set_option maxHeartbeats 4000000 in
set_option maxRecDepth 100000 in
theorem c_X0_find {l : Launch} {D : va_G} {cI cL cZ cX cG : ClassId} (ad : Nat → Nat) (o : Nat) (o2 : Nat) (cn : Int) (ts : Int) (rk : Int) (P8 : Nat → Int) (R8 : Nat → Int) (S8 : Nat → Int) (sg : Nat → Int) (db : Nat → Int) (bs : Nat → Int) (sl : Nat → Int) (fx : Nat → Int) (rs : Nat → Int) (st : Nat → Bool) (P : Nat → Int) (R : Nat → Int) (ts9 : Int) (rk9 : Int) (m : Nat) (bar : Nat) (hm : m ≤ 3) (hb : bar ≤ 50000) (hP : PB P) (hAt : ∀ p, p < 27 → ∀ c, c < 3 → cdC P R p (fun a b _ => InL (a + b * ((bar : Nat) : Int))) c) : Ct l D (gT cI cL cZ cX cG) yX0_find cX0_find 6 (some .boolean) ({ frames := 3, cells := 0, slots := 0, locals := 84 }) [.ref (ad (o)), .ref (ad (o2)), iV (((m : Nat) : Int)), iV (((bar : Nat) : Int))] ([broC0 cI cL cZ ad (o) (cn), sqoC0 cI cL cZ ad (o + 1) (ts) (rk), l9C0 cI cL cZ ad (o + 2) (P8), l3C0 cI cL cZ ad (o + 3) (R8), l4C0 cI cL cZ ad (o + 5) (S8), l3C0 cI cL cZ ad (o + 6) (sg), l3C0 cI cL cZ ad (o + 7) (db), l3C0 cI cL cZ ad (o + 8) (bs), l3C0 cI cL cZ ad (o + 9) (sl), l6C0 cI cL cZ ad (o + 10) (fx), l6C0 cI cL cZ ad (o + 11) (rs), z6C0 cI cL cZ ad (o + 12) (st), sqoC0 cI cL cZ ad (o2) (ts9) (rk9), l9C0 cI cL cZ ad (o2 + 1) (P), l3C0 cI cL cZ ad (o2 + 2) (R)]) (fun vv_ ww_ => ∃ (v : Bool), ∃ (cn2 : Int), ∃ (ts2 : Int), ∃ (r2 : Int), ∃ (P2 : Nat → Int), ∃ (R2 : Nat → Int), ∃ (S2 : Nat → Int), ∃ (sg2 : Nat → Int), ∃ (db2 : Nat → Int), ∃ (bs2 : Nat → Int), ∃ (sl2 : Nat → Int), ∃ (fx2 : Nat → Int), ∃ (rs2 : Nat → Int), ∃ (st2 : Nat → Bool), (FindR P R ts9 m bar v cn2 ts2 r2 S2 sg2 db2 bs2 sl2) ∧ vv_ = some (bV (v)) ∧ ww_ = [broC0 cI cL cZ ad (o) (cn2), sqoC0 cI cL cZ ad (o + 1) (ts2) (r2), l9C0 cI cL cZ ad (o + 2) (P2), l3C0 cI cL cZ ad (o + 3) (R2), l4C0 cI cL cZ ad (o + 5) (S2), l3C0 cI cL cZ ad (o + 6) (sg2), l3C0 cI cL cZ ad (o + 7) (db2), l3C0 cI cL cZ ad (o + 8) (bs2), l3C0 cI cL cZ ad (o + 9) (sl2), l6C0 cI cL cZ ad (o + 10) (fx2), l6C0 cI cL cZ ad (o + 11) (rs2), z6C0 cI cL cZ ad (o + 12) (st2), sqoC0 cI cL cZ ad (o2) (ts9) (rk9), l9C0 cI cL cZ ad (o2 + 1) (P), l3C0 cI cL cZ ad (o2 + 2) (R)]) := by
  refine Ct.of (by decide) (Nat.le_of_ble_eq_true rfl) (fun G hG => ?_)
  show G 0 [(0, .ref (ad (o))), (1, .ref (ad (o2))), (2, iV (((m : Nat) : Int))), (3, iV (((bar : Nat) : Int)))] [] ([broC0 cI cL cZ ad (o) (cn), sqoC0 cI cL cZ ad (o + 1) (ts) (rk), l9C0 cI cL cZ ad (o + 2) (P8), l3C0 cI cL cZ ad (o + 3) (R8), l4C0 cI cL cZ ad (o + 5) (S8), l3C0 cI cL cZ ad (o + 6) (sg), l3C0 cI cL cZ ad (o + 7) (db), l3C0 cI cL cZ ad (o + 8) (bs), l3C0 cI cL cZ ad (o + 9) (sl), l6C0 cI cL cZ ad (o + 10) (fx), l6C0 cI cL cZ ad (o + 11) (rs), z6C0 cI cL cZ ad (o + 12) (st), sqoC0 cI cL cZ ad (o2) (ts9) (rk9), l9C0 cI cL cZ ad (o2 + 1) (P), l3C0 cI cL cZ ad (o2 + 2) (R)])
  refine g_iload_n (pc := 0) hG 2 rfl dX0_find_0 ?_
  refine g_callP (pc := 1) hG (As := [iV (((m : Nat) : Int))]) (rest := []) (c_X0_patternsOf (l := l) (D := D) (cI := cI) (cL := cL) (cZ := cZ) (cX := cX) (cG := cG) m (by omega)) cs0_41 ⟨rfl, rfl⟩ ⟨Nat.le_of_ble_eq_true rfl, Nat.le_of_ble_eq_true rfl⟩ rfl rfl (Nat.le_of_ble_eq_true rfl) dX0_find_1 (fun v h => ?_)
  obtain ⟨rfl, -⟩ := h
  show G 4 [(0, .ref (ad (o))), (1, .ref (ad (o2))), (2, iV (((m : Nat) : Int))), (3, iV (((bar : Nat) : Int)))] [iV (((3 ^ m : Nat) : Int))] ([broC0 cI cL cZ ad (o) (cn), sqoC0 cI cL cZ ad (o + 1) (ts) (rk), l9C0 cI cL cZ ad (o + 2) (P8), l3C0 cI cL cZ ad (o + 3) (R8), l4C0 cI cL cZ ad (o + 5) (S8), l3C0 cI cL cZ ad (o + 6) (sg), l3C0 cI cL cZ ad (o + 7) (db), l3C0 cI cL cZ ad (o + 8) (bs), l3C0 cI cL cZ ad (o + 9) (sl), l6C0 cI cL cZ ad (o + 10) (fx), l6C0 cI cL cZ ad (o + 11) (rs), z6C0 cI cL cZ ad (o + 12) (st), sqoC0 cI cL cZ ad (o2) (ts9) (rk9), l9C0 cI cL cZ ad (o2 + 1) (P), l3C0 cI cL cZ ad (o2 + 2) (R)])
  refine g_istore (pc := 4) hG (by decide) (lv' := [(4, iV (((3 ^ m : Nat) : Int))), (0, .ref (ad (o))), (1, .ref (ad (o2))), (2, iV (((m : Nat) : Int))), (3, iV (((bar : Nat) : Int)))]) rfl dX0_find_4 ?_
  refine g_iconst (pc := 6) hG dX0_find_6 ?_
  refine g_istore (pc := 7) hG (by decide) (lv' := [(5, iV (0)), (4, iV (((3 ^ m : Nat) : Int))), (0, .ref (ad (o))), (1, .ref (ad (o2))), (2, iV (((m : Nat) : Int))), (3, iV (((bar : Nat) : Int)))]) rfl dX0_find_7 ?_
  have L9 : ∀ (fu9 : Nat) (p : Nat) (cn9 : Int) (tsb : Int) (rkb : Int) (P7 : Nat → Int) (R7 : Nat → Int) (S7 : Nat → Int) (sg7 : Nat → Int) (db7 : Nat → Int) (bs7 : Nat → Int) (sl7 : Nat → Int) (fx7 : Nat → Int) (rs7 : Nat → Int) (st7 : Nat → Bool), 3 ^ m - p < fu9 → (p ≤ 3 ^ m) → (∀ q, q < p → ¬ Right P R q bar) → G 9 [(0, .ref (ad (o))), (1, .ref (ad (o2))), (2, iV (((m : Nat) : Int))), (3, iV (((bar : Nat) : Int))), (4, iV (((3 ^ m : Nat) : Int))), (5, iV (((p : Nat) : Int)))] [] ([broC0 cI cL cZ ad (o) (cn9), sqoC0 cI cL cZ ad (o + 1) (tsb) (rkb), l9C0 cI cL cZ ad (o + 2) (P7), l3C0 cI cL cZ ad (o + 3) (R7), l4C0 cI cL cZ ad (o + 5) (S7), l3C0 cI cL cZ ad (o + 6) (sg7), l3C0 cI cL cZ ad (o + 7) (db7), l3C0 cI cL cZ ad (o + 8) (bs7), l3C0 cI cL cZ ad (o + 9) (sl7), l6C0 cI cL cZ ad (o + 10) (fx7), l6C0 cI cL cZ ad (o + 11) (rs7), z6C0 cI cL cZ ad (o + 12) (st7), sqoC0 cI cL cZ ad (o2) (ts9) (rk9), l9C0 cI cL cZ ad (o2 + 1) (P), l3C0 cI cL cZ ad (o2 + 2) (R)]) := by
    intro fu9
    induction fu9 with
    | zero => intro p cn9 tsb rkb P7 R7 S7 sg7 db7 bs7 sl7 fx7 rs7 st7 hm; exact absurd hm (Nat.not_lt_zero _)
    | succ fu9 ih9 =>
      intro p cn9 tsb rkb P7 R7 S7 sg7 db7 bs7 sl7 fx7 rs7 st7 hm9 hp hn
      have hp3 := pow3_le hm
      refine g_iload (pc := 9) hG 5 rfl dX0_find_9 ?_
      refine g_iload (pc := 11) hG 4 rfl dX0_find_11 ?_
      refine g_icmp_ge (pc := 13) hG (by omega) (by omega) (tgt := 42) (by decide) dX0_find_13 (fun h13 => ?_) (fun h13 => ?_)
      · refine g_iconst (pc := 42) hG dX0_find_42 ?_
        exact g_zreturn (pc := 43) hG (false) rfl ⟨false, cn9, tsb, rkb, P7, R7, S7, sg7, db7, bs7, sl7, fx7, rs7, st7, Or.inr ⟨rfl, fun q h => hn q (by omega)⟩, rfl, rfl⟩ dX0_find_43
      · refine g_aload_n (pc := 16) hG 0 rfl dX0_find_16 ?_
        refine g_aload_n (pc := 17) hG 1 rfl dX0_find_17 ?_
        refine g_iload (pc := 18) hG 5 rfl dX0_find_18 ?_
        refine g_callV (pc := 20) hG (As := [.ref (ad (o2)), iV (((p : Nat) : Int))]) (rest := []) (c_X0_lay (l := l) (D := D) (cI := cI) (cL := cL) (cZ := cZ) (cX := cX) (cG := cG) ad o o2 cn9 tsb rkb P7 R7 S7 sg7 db7 bs7 sl7 fx7 rs7 st7 P R ts9 rk9 p (by omega) (hP)) (Sp.whole _) cv0_45 ⟨rfl, rfl⟩ ⟨Nat.le_of_ble_eq_true rfl, Nat.le_of_ble_eq_true rfl⟩ 0 rfl rfl rfl rfl (Nat.le_of_ble_eq_true rfl) dX0_find_20 (fun v w1 h => ?_)
        obtain ⟨v_20, cn2_20, ts2_20, r2_20, P2_20, R2_20, S2_20, sg2_20, db2_20, bs2_20, sl2_20, fx2_20, rs2_20, st2_20, hL_20, rfl, rfl⟩ := h
        show G 23 [(0, .ref (ad (o))), (1, .ref (ad (o2))), (2, iV (((m : Nat) : Int))), (3, iV (((bar : Nat) : Int))), (4, iV (((3 ^ m : Nat) : Int))), (5, iV (((p : Nat) : Int)))] [bV (v_20)] ([broC0 cI cL cZ ad (o) (cn2_20), sqoC0 cI cL cZ ad (o + 1) (ts2_20) (((r2_20 : Nat) : Int)), l9C0 cI cL cZ ad (o + 2) (P2_20), l3C0 cI cL cZ ad (o + 3) (R2_20), l4C0 cI cL cZ ad (o + 5) (S2_20), l3C0 cI cL cZ ad (o + 6) (sg2_20), l3C0 cI cL cZ ad (o + 7) (db2_20), l3C0 cI cL cZ ad (o + 8) (bs2_20), l3C0 cI cL cZ ad (o + 9) (sl2_20), l6C0 cI cL cZ ad (o + 10) (fx2_20), l6C0 cI cL cZ ad (o + 11) (rs2_20), z6C0 cI cL cZ ad (o + 12) (st2_20), sqoC0 cI cL cZ ad (o2) (ts9) (rk9), l9C0 cI cL cZ ad (o2 + 1) (P), l3C0 cI cL cZ ad (o2 + 2) (R)])
        refine g_ifb_eq (pc := 23) hG (tgt := 36) (by decide) dX0_find_23 (fun h23 => ?_) (fun h23 => ?_)
        · refine g_iinc (pc := 36) hG 5 rfl (by decide) (lv' := [(5, iV ((((p : Nat) : Int)) + 1)), (0, .ref (ad (o))), (1, .ref (ad (o2))), (2, iV (((m : Nat) : Int))), (3, iV (((bar : Nat) : Int))), (4, iV (((3 ^ m : Nat) : Int)))]) rfl dX0_find_36 ?_
          refine g_goto (pc := 39) hG (tgt := 9) (by decide) dX0_find_39 ?_
          exact g_lv (pc := 9) hG [1, 2, 3, 4, 5, 0] rfl (ih9 (p + 1) cn2_20 ts2_20 (((r2_20 : Nat) : Int)) P2_20 R2_20 S2_20 sg2_20 db2_20 bs2_20 sl2_20 fx2_20 rs2_20 st2_20 (by omega) (by omega) (okc_step hn (hL_20.not h23)))
        · obtain ⟨n, hLn⟩ := hL_20.yes' h23
          refine g_ws (pc := 26) hG (ws' := [broC0 cI cL cZ ad (o) (((n : Nat) : Int)), sqoC0 cI cL cZ ad (o + 1) (ts2_20) (((r2_20 : Nat) : Int)), l9C0 cI cL cZ ad (o + 2) (P2_20), l3C0 cI cL cZ ad (o + 3) (R2_20), l4C0 cI cL cZ ad (o + 5) (S2_20), l3C0 cI cL cZ ad (o + 6) (sg2_20), l3C0 cI cL cZ ad (o + 7) (db2_20), l3C0 cI cL cZ ad (o + 8) (bs2_20), l3C0 cI cL cZ ad (o + 9) (sl2_20), l6C0 cI cL cZ ad (o + 10) (fx2_20), l6C0 cI cL cZ ad (o + 11) (rs2_20), z6C0 cI cL cZ ad (o + 12) (st2_20), sqoC0 cI cL cZ ad (o2) (ts9) (rk9), l9C0 cI cL cZ ad (o2 + 1) (P), l3C0 cI cL cZ ad (o2 + 2) (R)]) (by rw [hLn.1]) ?_
          refine g_aload_n (pc := 26) hG 0 rfl dX0_find_26 ?_
          refine g_iload_n (pc := 27) hG 3 rfl dX0_find_27 ?_
          refine g_callV (pc := 28) hG (As := [iV (((bar : Nat) : Int))]) (rest := []) (c_X0_holdsAt (l := l) (D := D) (cI := cI) (cL := cL) (cZ := cZ) (cX := cX) (cG := cG) ad o n fx2_20 rs2_20 st2_20 bar (hLn.2.1) (hb) (hLn.2.2.inl (hAt p (by omega)))) (Sp.sel [0, 9, 10, 11] rfl (by decide)) cv0_49 ⟨rfl, rfl⟩ ⟨Nat.le_of_ble_eq_true rfl, Nat.le_of_ble_eq_true rfl⟩ 0 rfl rfl rfl rfl (Nat.le_of_ble_eq_true rfl) dX0_find_28 (fun v w1 h => ?_)
          obtain ⟨v_28, hv_28, rfl, rfl⟩ := h
          show G 31 [(0, .ref (ad (o))), (1, .ref (ad (o2))), (2, iV (((m : Nat) : Int))), (3, iV (((bar : Nat) : Int))), (4, iV (((3 ^ m : Nat) : Int))), (5, iV (((p : Nat) : Int)))] [bV (v_28)] ([broC0 cI cL cZ ad (o) (((n : Nat) : Int)), sqoC0 cI cL cZ ad (o + 1) (ts2_20) (((r2_20 : Nat) : Int)), l9C0 cI cL cZ ad (o + 2) (P2_20), l3C0 cI cL cZ ad (o + 3) (R2_20), l4C0 cI cL cZ ad (o + 5) (S2_20), l3C0 cI cL cZ ad (o + 6) (sg2_20), l3C0 cI cL cZ ad (o + 7) (db2_20), l3C0 cI cL cZ ad (o + 8) (bs2_20), l3C0 cI cL cZ ad (o + 9) (sl2_20), l6C0 cI cL cZ ad (o + 10) (fx2_20), l6C0 cI cL cZ ad (o + 11) (rs2_20), z6C0 cI cL cZ ad (o + 12) (st2_20), sqoC0 cI cL cZ ad (o2) (ts9) (rk9), l9C0 cI cL cZ ad (o2 + 1) (P), l3C0 cI cL cZ ad (o2 + 2) (R)])
          refine g_ifb_eq (pc := 31) hG (tgt := 36) (by decide) dX0_find_31 (fun h31 => ?_) (fun h31 => ?_)
          · refine g_iinc (pc := 36) hG 5 rfl (by decide) (lv' := [(5, iV ((((p : Nat) : Int)) + 1)), (0, .ref (ad (o))), (1, .ref (ad (o2))), (2, iV (((m : Nat) : Int))), (3, iV (((bar : Nat) : Int))), (4, iV (((3 ^ m : Nat) : Int)))]) rfl dX0_find_36 ?_
            refine g_goto (pc := 39) hG (tgt := 9) (by decide) dX0_find_39 ?_
            exact g_lv (pc := 9) hG [1, 2, 3, 4, 5, 0] rfl (ih9 (p + 1) (((n : Nat) : Int)) ts2_20 (((r2_20 : Nat) : Int)) P2_20 R2_20 S2_20 sg2_20 db2_20 bs2_20 sl2_20 fx2_20 rs2_20 st2_20 (by omega) (by omega) (okc_step hn (hLn.2.2.right hv_28 h31)))
          · refine g_iconst (pc := 34) hG dX0_find_34 ?_
            exact g_zreturn (pc := 35) hG (true) rfl ⟨true, ((n : Nat) : Int), ts2_20, ((r2_20 : Nat) : Int), P2_20, R2_20, S2_20, sg2_20, db2_20, bs2_20, sl2_20, fx2_20, rs2_20, st2_20, Or.inl ⟨rfl, p, by omega, hL_20.right h23 hLn.2.2 hv_28 h31, hL_20.fin h23⟩, rfl, rfl⟩ dX0_find_35
  exact g_lv (pc := 9) hG [2, 3, 4, 5, 1, 0] rfl (L9 _ 0 cn ts rk P8 R8 S8 sg db bs sl fx rs st (Nat.lt_succ_self _) (Nat.zero_le _) (fun q h => absurd h (Nat.not_lt_zero _)))
set_option maxHeartbeats 4000000 in
set_option maxRecDepth 100000 in
theorem c_X0_collectTurn {l : Launch} {D : va_G} {cI cL cZ cX cG : ClassId} (ad : Nat → Nat) (o : Nat) (o2 : Nat) (cn : Nat) (fx : Nat → Int) (rs : Nat → Int) (st : Nat → Bool) (sg : Nat → Int) (bs : Nat → Int) (sl : Nat → Int) (T : Nat → Int) (B : Nat → Int) (n : Nat) (c : Nat) (hc : cn ≤ 6) (hc3 : c < 3) (hbs : bd62 (bs c)) (hsl : bd62 (sl c)) (hsg : bd62 (sg c)) (hf : CtS (sg c) (bs c) (sl c) → ∀ q, q < cn → InL (fx q * (tellZ (bs c) (sl c) 1) + rs q * (tellZ (bs c) (sl c) 0)) ∧ InL (rs q) ∧ InL (-rs q)) (hn : n ≤ 54) (hT : ∀ i, i < n → (0 ≤ T i ∧ T i ≤ 9223372036854775807) ∧ (0 < B i ∧ B i ≤ 9223372036854775807)) : Ct l D (gT cI cL cZ cX cG) yX0_collectTurn cX0_collectTurn 8 none ({ frames := 3, cells := 0, slots := 0, locals := 96 }) [.ref (ad (o)), iV (((c : Nat) : Int)), .ref (ad (o2))] ([broC0 cI cL cZ ad (o) (((cn : Nat) : Int)), l3C0 cI cL cZ ad (o + 6) (sg), l3C0 cI cL cZ ad (o + 8) (bs), l3C0 cI cL cZ ad (o + 9) (sl), l6C0 cI cL cZ ad (o + 10) (fx), l6C0 cI cL cZ ad (o + 11) (rs), z6C0 cI cL cZ ad (o + 12) (st), rtoC0 cI cL cZ ad (o2) (((n : Nat) : Int)), l54C0 cI cL cZ ad (o2 + 1) (T), l54C0 cI cL cZ ad (o2 + 2) (B)]) (fun vv_ ww_ => ∃ (T2 : Nat → Int), ∃ (B2 : Nat → Int), ∃ (n2 : Nat), (CtR cn fx rs st (sg c) (bs c) (sl c) T B n T2 B2 n2) ∧ vv_ = none ∧ ww_ = [broC0 cI cL cZ ad (o) (((cn : Nat) : Int)), l3C0 cI cL cZ ad (o + 6) (sg), l3C0 cI cL cZ ad (o + 8) (bs), l3C0 cI cL cZ ad (o + 9) (sl), l6C0 cI cL cZ ad (o + 10) (fx), l6C0 cI cL cZ ad (o + 11) (rs), z6C0 cI cL cZ ad (o + 12) (st), rtoC0 cI cL cZ ad (o2) (((n2 : Nat) : Int)), l54C0 cI cL cZ ad (o2 + 1) (T2), l54C0 cI cL cZ ad (o2 + 2) (B2)]) := by
  refine Ct.of (by decide) (Nat.le_of_ble_eq_true rfl) (fun G hG => ?_)
  show G 0 [(0, .ref (ad (o))), (1, iV (((c : Nat) : Int))), (2, .ref (ad (o2)))] [] ([broC0 cI cL cZ ad (o) (((cn : Nat) : Int)), l3C0 cI cL cZ ad (o + 6) (sg), l3C0 cI cL cZ ad (o + 8) (bs), l3C0 cI cL cZ ad (o + 9) (sl), l6C0 cI cL cZ ad (o + 10) (fx), l6C0 cI cL cZ ad (o + 11) (rs), z6C0 cI cL cZ ad (o + 12) (st), rtoC0 cI cL cZ ad (o2) (((n : Nat) : Int)), l54C0 cI cL cZ ad (o2 + 1) (T), l54C0 cI cL cZ ad (o2 + 2) (B)])
  refine g_aload_n (pc := 0) hG 0 rfl dX0_collectTurn_0 ?_
  refine g_get (pc := 1) hG fl0_25 0 rfl rfl dX0_collectTurn_1 ?_
  refine g_iload_n (pc := 4) hG 1 rfl dX0_collectTurn_4 ?_
  refine g_laload (pc := 5) hG 2 c rfl rfl (by omega) (by omega) (by decide) dX0_collectTurn_5 ?_
  refine g_lconst (z := 0) (pc := 6) hG dX0_collectTurn_6 (by decide) ?_
  have J49 : ∀ (j49s0 : Bool), (((bs c ≤ 0) ∧ (0 ≤ bs c) ∧ j49s0 = false) ∨ ((bs c ≤ 0) ∧ (¬ 0 ≤ bs c) ∧ (0 ≤ sl c) ∧ j49s0 = false) ∨ ((bs c ≤ 0) ∧ (¬ 0 ≤ bs c) ∧ (¬ 0 ≤ sl c) ∧ j49s0 = true) ∨ ((¬ bs c ≤ 0) ∧ (0 < sl c) ∧ j49s0 = true) ∨ ((¬ bs c ≤ 0) ∧ (¬ 0 < sl c) ∧ (0 ≤ bs c) ∧ j49s0 = false) ∨ ((¬ bs c ≤ 0) ∧ (¬ 0 < sl c) ∧ (¬ 0 ≤ bs c) ∧ (0 ≤ sl c) ∧ j49s0 = false) ∨ ((¬ bs c ≤ 0) ∧ (¬ 0 < sl c) ∧ (¬ 0 ≤ bs c) ∧ (¬ 0 ≤ sl c) ∧ j49s0 = true)) → G 49 [(0, .ref (ad (o))), (1, iV (((c : Nat) : Int))), (2, .ref (ad (o2)))] [bV (j49s0)] ([broC0 cI cL cZ ad (o) (((cn : Nat) : Int)), l3C0 cI cL cZ ad (o + 6) (sg), l3C0 cI cL cZ ad (o + 8) (bs), l3C0 cI cL cZ ad (o + 9) (sl), l6C0 cI cL cZ ad (o + 10) (fx), l6C0 cI cL cZ ad (o + 11) (rs), z6C0 cI cL cZ ad (o + 12) (st), rtoC0 cI cL cZ ad (o2) (((n : Nat) : Int)), l54C0 cI cL cZ ad (o2 + 1) (T), l54C0 cI cL cZ ad (o2 + 2) (B)]) := by
    intro j49s0 k49
    refine g_istore_n (pc := 49) hG (by decide) (lv' := [(3, bV (j49s0)), (0, .ref (ad (o))), (1, iV (((c : Nat) : Int))), (2, .ref (ad (o2)))]) rfl dX0_collectTurn_49 ?_
    refine g_aload_n (pc := 50) hG 1 rfl dX0_collectTurn_50 ?_
    refine g_get (pc := 51) hG fl0_18 0 rfl rfl dX0_collectTurn_51 ?_
    refine g_iload_n (pc := 54) hG 2 rfl dX0_collectTurn_54 ?_
    refine g_laload (pc := 55) hG 1 c rfl rfl (by omega) (by omega) (by decide) dX0_collectTurn_55 ?_
    refine g_lconst (z := 0) (pc := 56) hG dX0_collectTurn_56 (by decide) ?_
    have J65 : ∀ (_ : Unit), (((sg c = 0)) ∨ ((¬ sg c = 0) ∧ (j49s0 = false))) → G 65 [(0, .ref (ad (o))), (1, iV (((c : Nat) : Int))), (2, .ref (ad (o2))), (3, bV (j49s0))] [] ([broC0 cI cL cZ ad (o) (((cn : Nat) : Int)), l3C0 cI cL cZ ad (o + 6) (sg), l3C0 cI cL cZ ad (o + 8) (bs), l3C0 cI cL cZ ad (o + 9) (sl), l6C0 cI cL cZ ad (o + 10) (fx), l6C0 cI cL cZ ad (o + 11) (rs), z6C0 cI cL cZ ad (o + 12) (st), rtoC0 cI cL cZ ad (o2) (((n : Nat) : Int)), l54C0 cI cL cZ ad (o2 + 1) (T), l54C0 cI cL cZ ad (o2 + 2) (B)]) := by
      intro _ k65
      exact g_return (pc := 65) hG ⟨T, B, n, Or.inr ⟨fun h => by obtain ⟨⟨h1, h2⟩, h3⟩ := h; grind, rfl, rfl, rfl⟩, rfl, rfl⟩ dX0_collectTurn_65
    refine g_lc_eq (pc := 57) hG (by unfold bd62 at hsg; omega) (by omega) (tgt := 65) (by decide) dX0_collectTurn_57 dX0_collectTurn_58 (fun h57 => ?_) (fun h57 => ?_)
    · exact g_lv (pc := 65) hG [1, 2, 3, 0] rfl (J65 () (Or.inl (h57)))
    · refine g_iload_n (pc := 61) hG 0 rfl dX0_collectTurn_61 ?_
      refine g_ifb_ne (pc := 62) hG (tgt := 66) (by decide) dX0_collectTurn_62 (fun h62 => ?_) (fun h62 => ?_)
      · have hcs : CtS (sg c) (bs c) (sl c) := ⟨h57, by grind⟩
        have htb := cts_tell hcs hbs hsl
        refine g_aload_n (pc := 66) hG 1 rfl dX0_collectTurn_66 ?_
        refine g_get (pc := 67) hG fl0_25 0 rfl rfl dX0_collectTurn_67 ?_
        refine g_iload_n (pc := 70) hG 2 rfl dX0_collectTurn_70 ?_
        refine g_laload (pc := 71) hG 2 c rfl rfl (by omega) (by omega) (by decide) dX0_collectTurn_71 ?_
        refine g_aload_n (pc := 72) hG 1 rfl dX0_collectTurn_72 ?_
        refine g_get (pc := 73) hG fl0_28 0 rfl rfl dX0_collectTurn_73 ?_
        refine g_iload_n (pc := 76) hG 2 rfl dX0_collectTurn_76 ?_
        refine g_laload (pc := 77) hG 3 c rfl rfl (by omega) (by omega) (by decide) dX0_collectTurn_77 ?_
        refine g_iconst (pc := 78) hG dX0_collectTurn_78 ?_
        refine g_callP (pc := 79) hG (As := [lV (bs c), lV (sl c), iV (0)]) (rest := []) (c_X2_tell (l := l) (D := D) (cI := cI) (cL := cL) (cZ := cZ) (cX := cX) (cG := cG) (bs c) (sl c) 0 (by unfold bd62 at hbs; omega) (by unfold bd62 at hsl; omega) (by omega)) cs0_73 ⟨rfl, rfl⟩ ⟨Nat.le_of_ble_eq_true rfl, Nat.le_of_ble_eq_true rfl⟩ rfl rfl (Nat.le_of_ble_eq_true rfl) dX0_collectTurn_79 (fun v h => ?_)
        obtain ⟨rfl, -⟩ := h
        show G 82 [(3, bV (j49s0)), (0, .ref (ad (o))), (1, iV (((c : Nat) : Int))), (2, .ref (ad (o2)))] [lV (tellZ (bs c) (sl c) 0)] ([broC0 cI cL cZ ad (o) (((cn : Nat) : Int)), l3C0 cI cL cZ ad (o + 6) (sg), l3C0 cI cL cZ ad (o + 8) (bs), l3C0 cI cL cZ ad (o + 9) (sl), l6C0 cI cL cZ ad (o + 10) (fx), l6C0 cI cL cZ ad (o + 11) (rs), z6C0 cI cL cZ ad (o + 12) (st), rtoC0 cI cL cZ ad (o2) (((n : Nat) : Int)), l54C0 cI cL cZ ad (o2 + 1) (T), l54C0 cI cL cZ ad (o2 + 2) (B)])
        refine g_nmL (pc := 82) hG (fun x82 ex82 => ?_)
        refine g_lstore (pc := 82) hG (by decide) (lv' := [(4, lV (x82)), (3, bV (j49s0)), (0, .ref (ad (o))), (1, iV (((c : Nat) : Int))), (2, .ref (ad (o2)))]) rfl dX0_collectTurn_82 ?_
        refine g_aload_n (pc := 84) hG 2 rfl dX0_collectTurn_84 ?_
        refine g_get (pc := 85) hG fl0_25 0 rfl rfl dX0_collectTurn_85 ?_
        refine g_iload_n (pc := 88) hG 3 rfl dX0_collectTurn_88 ?_
        refine g_laload (pc := 89) hG 2 c rfl rfl (by omega) (by omega) (by decide) dX0_collectTurn_89 ?_
        refine g_aload_n (pc := 90) hG 2 rfl dX0_collectTurn_90 ?_
        refine g_get (pc := 91) hG fl0_28 0 rfl rfl dX0_collectTurn_91 ?_
        refine g_iload_n (pc := 94) hG 3 rfl dX0_collectTurn_94 ?_
        refine g_laload (pc := 95) hG 3 c rfl rfl (by omega) (by omega) (by decide) dX0_collectTurn_95 ?_
        refine g_iconst (pc := 96) hG dX0_collectTurn_96 ?_
        refine g_callP (pc := 97) hG (As := [lV (bs c), lV (sl c), iV (1)]) (rest := []) (c_X2_tell (l := l) (D := D) (cI := cI) (cL := cL) (cZ := cZ) (cX := cX) (cG := cG) (bs c) (sl c) 1 (by unfold bd62 at hbs; omega) (by unfold bd62 at hsl; omega) (by omega)) cs0_73 ⟨rfl, rfl⟩ ⟨Nat.le_of_ble_eq_true rfl, Nat.le_of_ble_eq_true rfl⟩ rfl rfl (Nat.le_of_ble_eq_true rfl) dX0_collectTurn_97 (fun v h => ?_)
        obtain ⟨rfl, -⟩ := h
        show G 100 [(4, lV (x82)), (3, bV (j49s0)), (0, .ref (ad (o))), (1, iV (((c : Nat) : Int))), (2, .ref (ad (o2)))] [lV (tellZ (bs c) (sl c) 1)] ([broC0 cI cL cZ ad (o) (((cn : Nat) : Int)), l3C0 cI cL cZ ad (o + 6) (sg), l3C0 cI cL cZ ad (o + 8) (bs), l3C0 cI cL cZ ad (o + 9) (sl), l6C0 cI cL cZ ad (o + 10) (fx), l6C0 cI cL cZ ad (o + 11) (rs), z6C0 cI cL cZ ad (o + 12) (st), rtoC0 cI cL cZ ad (o2) (((n : Nat) : Int)), l54C0 cI cL cZ ad (o2 + 1) (T), l54C0 cI cL cZ ad (o2 + 2) (B)])
        refine g_nmL (pc := 100) hG (fun x100 ex100 => ?_)
        refine g_lstore (pc := 100) hG (by decide) (lv' := [(6, lV (x100)), (4, lV (x82)), (3, bV (j49s0)), (0, .ref (ad (o))), (1, iV (((c : Nat) : Int))), (2, .ref (ad (o2)))]) rfl dX0_collectTurn_100 ?_
        refine g_aload_n (pc := 102) hG 3 rfl dX0_collectTurn_102 ?_
        refine g_lload (pc := 103) hG 1 rfl dX0_collectTurn_103 ?_
        refine g_lload (pc := 105) hG 0 rfl dX0_collectTurn_105 ?_
        refine g_iconst (pc := 107) hG dX0_collectTurn_107 ?_
        refine g_callV (pc := 108) hG (As := [lV (x82), lV (x100), iV (-1)]) (rest := []) (c_X0_holdsBeside (l := l) (D := D) (cI := cI) (cL := cL) (cZ := cZ) (cX := cX) (cG := cG) ad o cn fx rs st x82 x100 (-1) (hc) (by omega) (by rw [ex82, ex100]; exact hf hcs)) (Sp.sel [0, 4, 5, 6] rfl (by decide)) cv0_79 ⟨rfl, rfl⟩ ⟨Nat.le_of_ble_eq_true rfl, Nat.le_of_ble_eq_true rfl⟩ 0 rfl rfl rfl rfl (Nat.le_of_ble_eq_true rfl) dX0_collectTurn_108 (fun v w1 h => ?_)
        obtain ⟨rfl, rfl⟩ := h
        show G 111 [(6, lV (x100)), (4, lV (x82)), (3, bV (j49s0)), (0, .ref (ad (o))), (1, iV (((c : Nat) : Int))), (2, .ref (ad (o2)))] [bV (hbB cn fx rs st x82 x100 (-1))] ([broC0 cI cL cZ ad (o) (((cn : Nat) : Int)), l3C0 cI cL cZ ad (o + 6) (sg), l3C0 cI cL cZ ad (o + 8) (bs), l3C0 cI cL cZ ad (o + 9) (sl), l6C0 cI cL cZ ad (o + 10) (fx), l6C0 cI cL cZ ad (o + 11) (rs), z6C0 cI cL cZ ad (o + 12) (st), rtoC0 cI cL cZ ad (o2) (((n : Nat) : Int)), l54C0 cI cL cZ ad (o2 + 1) (T), l54C0 cI cL cZ ad (o2 + 2) (B)])
        refine g_ifb_ne (pc := 111) hG (tgt := 126) (by decide) dX0_collectTurn_111 (fun h111 => ?_) (fun h111 => ?_)
        · refine g_aload_n (pc := 126) hG 5 rfl dX0_collectTurn_126 ?_
          refine g_lload (pc := 127) hG 1 rfl dX0_collectTurn_127 ?_
          refine g_lload (pc := 129) hG 0 rfl dX0_collectTurn_129 ?_
          refine g_callV (pc := 131) hG (As := [lV (x82), lV (x100)]) (rest := []) (c_X7_insert (l := l) (D := D) (cI := cI) (cL := cL) (cZ := cZ) (cX := cX) (cG := cG) ad o2 T B n x82 x100 (hn) (hT) (by rw [ex82]; exact htb.1) (by rw [ex100]; exact htb.2)) (Sp.sel [7, 8, 9] rfl (by decide)) cv0_83 ⟨rfl, rfl⟩ ⟨Nat.le_of_ble_eq_true rfl, Nat.le_of_ble_eq_true rfl⟩ 7 rfl rfl rfl rfl (Nat.le_of_ble_eq_true rfl) dX0_collectTurn_131 (fun v w1 h => ?_)
          obtain ⟨T2_131, B2_131, n2_131, hi_131, rfl, rfl⟩ := h
          show G 134 [(6, lV (x100)), (4, lV (x82)), (3, bV (j49s0)), (0, .ref (ad (o))), (1, iV (((c : Nat) : Int))), (2, .ref (ad (o2)))] [] ([broC0 cI cL cZ ad (o) (((cn : Nat) : Int)), l3C0 cI cL cZ ad (o + 6) (sg), l3C0 cI cL cZ ad (o + 8) (bs), l3C0 cI cL cZ ad (o + 9) (sl), l6C0 cI cL cZ ad (o + 10) (fx), l6C0 cI cL cZ ad (o + 11) (rs), z6C0 cI cL cZ ad (o + 12) (st), rtoC0 cI cL cZ ad (o2) (((n2_131 : Nat) : Int)), l54C0 cI cL cZ ad (o2 + 1) (T2_131), l54C0 cI cL cZ ad (o2 + 2) (B2_131)])
          exact g_return (pc := 134) hG ⟨T2_131, B2_131, n2_131, by first | exact Or.inl ⟨⟨hcs, by rw [← ex82, ← ex100]; exact Or.inl h111⟩, by rw [← ex82, ← ex100]; exact hi_131⟩ | exact Or.inl ⟨⟨hcs, by rw [← ex82, ← ex100]; exact Or.inr h123⟩, by rw [← ex82, ← ex100]; exact hi_131⟩ | exact Or.inr ⟨fun h => by (rw [← ex82, ← ex100, h111, h123] at h; rcases h.2 with h | h <;> cases h), rfl, rfl, rfl⟩, rfl, rfl⟩ dX0_collectTurn_134
        · refine g_aload_n (pc := 114) hG 3 rfl dX0_collectTurn_114 ?_
          refine g_lload (pc := 115) hG 1 rfl dX0_collectTurn_115 ?_
          refine g_lload (pc := 117) hG 0 rfl dX0_collectTurn_117 ?_
          refine g_iconst (pc := 119) hG dX0_collectTurn_119 ?_
          refine g_callV (pc := 120) hG (As := [lV (x82), lV (x100), iV (1)]) (rest := []) (c_X0_holdsBeside (l := l) (D := D) (cI := cI) (cL := cL) (cZ := cZ) (cX := cX) (cG := cG) ad o cn fx rs st x82 x100 1 (hc) (by omega) (by rw [ex82, ex100]; exact hf hcs)) (Sp.sel [0, 4, 5, 6] rfl (by decide)) cv0_79 ⟨rfl, rfl⟩ ⟨Nat.le_of_ble_eq_true rfl, Nat.le_of_ble_eq_true rfl⟩ 0 rfl rfl rfl rfl (Nat.le_of_ble_eq_true rfl) dX0_collectTurn_120 (fun v w1 h => ?_)
          obtain ⟨rfl, rfl⟩ := h
          show G 123 [(6, lV (x100)), (4, lV (x82)), (3, bV (j49s0)), (0, .ref (ad (o))), (1, iV (((c : Nat) : Int))), (2, .ref (ad (o2)))] [bV (hbB cn fx rs st x82 x100 1)] ([broC0 cI cL cZ ad (o) (((cn : Nat) : Int)), l3C0 cI cL cZ ad (o + 6) (sg), l3C0 cI cL cZ ad (o + 8) (bs), l3C0 cI cL cZ ad (o + 9) (sl), l6C0 cI cL cZ ad (o + 10) (fx), l6C0 cI cL cZ ad (o + 11) (rs), z6C0 cI cL cZ ad (o + 12) (st), rtoC0 cI cL cZ ad (o2) (((n : Nat) : Int)), l54C0 cI cL cZ ad (o2 + 1) (T), l54C0 cI cL cZ ad (o2 + 2) (B)])
          refine g_ifb_eq (pc := 123) hG (tgt := 134) (by decide) dX0_collectTurn_123 (fun h123 => ?_) (fun h123 => ?_)
          · exact g_return (pc := 134) hG ⟨T, B, n, by first | exact Or.inl ⟨⟨hcs, by rw [← ex82, ← ex100]; exact Or.inl h111⟩, by rw [← ex82, ← ex100]; exact hi_131⟩ | exact Or.inl ⟨⟨hcs, by rw [← ex82, ← ex100]; exact Or.inr h123⟩, by rw [← ex82, ← ex100]; exact hi_131⟩ | exact Or.inr ⟨fun h => by (rw [← ex82, ← ex100, h111, h123] at h; rcases h.2 with h | h <;> cases h), rfl, rfl, rfl⟩, rfl, rfl⟩ dX0_collectTurn_134
          · refine g_aload_n (pc := 126) hG 5 rfl dX0_collectTurn_126 ?_
            refine g_lload (pc := 127) hG 1 rfl dX0_collectTurn_127 ?_
            refine g_lload (pc := 129) hG 0 rfl dX0_collectTurn_129 ?_
            refine g_callV (pc := 131) hG (As := [lV (x82), lV (x100)]) (rest := []) (c_X7_insert (l := l) (D := D) (cI := cI) (cL := cL) (cZ := cZ) (cX := cX) (cG := cG) ad o2 T B n x82 x100 (hn) (hT) (by rw [ex82]; exact htb.1) (by rw [ex100]; exact htb.2)) (Sp.sel [7, 8, 9] rfl (by decide)) cv0_83 ⟨rfl, rfl⟩ ⟨Nat.le_of_ble_eq_true rfl, Nat.le_of_ble_eq_true rfl⟩ 7 rfl rfl rfl rfl (Nat.le_of_ble_eq_true rfl) dX0_collectTurn_131 (fun v w1 h => ?_)
            obtain ⟨T2_131, B2_131, n2_131, hi_131, rfl, rfl⟩ := h
            show G 134 [(6, lV (x100)), (4, lV (x82)), (3, bV (j49s0)), (0, .ref (ad (o))), (1, iV (((c : Nat) : Int))), (2, .ref (ad (o2)))] [] ([broC0 cI cL cZ ad (o) (((cn : Nat) : Int)), l3C0 cI cL cZ ad (o + 6) (sg), l3C0 cI cL cZ ad (o + 8) (bs), l3C0 cI cL cZ ad (o + 9) (sl), l6C0 cI cL cZ ad (o + 10) (fx), l6C0 cI cL cZ ad (o + 11) (rs), z6C0 cI cL cZ ad (o + 12) (st), rtoC0 cI cL cZ ad (o2) (((n2_131 : Nat) : Int)), l54C0 cI cL cZ ad (o2 + 1) (T2_131), l54C0 cI cL cZ ad (o2 + 2) (B2_131)])
            exact g_return (pc := 134) hG ⟨T2_131, B2_131, n2_131, by first | exact Or.inl ⟨⟨hcs, by rw [← ex82, ← ex100]; exact Or.inl h111⟩, by rw [← ex82, ← ex100]; exact hi_131⟩ | exact Or.inl ⟨⟨hcs, by rw [← ex82, ← ex100]; exact Or.inr h123⟩, by rw [← ex82, ← ex100]; exact hi_131⟩ | exact Or.inr ⟨fun h => by (rw [← ex82, ← ex100, h111, h123] at h; rcases h.2 with h | h <;> cases h), rfl, rfl, rfl⟩, rfl, rfl⟩ dX0_collectTurn_134
      · exact g_lv (pc := 65) hG [1, 2, 3, 0] rfl (J65 () (Or.inr (⟨h57, h62⟩)))
  refine g_lc_le (pc := 7) hG (by unfold bd62 at hbs; omega) (by omega) (tgt := 22) (by decide) dX0_collectTurn_7 dX0_collectTurn_8 (fun h7 => ?_) (fun h7 => ?_)
  · refine g_aload_n (pc := 22) hG 0 rfl dX0_collectTurn_22 ?_
    refine g_get (pc := 23) hG fl0_25 0 rfl rfl dX0_collectTurn_23 ?_
    refine g_iload_n (pc := 26) hG 1 rfl dX0_collectTurn_26 ?_
    refine g_laload (pc := 27) hG 2 c rfl rfl (by omega) (by omega) (by decide) dX0_collectTurn_27 ?_
    refine g_lconst (z := 0) (pc := 28) hG dX0_collectTurn_28 (by decide) ?_
    refine g_lc_ge (pc := 29) hG (by unfold bd62 at hbs; omega) (by omega) (tgt := 48) (by decide) dX0_collectTurn_29 dX0_collectTurn_30 (fun h29 => ?_) (fun h29 => ?_)
    · refine g_iconst (pc := 48) hG dX0_collectTurn_48 ?_
      exact g_lv (pc := 49) hG [0, 1, 2] rfl (J49 false (Or.inl ⟨h7, h29, rfl⟩))
    · refine g_aload_n (pc := 33) hG 0 rfl dX0_collectTurn_33 ?_
      refine g_get (pc := 34) hG fl0_28 0 rfl rfl dX0_collectTurn_34 ?_
      refine g_iload_n (pc := 37) hG 1 rfl dX0_collectTurn_37 ?_
      refine g_laload (pc := 38) hG 3 c rfl rfl (by omega) (by omega) (by decide) dX0_collectTurn_38 ?_
      refine g_lconst (z := 0) (pc := 39) hG dX0_collectTurn_39 (by decide) ?_
      refine g_lc_ge (pc := 40) hG (by unfold bd62 at hsl; omega) (by omega) (tgt := 48) (by decide) dX0_collectTurn_40 dX0_collectTurn_41 (fun h40 => ?_) (fun h40 => ?_)
      · refine g_iconst (pc := 48) hG dX0_collectTurn_48 ?_
        exact g_lv (pc := 49) hG [0, 1, 2] rfl (J49 false (Or.inr (Or.inl ⟨h7, h29, h40, rfl⟩)))
      · refine g_iconst (pc := 44) hG dX0_collectTurn_44 ?_
        refine g_goto (pc := 45) hG (tgt := 49) (by decide) dX0_collectTurn_45 ?_
        exact g_lv (pc := 49) hG [0, 1, 2] rfl (J49 true (Or.inr (Or.inr (Or.inl ⟨h7, h29, h40, rfl⟩))))
  · refine g_aload_n (pc := 11) hG 0 rfl dX0_collectTurn_11 ?_
    refine g_get (pc := 12) hG fl0_28 0 rfl rfl dX0_collectTurn_12 ?_
    refine g_iload_n (pc := 15) hG 1 rfl dX0_collectTurn_15 ?_
    refine g_laload (pc := 16) hG 3 c rfl rfl (by omega) (by omega) (by decide) dX0_collectTurn_16 ?_
    refine g_lconst (z := 0) (pc := 17) hG dX0_collectTurn_17 (by decide) ?_
    refine g_lc_gt (pc := 18) hG (by unfold bd62 at hsl; omega) (by omega) (tgt := 44) (by decide) dX0_collectTurn_18 dX0_collectTurn_19 (fun h18 => ?_) (fun h18 => ?_)
    · refine g_iconst (pc := 44) hG dX0_collectTurn_44 ?_
      refine g_goto (pc := 45) hG (tgt := 49) (by decide) dX0_collectTurn_45 ?_
      exact g_lv (pc := 49) hG [0, 1, 2] rfl (J49 true (Or.inr (Or.inr (Or.inr (Or.inl ⟨h7, h18, rfl⟩)))))
    · refine g_aload_n (pc := 22) hG 0 rfl dX0_collectTurn_22 ?_
      refine g_get (pc := 23) hG fl0_25 0 rfl rfl dX0_collectTurn_23 ?_
      refine g_iload_n (pc := 26) hG 1 rfl dX0_collectTurn_26 ?_
      refine g_laload (pc := 27) hG 2 c rfl rfl (by omega) (by omega) (by decide) dX0_collectTurn_27 ?_
      refine g_lconst (z := 0) (pc := 28) hG dX0_collectTurn_28 (by decide) ?_
      refine g_lc_ge (pc := 29) hG (by unfold bd62 at hbs; omega) (by omega) (tgt := 48) (by decide) dX0_collectTurn_29 dX0_collectTurn_30 (fun h29 => ?_) (fun h29 => ?_)
      · refine g_iconst (pc := 48) hG dX0_collectTurn_48 ?_
        exact g_lv (pc := 49) hG [0, 1, 2] rfl (J49 false (Or.inr (Or.inr (Or.inr (Or.inr (Or.inl ⟨h7, h18, h29, rfl⟩))))))
      · refine g_aload_n (pc := 33) hG 0 rfl dX0_collectTurn_33 ?_
        refine g_get (pc := 34) hG fl0_28 0 rfl rfl dX0_collectTurn_34 ?_
        refine g_iload_n (pc := 37) hG 1 rfl dX0_collectTurn_37 ?_
        refine g_laload (pc := 38) hG 3 c rfl rfl (by omega) (by omega) (by decide) dX0_collectTurn_38 ?_
        refine g_lconst (z := 0) (pc := 39) hG dX0_collectTurn_39 (by decide) ?_
        refine g_lc_ge (pc := 40) hG (by unfold bd62 at hsl; omega) (by omega) (tgt := 48) (by decide) dX0_collectTurn_40 dX0_collectTurn_41 (fun h40 => ?_) (fun h40 => ?_)
        · refine g_iconst (pc := 48) hG dX0_collectTurn_48 ?_
          exact g_lv (pc := 49) hG [0, 1, 2] rfl (J49 false (Or.inr (Or.inr (Or.inr (Or.inr (Or.inr (Or.inl ⟨h7, h18, h29, h40, rfl⟩)))))))
        · refine g_iconst (pc := 44) hG dX0_collectTurn_44 ?_
          refine g_goto (pc := 45) hG (tgt := 49) (by decide) dX0_collectTurn_45 ?_
          exact g_lv (pc := 49) hG [0, 1, 2] rfl (J49 true (Or.inr (Or.inr (Or.inr (Or.inr (Or.inr (Or.inr (⟨h7, h18, h29, h40, rfl⟩))))))))
