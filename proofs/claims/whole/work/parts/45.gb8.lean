set_option maxHeartbeats 4000000 in
set_option maxRecDepth 100000 in
theorem c_X10_count {l : Launch} {D : va_G} {cI cL cZ cX cG : ClassId} (ad : Nat → Nat) (ks : Bool) (kp : Bool) (kz : Bool) (kl : Bool) (kt : Bool) (kh : Int) (X : Nat → Int) (Y : Nat → Int) (K : Nat → Bool) (m : Nat) (n : Nat) (q : Int) (wh : Int) (hw : InI wh) : Ct l D (gT cI cL cZ cX cG) yX10_count cX10_count 2 (some .int) ({ frames := 0, cells := 0, slots := 0, locals := 0 }) [.ref (ad (0)), iV (wh)] ([gboC0 cI cL cZ ad (0) (ks) (kp) (kz) (kl) (kt) (kh), tbC0 cI cL cZ ad (1) (X) (Y) (K) (((m : Nat) : Int)) (((n : Nat) : Int)) (q), tbC1 cI cL cZ ad (1) (X) (Y) (K) (((m : Nat) : Int)) (((n : Nat) : Int)) (q), tbC2 cI cL cZ ad (1) (X) (Y) (K) (((m : Nat) : Int)) (((n : Nat) : Int)) (q), tbC3 cI cL cZ ad (1) (X) (Y) (K) (((m : Nat) : Int)) (((n : Nat) : Int)) (q)]) (fun vv_ ww_ => ∃ (v : Int), (v = if wh = 0 then ((m : Nat) : Int) else if wh = 1 then ((n : Nat) : Int) else if wh = 2 then q else -1) ∧ vv_ = some (iV (v)) ∧ ww_ = [gboC0 cI cL cZ ad (0) (ks) (kp) (kz) (kl) (kt) (kh), tbC0 cI cL cZ ad (1) (X) (Y) (K) (((m : Nat) : Int)) (((n : Nat) : Int)) (q), tbC1 cI cL cZ ad (1) (X) (Y) (K) (((m : Nat) : Int)) (((n : Nat) : Int)) (q), tbC2 cI cL cZ ad (1) (X) (Y) (K) (((m : Nat) : Int)) (((n : Nat) : Int)) (q), tbC3 cI cL cZ ad (1) (X) (Y) (K) (((m : Nat) : Int)) (((n : Nat) : Int)) (q)]) := by
  refine Ct.of (by decide) (Nat.le_of_ble_eq_true rfl) (fun G hG => ?_)
  show G 0 [(0, .ref (ad (0))), (1, iV (wh))] [] ([gboC0 cI cL cZ ad (0) (ks) (kp) (kz) (kl) (kt) (kh), tbC0 cI cL cZ ad (1) (X) (Y) (K) (((m : Nat) : Int)) (((n : Nat) : Int)) (q), tbC1 cI cL cZ ad (1) (X) (Y) (K) (((m : Nat) : Int)) (((n : Nat) : Int)) (q), tbC2 cI cL cZ ad (1) (X) (Y) (K) (((m : Nat) : Int)) (((n : Nat) : Int)) (q), tbC3 cI cL cZ ad (1) (X) (Y) (K) (((m : Nat) : Int)) (((n : Nat) : Int)) (q)])
  refine g_iload_n (pc := 0) hG 1 rfl dX10_count_0 ?_
  refine g_table3 (pc := 1) hG (by omega) (td := 52) (t0 := 28) (t1 := 36) (t2 := 44) (by decide) (by decide) (by decide) (by decide) dX10_count_1 (fun h1 => ?_) (fun h1 => ?_) (fun h1 => ?_) (fun h1 => ?_)
  · refine g_aload_n (pc := 28) hG 0 rfl dX10_count_28 ?_
    refine g_get (pc := 29) hG fl10_10 0 rfl rfl dX10_count_29 ?_
    refine g_get (pc := 32) hG fl10_178 1 rfl rfl dX10_count_32 ?_
    exact g_ireturn (pc := 35) hG ⟨((m : Nat) : Int), by rw [if_pos h1], rfl, rfl⟩ dX10_count_35
  · refine g_aload_n (pc := 36) hG 0 rfl dX10_count_36 ?_
    refine g_get (pc := 37) hG fl10_10 0 rfl rfl dX10_count_37 ?_
    refine g_get (pc := 40) hG fl10_161 1 rfl rfl dX10_count_40 ?_
    exact g_ireturn (pc := 43) hG ⟨((n : Nat) : Int), by rw [if_neg (by omega), if_pos h1], rfl, rfl⟩ dX10_count_43
  · refine g_aload_n (pc := 44) hG 0 rfl dX10_count_44 ?_
    refine g_get (pc := 45) hG fl10_10 0 rfl rfl dX10_count_45 ?_
    refine g_get (pc := 48) hG fl10_199 1 rfl rfl dX10_count_48 ?_
    exact g_ireturn (pc := 51) hG ⟨q, by rw [if_neg (by omega), if_neg (by omega), if_pos h1], rfl, rfl⟩ dX10_count_51
  · refine g_iconst (pc := 52) hG dX10_count_52 ?_
    exact g_ireturn (pc := 53) hG ⟨-1, by rw [if_neg (by omega), if_neg (by omega), if_neg (by omega)], rfl, rfl⟩ dX10_count_53
