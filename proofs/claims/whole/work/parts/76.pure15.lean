/-! pure: bounds of the patterns -/
theorem cof_b {M : M3} (hM : ∀ a b, a < 3 → b < 3 → -1944 ≤ M a b ∧ M a b ≤ 1944) {n r c : Nat} (hn : n ≤ 3) (hr : r < n) (hc : c < n) : (-7558272 ≤ cofM M n r c ∧ cofM M n r c ≤ 7558272) ∧ (n ≤ 2 → -1944 ≤ cofM M n r c ∧ cofM M n r c ≤ 1944) := by
  have r12 : ∀ k, r1 k < 3 ∧ r2 k < 3 := fun k => by unfold r1 r2; constructor <;> split <;> omega
  have mb : -7558272 ≤ minM M r c ∧ minM M r c ≤ 7558272 := by
    have h1 := mul_bd (hM (r1 r) (r1 c) (r12 r).1 (r12 c).1) (hM (r2 r) (r2 c) (r12 r).2 (r12 c).2)
    have h2 := mul_bd (hM (r1 r) (r2 c) (r12 r).1 (r12 c).2) (hM (r2 r) (r1 c) (r12 r).2 (r12 c).1)
    unfold minM; omega
  have h3 := hM (1 - r) (1 - c) (by omega) (by omega)
  unfold cofM
  by_cases e1 : n = 1
  · rw [if_pos e1]; omega
  · rw [if_neg e1]
    by_cases e2 : n = 2
    · rw [if_pos e2]; split <;> omega
    · rw [if_neg e2]; split <;> omega
theorem cr_b {M : M3} {v : Nat → Int} {A V : Int} {n c : Nat} (hA : ∀ r, r < n → -A ≤ cofM M n r c ∧ cofM M n r c ≤ A) (hv : ∀ r, r < n → -V ≤ v r ∧ v r ≤ V) : ∀ r, r ≤ n → -(A * V * (r : Int)) ≤ crS M v n c r ∧ crS M v n c r ≤ A * V * (r : Int)
  | 0, _ => by simp [crS]
  | r + 1, hr => by
    have ih := cr_b hA hv r (by omega)
    have := mul_bd (hA r (by omega)) (hv r (by omega))
    have e : A * V * ((r + 1 : Nat) : Int) = A * V * (r : Int) + A * V := by rw [Int.natCast_add, Int.mul_add]; simp
    show _ ≤ crS M v n c r + _ ∧ crS M v n c r + _ ≤ _
    rw [e]; omega
section BB
variable {g : M3}
theorem gs_b (hG : ∀ a b, a < 3 → b < 3 → -1944 ≤ g a b ∧ g a b ≤ 1944) {st : Nat} (hs : st < 8) : ∀ a b, a < 3 → b < 3 → -1944 ≤ gsS st g a b ∧ gsS st g a b ≤ 1944 := fun a b ha hb => hG _ _ (clF_lt hs ha) (clF_lt hs hb)
theorem baS_b (hG : ∀ a b, a < 3 → b < 3 → -1944 ≤ g a b ∧ g a b ≤ 1944) {st : Nat} (hs : st < 8) {v : Nat → Int} {V : Int} (hv : ∀ c, c < 3 → -V ≤ v c ∧ v c ≤ V) {c : Nat} (hc : c < 3) : (-(22674816 * V) ≤ baS st g v c ∧ baS st g v c ≤ 22674816 * V) ∧ (cb st 3 ≤ 2 → -(3888 * V) ≤ baS st g v c ∧ baS st g v c ≤ 3888 * V) := by
  have h0 := hv 0 (by omega)
  have n3 := cb_le st 3
  unfold baS
  by_cases e : st.testBit c = true
  · rw [if_pos e]
    have l := cb_lt hc e
    have w : ∀ r, r < cb st 3 → -V ≤ v (clF st r) ∧ v (clF st r) ≤ V := fun r hr => hv _ (clF_lt hs (by omega))
    have a := cr_b (A := 7558272) (fun r hr => (cof_b (gs_b hG hs) n3 hr l).1) w _ (Nat.le_refl _)
    refine ⟨?_, fun h2 => ?_⟩
    · have k : 7558272 * V * ((cb st 3 : Nat) : Int) ≤ 22674816 * V := by
        rcases (show cb st 3 = 0 ∨ cb st 3 = 1 ∨ cb st 3 = 2 ∨ cb st 3 = 3 by omega) with q | q | q | q <;> rw [q] <;> omega
      omega
    · have b := cr_b (A := 1944) (fun r hr => (cof_b (gs_b hG hs) n3 hr l).2 h2) w _ (Nat.le_refl _)
      have k : 1944 * V * ((cb st 3 : Nat) : Int) ≤ 3888 * V := by
        rcases (show cb st 3 = 0 ∨ cb st 3 = 1 ∨ cb st 3 = 2 by omega) with q | q | q <;> rw [q] <;> omega
      omega
  · rw [if_neg e]; omega
theorem dtS_b (hG : ∀ a b, a < 3 → b < 3 → -1944 ≤ g a b ∧ g a b ≤ 1944) {st : Nat} (hs : st < 8) : (-44079842304 ≤ dtS st g ∧ dtS st g ≤ 44079842304) ∧ (cb st 3 ≤ 2 → -7558272 ≤ dtS st g ∧ dtS st g ≤ 7558272) := by
  have hM := gs_b hG hs
  unfold dtS
  generalize gsS st g = M at *
  have n3 := cb_le st 3
  have mb : ∀ c, c < 3 → -7558272 ≤ minM M 0 c ∧ minM M 0 c ≤ 7558272 := fun c hc => by
    have r12 : ∀ k, r1 k < 3 ∧ r2 k < 3 := fun k => by unfold r1 r2; constructor <;> split <;> omega
    have h1 := mul_bd (hM (r1 0) (r1 c) (r12 0).1 (r12 c).1) (hM (r2 0) (r2 c) (r12 0).2 (r12 c).2)
    have h2 := mul_bd (hM (r1 0) (r2 c) (r12 0).1 (r12 c).2) (hM (r2 0) (r1 c) (r12 0).2 (r12 c).1)
    unfold minM; omega
  have t0 := mul_bd (hM 0 0 (by omega) (by omega)) (mb 0 (by omega))
  have t1 := mul_bd (hM 0 1 (by omega) (by omega)) (mb 1 (by omega))
  have t2 := mul_bd (hM 0 2 (by omega) (by omega)) (mb 2 (by omega))
  have s1 := mul_bd (hM 0 0 (by omega) (by omega)) (hM 1 1 (by omega) (by omega))
  have s2 := mul_bd (hM 0 1 (by omega) (by omega)) (hM 1 0 (by omega) (by omega))
  have s3 := hM 0 0 (by omega) (by omega)
  unfold detM
  by_cases e0 : cb st 3 = 0
  · rw [if_pos e0]; omega
  · rw [if_neg e0]
    by_cases e1 : cb st 3 = 1
    · rw [if_pos e1]; omega
    · rw [if_neg e1]
      by_cases e2 : cb st 3 = 2
      · rw [if_pos e2]; omega
      · rw [if_neg e2]; omega
variable {h : Nat → Int} {m p : Nat}
theorem Bar.pab (B : Bar g h m) (hG : ∀ a b, a < 3 → b < 3 → -1944 ≤ g a b ∧ g a b ≤ 1944) (hh : ∀ c, c < 3 → -21384 ≤ h c ∧ h c ≤ 21384) : PaB g h m := fun q hq => by
  have cq := cv_f B.hm.2 hq
  have hp := cq.2.1.2
  have eq : cvP m (vcP m q) = q := cq.2.2.1.2
  obtain ⟨-, -, -, ⟨-, k2, k8⟩, -⟩ := cv_f B.hm.2 hp
  have r := ref_eq (g := g) (h := h) B.hm.2 hp
  rw [eq] at r
  have m3 := B.hm.2
  have d := dtS_b hG k8
  refine ⟨⟨by rw [r.1]; exact (dtS_rk B.gr.1 B.pd B.hm.2 _ k8 k2).2, by rw [r.1]; omega⟩, fun c hc => ?_⟩
  rw [(r.2.2 c hc).1, (r.2.2 c hc).2]
  have b1 := (baS_b (v := fun c => 2 * h c) (V := 42768) hG k8 (fun c hc => by have := hh c hc; omega) (c := c) (by omega)).1
  have b2 := (baS_b (v := sgP (vcP m q)) (V := 1) hG k8 (fun c _ => sg_bd _ c) (c := c) (by omega)).1
  omega
/-- the solver's own bounds -/
theorem slv_b {Q f : Nat → Int} {V : Int} (hQ : PB Q) (hf : ∀ c, c < 3 → -V ≤ f c ∧ f c ≤ V) {r c : Nat} (hr : r ≤ 3) (hc : c < 3) : -(90699264 * V) ≤ slvF Q (symF Q) f r c ∧ slvF Q (symF Q) f r c ≤ 90699264 * V := by
  have h0 := hf 0 (by omega)
  have e1b : -5832 ≤ e1 Q ∧ e1 Q ≤ 5832 := by
    have a := hQ 0 (by omega); have b := hQ 4 (by omega); have c := hQ 8 (by omega); unfold e1; omega
  have e2b : -22674816 ≤ e2 Q ∧ e2 Q ≤ 22674816 := by
    have a1 := mul_bd (hQ 4 (by omega)) (hQ 8 (by omega)); have a2 := mul_bd (hQ 5 (by omega)) (hQ 7 (by omega))
    have a3 := mul_bd (hQ 0 (by omega)) (hQ 8 (by omega)); have a4 := mul_bd (hQ 2 (by omega)) (hQ 6 (by omega))
    have a5 := mul_bd (hQ 0 (by omega)) (hQ 4 (by omega)); have a6 := mul_bd (hQ 1 (by omega)) (hQ 3 (by omega))
    unfold e2; omega
  have rpb : ∀ (w : Nat → Int) (U : Int), (∀ c, c < 3 → -U ≤ w c ∧ w c ≤ U) → ∀ c, c < 3 → -(5832 * U) ≤ rp Q c (w 0) (w 1) (w 2) ∧ rp Q c (w 0) (w 1) (w 2) ≤ 5832 * U := fun w U hw c hc => by
    have a1 := mul_bd (hQ (c * 3) (by omega)) (hw 0 (by omega)); have a2 := mul_bd (hQ (c * 3 + 1) (by omega)) (hw 1 (by omega)); have a3 := mul_bd (hQ (c * 3 + 2) (by omega)) (hw 2 (by omega))
    unfold rp; omega
  have w2 : ∀ c, c < 3 → -(11664 * V) ≤ slvF Q (symF Q) f 2 c ∧ slvF Q (symF Q) f 2 c ≤ 11664 * V := fun c hc => by
    have a := mul_bd e1b (hf c hc)
    have b := rpb f V hf c hc
    show _ ≤ e1 Q * f c - rp Q c (f 0) (f 1) (f 2) ∧ e1 Q * f c - rp Q c (f 0) (f 1) (f 2) ≤ _
    omega
  match r, hr with
  | 0, _ => show _ ≤ (0 : Int) ∧ (0 : Int) ≤ _; omega
  | 1, _ => have := hf c hc; show _ ≤ f c ∧ f c ≤ _; omega
  | 2, _ => have := w2 c hc; omega
  | 3, _ =>
    have a := mul_bd e2b (hf c hc)
    have b := rpb (slvF Q (symF Q) f 2) (11664 * V) w2 c hc
    show _ ≤ e2 Q * f c - rp Q c (slvF Q (symF Q) f 2 0) (slvF Q (symF Q) f 2 1) (slvF Q (symF Q) f 2 2) ∧ e2 Q * f c - rp Q c (slvF Q (symF Q) f 2 0) (slvF Q (symF Q) f 2 1) (slvF Q (symF Q) f 2 2) ≤ _
    omega
theorem sym_b {Q : Nat → Int} (hQ : PB Q) {r : Nat} (hr : r ≤ 3) : -44079842304 ≤ symF Q r ∧ symF Q r ≤ 44079842304 := by
  have a1 := mul_bd (hQ 4 (by omega)) (hQ 8 (by omega)); have a2 := mul_bd (hQ 5 (by omega)) (hQ 7 (by omega))
  have a3 := mul_bd (hQ 0 (by omega)) (hQ 8 (by omega)); have a4 := mul_bd (hQ 2 (by omega)) (hQ 6 (by omega))
  have a5 := mul_bd (hQ 0 (by omega)) (hQ 4 (by omega)); have a6 := mul_bd (hQ 1 (by omega)) (hQ 3 (by omega))
  have b1 := mul_bd (hQ 3 (by omega)) (hQ 8 (by omega)); have b2 := mul_bd (hQ 5 (by omega)) (hQ 6 (by omega))
  have b3 := mul_bd (hQ 3 (by omega)) (hQ 7 (by omega)); have b4 := mul_bd (hQ 4 (by omega)) (hQ 6 (by omega))
  have c0 := mul_bd (a := Q 0) (A := 1944) (b := Q 4 * Q 8 - Q 5 * Q 7) (B := 7558272) (hQ 0 (by omega)) (by omega)
  have c1 := mul_bd (a := Q 1) (A := 1944) (b := Q 3 * Q 8 - Q 5 * Q 6) (B := 7558272) (hQ 1 (by omega)) (by omega)
  have c2 := mul_bd (a := Q 2) (A := 1944) (b := Q 3 * Q 7 - Q 4 * Q 6) (B := 7558272) (hQ 2 (by omega)) (by omega)
  have d0 := hQ 0 (by omega); have d1 := hQ 4 (by omega); have d2 := hQ 8 (by omega)
  match r, hr with
  | 0, _ => show _ ≤ (1 : Int) ∧ (1 : Int) ≤ _; omega
  | 1, _ => show _ ≤ e1 Q ∧ e1 Q ≤ _; unfold e1; omega
  | 2, _ => show _ ≤ e2 Q ∧ e2 Q ≤ _; unfold e2; omega
  | 3, _ => show _ ≤ e3 Q ∧ e3 Q ≤ _; unfold e3; omega
theorem qp_pb {P : Nat → Int} (hP : PB P) (p : Nat) : PB (QP P p) := fun k hk => by
  have := hP k hk
  unfold QP cpP; split <;> omega
section PR
variable {P R : Nat → Int}
theorem bs_b (hP : PB P) (hR : ∀ c, c < 3 → -21384 ≤ R c ∧ R c ≤ 21384) (p : Nat) {c : Nat} (hc : c < 3) : (-3879026122752 ≤ bsP P R p c ∧ bsP P R p c ≤ 3879026122752) ∧ (-90699264 ≤ slP P p c ∧ slP P p c ≤ 90699264) := by
  have a := slv_b (f := dbP R p) (V := 42768) (qp_pb hP p) (fun c hc => by have := hR c hc; unfold dbP; split <;> omega) (r := rk0 (QP P p)) (rk_le _) hc
  have b := slv_b (f := sgP p) (V := 1) (qp_pb hP p) (fun c _ => sg_bd p c) (r := rk0 (QP P p)) (rk_le _) hc
  unfold bsP slP; omega
theorem bo_b (hP : PB P) (p : Nat) : -44079842304 ≤ boP P p ∧ boP P p ≤ 44079842304 := sym_b (qp_pb hP p) (rk_le _)
theorem dm_b (hP : PB P) (hR : ∀ c, c < 3 → -21384 ≤ R c ∧ R c ≤ 21384) (p : Nat) {c : Nat} (hc : c < 3) : (-30000000000000000 ≤ drP P R p c ∧ drP P R p c ≤ 30000000000000000) ∧ (-600000000000 ≤ moP P p c ∧ moP P p c ≤ 600000000000) := by
  have b0 := bs_b hP hR p (c := 0) (by omega); have b1 := bs_b hP hR p (c := 1) (by omega); have b2 := bs_b hP hR p (c := 2) (by omega)
  have q0 := hP (c * 3) (by omega); have q1 := hP (c * 3 + 1) (by omega); have q2 := hP (c * 3 + 2) (by omega)
  have a0 := mul_bd q0 b0.1; have a1 := mul_bd q1 b1.1; have a2 := mul_bd q2 b2.1
  have c0 := mul_bd q0 b0.2; have c1 := mul_bd q1 b1.2; have c2 := mul_bd q2 b2.2
  have d := mul_bd (a := 2 * R c) (A := 42768) (by have := hR c hc; omega) (bo_b hP p)
  unfold drP moP rp; omega
theorem cd_all {p : Nat} {Φ Ψ : Int → Int → Bool → Prop} {c : Nat} (h : cdC P R p Φ c) (k : ∀ a b s, Φ a b s → Ψ a b s) : cdC P R p Ψ c := by
  unfold cdC at *
  split at h
  · rename_i e; rw [if_pos e]; exact ⟨k _ _ _ h.1, k _ _ _ h.2⟩
  · rename_i e; rw [if_neg e]; exact k _ _ _ h
/-- fixed part and slope of every condition -/
theorem cd_b (hP : PB P) (hR : ∀ c, c < 3 → -21384 ≤ R c ∧ R c ≤ 21384) (p : Nat) {c : Nat} (hc : c < 3) : cdC P R p (fun a b _ => (-30000000000000000 ≤ a ∧ a ≤ 30000000000000000) ∧ (-700000000000 ≤ b ∧ b ≤ 700000000000)) c := by
  have b := bs_b hP hR p hc
  have d := dm_b hP hR p hc
  have e := bo_b hP p
  have s := sg_bd p c
  have s1 := mul_bd (a := sgP p c) (A := 1) s b.1
  have s2 := mul_bd (a := -sgP p c) (A := 1) (by omega) b.2
  unfold cdC
  split
  · exact ⟨⟨by omega, by omega⟩, ⟨by omega, by omega⟩⟩
  · exact ⟨by omega, by omega⟩
theorem bab_of (hP : PB P) (hR : ∀ c, c < 3 → -21384 ≤ R c ∧ R c ≤ 21384) {ts : Int} (ht : 0 ≤ ts ∧ ts ≤ 235224) : BaB P R ts := fun bar hbar p _ => by
  have hb : -50000 ≤ ((bar : Nat) : Int) ∧ ((bar : Nat) : Int) ≤ 50000 := by omega
  have e := bo_b hP p
  have w : ∀ c, c < 3 → -10000000000000 ≤ bsP P R p c - slP P p c * ((bar : Nat) : Int) ∧ bsP P R p c - slP P p c * ((bar : Nat) : Int) ≤ 10000000000000 := fun c hc => by
    have b := bs_b hP hR p hc
    have := mul_bd b.2 hb
    omega
  refine ⟨fun c hc => cd_all (cd_b hP hR p hc) (fun a b s q => ?_), fun c hc => ?_, ?_, ?_, ?_⟩
  · have := mul_bd q.2 hb
    exact ⟨by omega, by omega⟩
  · have := w c hc; unfold B63; omega
  · unfold B63; omega
  · unfold B63; omega
  · have f : ∀ c, c < 3 → -1000000000000000000 ≤ (bsP P R p c - slP P p c * ((bar : Nat) : Int)) * (dbP R p c - sgP p c * ((bar : Nat) : Int)) ∧ (bsP P R p c - slP P p c * ((bar : Nat) : Int)) * (dbP R p c - sgP p c * ((bar : Nat) : Int)) ≤ 1000000000000000000 := fun c hc => by
      have a := mul_bd (sg_bd p c) hb
      have d : -42768 ≤ dbP R p c ∧ dbP R p c ≤ 42768 := by have := hR c hc; unfold dbP; split <;> omega
      have := mul_bd (w c hc) (show -100000 ≤ dbP R p c - sgP p c * ((bar : Nat) : Int) ∧ dbP R p c - sgP p c * ((bar : Nat) : Int) ≤ 100000 by omega)
      omega
    have f0 := f 0 (by omega); have f1 := f 1 (by omega); have f2 := f 2 (by omega)
    have t := mul_bd (a := 4 * boP P p) (A := 176319369216) (b := ts) (B := 235224) (by omega) (by omega)
    unfold csP csZ csZ csZ csZ B63
    omega
end PR
/-! the walk of the corners -/
theorem low_f {t b : Int} (hb : b ≠ 0) : ∃ f : Int, f ≠ 0 ∧ f * lowN t b = t ∧ f * lowD t b = b := by
  have gp : (0 : Int) < ((Int.gcd t b : Nat) : Int) := by have := gcd_pos_r (t := t) hb; omega
  unfold lowN lowD
  obtain ⟨x, hx⟩ := Int.gcd_dvd_left t b
  obtain ⟨y, hy⟩ := Int.gcd_dvd_right t b
  generalize ((Int.gcd t b : Nat) : Int) = G at *
  subst hx; subst hy
  by_cases hn : G * y < 0
  · rw [if_pos hn, if_pos hn, ← Int.mul_neg, ← Int.mul_neg, Int.mul_ediv_cancel_left _ (by omega), Int.mul_ediv_cancel_left _ (by omega)]
    exact ⟨-G, by omega, by grind, by grind⟩
  · rw [if_neg hn, if_neg hn, Int.mul_ediv_cancel_left _ (by omega), Int.mul_ediv_cancel_left _ (by omega)]
    exact ⟨G, by omega, rfl, rfl⟩
theorem tb_le {P R : Nat → Int} {p c : Nat} (hs : slP P p c ≠ 0) {a b T : Int} (h : ((a * slP P p c + b * bsP P R p c).natAbs : Int) ≤ T) : ((a * btP P R p c + b * tpP P R p c).natAbs : Int) ≤ T := by
  unfold btP tpP
  rw [(tell01 hs).1, (tell01 hs).2]
  obtain ⟨f, f0, f1, f2⟩ := low_f (t := bsP P R p c) hs
  have e : a * slP P p c + b * bsP P R p c = f * (a * lowD (bsP P R p c) (slP P p c) + b * lowN (bsP P R p c) (slP P p c)) := by
    generalize lowD (bsP P R p c) (slP P p c) = D at *; generalize lowN (bsP P R p c) (slP P p c) = N at *
    rw [← f1, ← f2]; grind
  have := le_of_mul f0 e
  omega
theorem q3_le (hg : GrM g) (hG : ∀ a b, a < 3 → b < 3 → -1944 ≤ g a b ∧ g a b ≤ 1944) : q3 g ≤ 7346640384 := by
  have e : q3 g = g 0 0 * p0 g - Qf g 0 (g 0 2) (-g 0 1) := by unfold q3 p0 a01 a02 Qf; grind
  have n := hg.2.1 0 (g 0 2) (-g 0 1)
  have d0 := hg.d0; have d1 := hg.d1; have d2 := hg.d2
  have k := p_b (c := g 1 2) (A := 1944) ⟨d1, (hG 1 1 (by omega) (by omega)).2⟩ ⟨d2, (hG 2 2 (by omega) (by omega)).2⟩
  have np := hg.np0
  have kk : p0 g ≤ 3779136 := k
  have := mul_bd (a := g 0 0) (A := 1944) (b := p0 g) (B := 3779136) (hG 0 0 (by omega) (by omega)) (by omega)
  omega
theorem ba7 (hs : SyM g) (v : Nat → Int) : baS 7 g v 0 = p0 g * v 0 + a01 g * v 1 + a02 g * v 2 ∧ baS 7 g v 1 = a01 g * v 0 + p1 g * v 1 + a12 g * v 2 ∧ baS 7 g v 2 = a02 g * v 0 + a12 g * v 1 + p2 g * v 2 := by
  have s1 := hs 1 0; have s2 := hs 2 0; have s3 := hs 2 1
  refine ⟨?_, ?_, ?_⟩ <;> simp [baS, gsS, crS, cofM, minM, r1, r2, cl_7_0, cl_7_1, cl_7_2, cb_7_0, cb_7_1, cb_7_2, cb_7_3, tb_7_0, tb_7_1, tb_7_2] <;> simp only [p0, p1, p2, a01, a02, a12, s1, s2, s3] <;> grind
theorem cross (x y z a b c u0 u1 u2 v0 v1 v2 : Int) : ((y * z - c * c) * u0 + (b * c - a * z) * u1 + (a * c - b * y) * u2) * ((b * c - a * z) * v0 + (x * z - b * b) * v1 + (a * b - x * c) * v2) - ((y * z - c * c) * v0 + (b * c - a * z) * v1 + (a * c - b * y) * v2) * ((b * c - a * z) * u0 + (x * z - b * b) * u1 + (a * b - x * c) * u2) = (x * (y * z - c * c) + a * (b * c - a * z) + b * (a * c - b * y)) * (b * (u1 * v2 - u2 * v1) + c * (u2 * v0 - u0 * v2) + z * (u0 * v1 - u1 * v0)) := by grind
theorem cross12 (x y z a b c u0 u1 u2 v0 v1 v2 : Int) : ((b * c - a * z) * u0 + (x * z - b * b) * u1 + (a * b - x * c) * u2) * ((a * c - b * y) * v0 + (a * b - x * c) * v1 + (x * y - a * a) * v2) - ((b * c - a * z) * v0 + (x * z - b * b) * v1 + (a * b - x * c) * v2) * ((a * c - b * y) * u0 + (a * b - x * c) * u1 + (x * y - a * a) * u2) = (x * (y * z - c * c) + a * (b * c - a * z) + b * (a * c - b * y)) * (x * (u1 * v2 - u2 * v1) + a * (u2 * v0 - u0 * v2) + b * (u0 * v1 - u1 * v0)) := by grind
theorem cross20 (x y z a b c u0 u1 u2 v0 v1 v2 : Int) : ((a * c - b * y) * u0 + (a * b - x * c) * u1 + (x * y - a * a) * u2) * ((y * z - c * c) * v0 + (b * c - a * z) * v1 + (a * c - b * y) * v2) - ((a * c - b * y) * v0 + (a * b - x * c) * v1 + (x * y - a * a) * v2) * ((y * z - c * c) * u0 + (b * c - a * z) * u1 + (a * c - b * y) * u2) = (x * (y * z - c * c) + a * (b * c - a * z) + b * (a * c - b * y)) * (a * (u1 * v2 - u2 * v1) + y * (u2 * v0 - u0 * v2) + c * (u0 * v1 - u1 * v0)) := by grind
theorem cr7 (hg : GrM g) (hG : ∀ a b, a < 3 → b < 3 → -1944 ≤ g a b ∧ g a b ≤ 1944) {u v : Nat → Int} (hu : ∀ c, c < 3 → -42768 ≤ u c ∧ u c ≤ 42768) (hv : ∀ c, c < 3 → -1 ≤ v c ∧ v c ≤ 1) : ∀ c, c < 3 → ∀ c', c' < 3 → ((baS 7 g u c' * baS 7 g v c - baS 7 g v c' * baS 7 g u c).natAbs : Int) ≤ 3700000000000000000 := by
  have a7 := ba7 hg.1 u
  have b7 := ba7 hg.1 v
  have qb : -7346640384 ≤ q3 g ∧ q3 g ≤ 7346640384 := ⟨by have := hg.nq3; omega, q3_le hg hG⟩
  have k01 : -85536 ≤ u 0 * v 1 - u 1 * v 0 ∧ u 0 * v 1 - u 1 * v 0 ≤ 85536 := by have := mul_bd (hu 0 (by omega)) (hv 1 (by omega)); have := mul_bd (hu 1 (by omega)) (hv 0 (by omega)); omega
  have k12 : -85536 ≤ u 1 * v 2 - u 2 * v 1 ∧ u 1 * v 2 - u 2 * v 1 ≤ 85536 := by have := mul_bd (hu 1 (by omega)) (hv 2 (by omega)); have := mul_bd (hu 2 (by omega)) (hv 1 (by omega)); omega
  have k20 : -85536 ≤ u 2 * v 0 - u 0 * v 2 ∧ u 2 * v 0 - u 0 * v 2 ≤ 85536 := by have := mul_bd (hu 2 (by omega)) (hv 0 (by omega)); have := mul_bd (hu 0 (by omega)) (hv 2 (by omega)); omega
  have row : ∀ r : Int × Int × Int, (-1944 ≤ r.1 ∧ r.1 ≤ 1944) → (-1944 ≤ r.2.1 ∧ r.2.1 ≤ 1944) → (-1944 ≤ r.2.2 ∧ r.2.2 ≤ 1944) → ((q3 g * (r.1 * (u 1 * v 2 - u 2 * v 1) + r.2.1 * (u 2 * v 0 - u 0 * v 2) + r.2.2 * (u 0 * v 1 - u 1 * v 0))).natAbs : Int) ≤ 3700000000000000000 := fun r h1 h2 h3 => by
    have m1 := mul_bd h1 k12; have m2 := mul_bd h2 k20; have m3 := mul_bd h3 k01
    have := mul_bd qb (show -498845952 ≤ r.1 * (u 1 * v 2 - u 2 * v 1) + r.2.1 * (u 2 * v 0 - u 0 * v 2) + r.2.2 * (u 0 * v 1 - u 1 * v 0) ∧ r.1 * (u 1 * v 2 - u 2 * v 1) + r.2.1 * (u 2 * v 0 - u 0 * v 2) + r.2.2 * (u 0 * v 1 - u 1 * v 0) ≤ 498845952 by omega)
    omega
  have c01 : ((baS 7 g u 0 * baS 7 g v 1 - baS 7 g v 0 * baS 7 g u 1).natAbs : Int) ≤ 3700000000000000000 := by
    rw [a7.1, a7.2.1, b7.1, b7.2.1]
    have := cross (g 0 0) (g 1 1) (g 2 2) (g 0 1) (g 0 2) (g 1 2) (u 0) (u 1) (u 2) (v 0) (v 1) (v 2)
    have r := row (g 0 2, g 1 2, g 2 2) (hG 0 2 (by omega) (by omega)) (hG 1 2 (by omega) (by omega)) (hG 2 2 (by omega) (by omega))
    unfold q3 p0 p1 a01 a02 a12 at *
    rw [this]; exact r
  have c12 : ((baS 7 g u 1 * baS 7 g v 2 - baS 7 g v 1 * baS 7 g u 2).natAbs : Int) ≤ 3700000000000000000 := by
    rw [a7.2.1, a7.2.2, b7.2.1, b7.2.2]
    have := cross12 (g 0 0) (g 1 1) (g 2 2) (g 0 1) (g 0 2) (g 1 2) (u 0) (u 1) (u 2) (v 0) (v 1) (v 2)
    have r := row (g 0 0, g 0 1, g 0 2) (hG 0 0 (by omega) (by omega)) (hG 0 1 (by omega) (by omega)) (hG 0 2 (by omega) (by omega))
    unfold q3 p0 p1 p2 a01 a02 a12 at *
    rw [this]; exact r
  have c20 : ((baS 7 g u 2 * baS 7 g v 0 - baS 7 g v 2 * baS 7 g u 0).natAbs : Int) ≤ 3700000000000000000 := by
    rw [a7.1, a7.2.2, b7.1, b7.2.2]
    have := cross20 (g 0 0) (g 1 1) (g 2 2) (g 0 1) (g 0 2) (g 1 2) (u 0) (u 1) (u 2) (v 0) (v 1) (v 2)
    have r := row (g 0 1, g 1 1, g 1 2) (hG 0 1 (by omega) (by omega)) (hG 1 1 (by omega) (by omega)) (hG 1 2 (by omega) (by omega))
    unfold q3 p0 p2 a01 a02 a12 at *
    rw [this]; exact r
  have fl : ∀ a b c d : Int, ((a * d - b * c).natAbs : Int) ≤ 3700000000000000000 → ((c * b - d * a).natAbs : Int) ≤ 3700000000000000000 := fun a b c d q => by rw [Int.mul_comm c b, Int.mul_comm d a]; omega
  have z : ∀ a b : Int, ((a * b - b * a).natAbs : Int) ≤ 3700000000000000000 := fun a b => by rw [Int.mul_comm a b]; simp
  intro c hc c' hc'
  match c, hc, c', hc' with
  | 0, _, 0, _ => exact z _ _
  | 1, _, 0, _ => exact c01
  | 2, _, 0, _ => exact fl _ _ _ _ c20
  | 0, _, 1, _ => exact fl _ _ _ _ c01
  | 1, _, 1, _ => exact z _ _
  | 2, _, 1, _ => exact c12
  | 0, _, 2, _ => exact c20
  | 1, _, 2, _ => exact fl _ _ _ _ c12
  | 2, _, 2, _ => exact z _ _
theorem Bar.bsS (B : Bar g h m) (hp : p < 3 ^ m) : boP (Pf g) p = dtS (mskP p) g ∧ ∀ c, c < 3 → bsP (Pf g) h p c = baS (mskP p) g (fun c => 2 * h c) c ∧ slP (Pf g) p c = baS (mskP p) g (sgP p) c := by
  obtain ⟨-, e2, e3⟩ := cls_ac (h := h) B.gr B.pd B.hm.2 hp
  rw [e2] at e3
  exact ⟨e2, AcS.uniq B.pd (B.sz hp) e3 (ref_ac B.gr B.pd B.hm.2 hp)⟩
theorem msk7 {p : Nat} (hp : p < 27) : (mskP p = 7 ∨ cb (mskP p) 3 ≤ 2) ∧ ∀ c, c < 3 → mskP p = 7 → ¬ dig p c = 0 := by
  have d : ∀ p : Fin 27, (mskP p.val = 7 ∨ cb (mskP p.val) 3 ≤ 2) ∧ ∀ c : Fin 3, mskP p.val = 7 → ¬ dig p.val c.val = 0 := by decide +kernel
  exact ⟨(d ⟨p, hp⟩).1, fun c hc => (d ⟨p, hp⟩).2 ⟨c, hc⟩⟩
theorem Bar.besb (B : Bar g h m) (hG : ∀ a b, a < 3 → b < 3 → -1944 ≤ g a b ∧ g a b ≤ 1944) (hh : ∀ c, c < 3 → -21384 ≤ h c ∧ h c ≤ 21384) : BesB (Pf g) h m := by
  have hP : PB (Pf g) := fun k hk => hG _ _ (by omega) (by omega)
  refine ⟨fun p _ c hc => by have := bs_b hP hh p hc; unfold bd62; omega, fun p c hp hc hrk hs c' hc' => ?_⟩
  have m3 := B.hm.2
  obtain ⟨h27, -, -, ⟨-, -, k8⟩, -⟩ := cv_f B.hm.2 hp
  have sn : slP (Pf g) p c ≠ 0 := by have := hs.2; omega
  obtain ⟨eb, ec⟩ := B.bsS hp
  have u2 : ∀ c, c < 3 → -42768 ≤ 2 * h c ∧ 2 * h c ≤ 42768 := fun c hc => by have := hh c hc; omega
  have gen := cd_b hP hh p hc'
  have key : cdC (Pf g) h p (fun a b _ => ((a * slP (Pf g) p c + b * bsP (Pf g) h p c).natAbs : Int) ≤ 9000000000000000000) c' := by
    have sg := sg_bd p c'
    rcases (msk7 h27).1 with e7 | e2
    · unfold cdC
      rw [if_neg ((msk7 h27).2 c' hc' e7)]
      have r := cr7 (u := fun c => 2 * h c) (v := sgP p) B.gr hG u2 (fun c _ => sg_bd p c) c (by omega) c' hc'
      rw [(ec c (by omega)).1, (ec c (by omega)).2, (ec c' hc').1, (ec c' hc').2, e7]
      have e : sgP p c' * baS 7 g (fun c => 2 * h c) c' * baS 7 g (sgP p) c + -sgP p c' * baS 7 g (sgP p) c' * baS 7 g (fun c => 2 * h c) c = sgP p c' * (baS 7 g (fun c => 2 * h c) c' * baS 7 g (sgP p) c - baS 7 g (sgP p) c' * baS 7 g (fun c => 2 * h c) c) := by grind
      show ((sgP p c' * baS 7 g (fun c => 2 * h c) c' * baS 7 g (sgP p) c + -sgP p c' * baS 7 g (sgP p) c' * baS 7 g (fun c => 2 * h c) c).natAbs : Int) ≤ _
      rw [e]
      rcases (show sgP p c' = 1 ∨ sgP p c' = 0 ∨ sgP p c' = -1 by omega) with q | q | q <;> rw [q] <;> omega
    · have bb : ∀ c, c < 3 → (-166281984 ≤ bsP (Pf g) h p c ∧ bsP (Pf g) h p c ≤ 166281984) ∧ (-3888 ≤ slP (Pf g) p c ∧ slP (Pf g) p c ≤ 3888) := fun c hc => by
        have b1 := (baS_b (v := fun c => 2 * h c) (V := 42768) hG k8 u2 (c := c) hc).2 e2
        have b2 := (baS_b (v := sgP p) (V := 1) hG k8 (fun c _ => sg_bd _ c) (c := c) hc).2 e2
        rw [(ec c hc).1, (ec c hc).2]; omega
      have bo := (dtS_b hG k8).2 e2
      rw [← eb] at bo
      have b0 := bb 0 (by omega); have b1 := bb 1 (by omega); have b2 := bb 2 (by omega)
      have q0 := hG c' 0 hc' (by omega); have q1 := hG c' 1 hc' (by omega); have q2 := hG c' 2 hc' (by omega)
      have a0 := mul_bd q0 b0.1; have a1 := mul_bd q1 b1.1; have a2 := mul_bd q2 b2.1
      have c0 := mul_bd q0 b0.2; have c1 := mul_bd q1 b1.2; have c2 := mul_bd q2 b2.2
      have d := mul_bd (u2 c' hc') bo
      have dr := B.dr (p := p) hc'
      have dr1 : -2000000000000 ≤ drP (Pf g) h p c' ∧ drP (Pf g) h p c' ≤ 2000000000000 := by rw [dr.1]; unfold Dt; omega
      have mo1 : -100000000 ≤ moP (Pf g) p c' ∧ moP (Pf g) p c' ≤ 100000000 := by rw [dr.2]; unfold Dt; omega
      have bc := bb c (by omega)
      have bc' := bb c' hc'
      have fin : ∀ a b : Int, (-2000000000000 ≤ a ∧ a ≤ 2000000000000) → (-200000000 ≤ b ∧ b ≤ 200000000) → ((a * slP (Pf g) p c + b * bsP (Pf g) h p c).natAbs : Int) ≤ 9000000000000000000 := fun a b ha hb => by
        have x := mul_bd ha bc.2; have y := mul_bd hb bc.1; omega
      have s1 := mul_bd (a := sgP p c') (A := 1) sg bc'.1
      have s2 := mul_bd (a := -sgP p c') (A := 1) (by omega) bc'.2
      unfold cdC
      split
      · exact ⟨fin _ _ (by omega) (by omega), fin _ _ (by omega) (by omega)⟩
      · exact fin _ _ (by omega) (by omega)
  have both : cdC (Pf g) h p (fun a b _ => ((a * slP (Pf g) p c + b * bsP (Pf g) h p c).natAbs : Int) ≤ 9000000000000000000 ∧ (-700000000000 ≤ b ∧ b ≤ 700000000000)) c' := by
    unfold cdC at *
    split at key
    · rename_i e; rw [if_pos e] at gen ⊢; exact ⟨⟨key.1, gen.1.2⟩, ⟨key.2, gen.2.2⟩⟩
    · rename_i e; rw [if_neg e] at gen ⊢; exact ⟨key, gen.2⟩
  exact cd_all both (fun a b s q => by
    have := tb_le sn q.1
    have q2 := q.2
    exact ⟨⟨by omega, by omega⟩, ⟨by omega, by omega⟩, ⟨by omega, by omega⟩⟩)
end BB
