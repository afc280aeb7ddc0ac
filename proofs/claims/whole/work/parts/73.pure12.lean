/-! pure: the pattern's solution, in the class and in the reference -/
def AcS (g : M3) (h σ b s : Nat → Int) (d : Int) : Prop := 0 < d ∧ ∀ c, c < 3 → (σ c = 0 → b c = 0 ∧ s c = 0) ∧ (¬ σ c = 0 → Dt (g c) (b 0) (b 1) (b 2) = d * (2 * h c) ∧ Dt (g c) (s 0) (s 1) (s 2) = d * σ c)
theorem mk_dt {st : Nat} {g : M3} {w : Nat → Int} (hw : ∀ c, c < 3 → st.testBit c = false → w c = 0) {i : Nat} (hi : st.testBit i = true) : Dt (mkG st g i) (w 0) (w 1) (w 2) = Dt (g i) (w 0) (w 1) (w 2) := by
  have e : ∀ j, j < 3 → mkG st g i j * w j = g i j * w j := fun j hj => by
    unfold mkG
    by_cases q : st.testBit j = true
    · rw [if_pos ⟨hi, q⟩]
    · rw [hw j hj (by simpa using q)]; simp
  unfold Dt; rw [e 0 (by omega), e 1 (by omega), e 2 (by omega)]
theorem mk_sy {g : M3} (h : SyM g) (st : Nat) : SyM (mkG st g) := fun i j => by
  unfold mkG
  by_cases e : st.testBit i = true ∧ st.testBit j = true
  · rw [if_pos e, if_pos ⟨e.2, e.1⟩, h]
  · rw [if_neg e, if_neg (fun q => e ⟨q.2, q.1⟩)]
theorem bit_m {st m c : Nat} (hm : m ≤ 3) (hs : st < 2 ^ m) (hc : c < 3) (h : m ≤ c) : st.testBit c = false := by
  have : ∀ m : Fin 4, ∀ st : Fin 8, ∀ c : Fin 3, st.val < 2 ^ m.val → m.val ≤ c.val → st.val.testBit c.val = false := by decide +kernel
  have h2 := pow2_le hm
  exact this ⟨m, by omega⟩ ⟨st, by omega⟩ ⟨c, hc⟩ hs h
/-- masked and definite: what the form does not see is 0 on the mask -/
theorem mk_pd {g : M3} {m st : Nat} (hg : PdN m g) (hm : m ≤ 3) (hs : st < 2 ^ m) {u : Nat → Int} (hu : ∀ c, c < 3 → st.testBit c = false → u c = 0) : PnM (mkG st g) u := fun x y z hq => by
  have h2 := pow2_le hm
  have h8 : st < 8 := by omega
  rw [(mk_q x y z st h8).1] at hq
  have z : mkV st (fun _ => x) 0 = 0 ∧ mkV st (fun _ => y) 1 = 0 ∧ mkV st (fun _ => z) 2 = 0 := by
    rcases Classical.em (mkV st (fun _ => x) 0 = 0 ∧ mkV st (fun _ => y) 1 = 0 ∧ mkV st (fun _ => z) 2 = 0) with q | q
    · exact q
    · have := hg.2 _ _ _ (fun w => by unfold mkV; rw [if_neg (by rw [bit_m hm hs (by omega) w]; simp)]) (fun w => by unfold mkV; rw [if_neg (by rw [bit_m hm hs (by omega) w]; simp)]) (fun w => by unfold mkV; rw [if_neg (by rw [bit_m hm hs (by omega) w]; simp)]) q
      omega
  have e : ∀ j, j < 3 → ∀ t : Int, mkV st (fun _ => t) j = 0 → u j * t = 0 := fun j hj t ht => by
    unfold mkV at ht
    by_cases q : st.testBit j = true
    · rw [if_pos q] at ht; rw [show t = 0 from ht]; simp
    · rw [hu j hj (by simpa using q)]; simp
  unfold Dt; rw [e 0 (by omega) x z.1, e 1 (by omega) y z.2.1, e 2 (by omega) _ z.2.2]; rfl
theorem PdN.minors {g : M3} {m : Nat} (hg : PdN m g) : (1 ≤ m → 0 < g 0 0) ∧ (2 ≤ m → 0 < g 1 1 ∧ 0 < p2 g) ∧ (3 ≤ m → 0 < g 2 2 ∧ 0 < p1 g ∧ 0 < p0 g ∧ 0 < q3 g) := by
  have a0 : 1 ≤ m → 0 < g 0 0 := fun w => (hg.mono w).dg (by omega)
  have a1 : 2 ≤ m → 0 < g 1 1 := fun w => (hg.mono w).dg (by omega)
  have a2 : 3 ≤ m → 0 < g 2 2 := fun w => (hg.mono w).dg (by omega)
  refine ⟨a0, fun w => ⟨a1 w, ?_⟩, fun w => ?_⟩
  · have e : Qf g (-g 0 1) (g 0 0) 0 = g 0 0 * p2 g := by unfold Qf p2; grind
    have := hg.2 (-g 0 1) (g 0 0) 0 (by omega) (by omega) (by omega) (by have := a0 (by omega); omega)
    rw [e] at this; exact (pos_mul (a0 (by omega))).1.mp this
  · have e1 : Qf g (-g 0 2) 0 (g 0 0) = g 0 0 * p1 g := by unfold Qf p1; grind
    have h1 := hg.2 (-g 0 2) 0 (g 0 0) (by omega) (by omega) (by omega) (by have := a0 (by omega); omega)
    have e2 : Qf g 0 (-g 1 2) (g 1 1) = g 1 1 * p0 g := by unfold Qf p0; grind
    have h2 := hg.2 0 (-g 1 2) (g 1 1) (by omega) (by omega) (by omega) (by have := a1 (by omega); omega)
    rw [e1] at h1; rw [e2] at h2
    have k1 := (pos_mul (a0 (by omega))).1.mp h1
    have k2 := (pos_mul (a1 (by omega))).1.mp h2
    have h3 := hg.2 (p0 g) (a01 g) (a02 g) (by omega) (by omega) (by omega) (by omega)
    rw [qf_ad0, Int.mul_comm] at h3
    exact ⟨a2 w, k1, k2, (pos_mul k2).1.mp h3⟩
def gsS (st : Nat) (g : M3) : M3 := fun a b => g (clF st a) (clF st b)
def dtS (st : Nat) (g : M3) : Int := detM (gsS st g) (cb st 3)
def baS (st : Nat) (g : M3) (v : Nat → Int) (c : Nat) : Int := if st.testBit c = true then crS (gsS st g) (fun r => v (clF st r)) (cb st 3) (cb st c) (cb st 3) else 0
theorem dtS_rk {g : M3} (hs : SyM g) {m : Nat} (hg : PdN m g) (hm : m ≤ 3) : ∀ st, st < 8 → st < 2 ^ m → (rk0 (Pf (mkG st g)) = bcN st ∧ symF (Pf (mkG st g)) (bcN st) = dtS st g) ∧ 0 < dtS st g := by
  obtain ⟨m1, m2, m3⟩ := hg.minors
  have s1 := hs 1 0; have s2 := hs 2 0; have s3 := hs 2 1
  have two : ∀ {m}, m ≤ 3 → ∀ {k}, k < 2 ^ m → (1 ≤ k → 1 ≤ m) ∧ (2 ≤ k → 2 ≤ m) ∧ (4 ≤ k → 3 ≤ m) := by
    intro m hm k hk
    rcases (show m = 0 ∨ m = 1 ∨ m = 2 ∨ m = 3 by omega) with e | e | e | e <;> subst e <;> omega
  refine lt8 ?_ ?_ ?_ ?_ ?_ ?_ ?_ ?_ <;> intro hst <;> have w := two hm hst
  · have q : dtS 0 g = 1 := by simp [dtS, detM, cb_0_3]
    have t3 : q3 (mkG 0 g) = 0 := by simp [q3, p0, a01, a02, mkG, cl_0_0, cl_0_1, cl_0_2, cb_0_0, cb_0_1, cb_0_2, cb_0_3, tb_0_0, tb_0_1, tb_0_2]
    have t2 : q2 (mkG 0 g) = 0 := by simp [q2, p0, p1, p2, mkG, cl_0_0, cl_0_1, cl_0_2, cb_0_0, cb_0_1, cb_0_2, cb_0_3, tb_0_0, tb_0_1, tb_0_2]
    have t1 : q1 (mkG 0 g) = 0 := by simp [q1, mkG, cl_0_0, cl_0_1, cl_0_2, cb_0_0, cb_0_1, cb_0_2, cb_0_3, tb_0_0, tb_0_1, tb_0_2]
    have b : bcN 0 = 0 := rfl
    exact ⟨⟨by rw [gq (mk_sy hs 0), b]; rw [t3, t2, t1]; rfl, by rw [b]; rw [q]; rfl⟩, by rw [q]; decide⟩
  · have q : dtS 1 g = g 0 0 := by simp [dtS, gsS, detM, minM, r1, r2, p0, p1, p2, q3, a01, a02, cl_1_0, cl_1_1, cl_1_2, cb_1_0, cb_1_1, cb_1_2, cb_1_3, tb_1_0, tb_1_1, tb_1_2]
    have t3 : q3 (mkG 1 g) = 0 := by simp [q3, p0, a01, a02, mkG, cl_1_0, cl_1_1, cl_1_2, cb_1_0, cb_1_1, cb_1_2, cb_1_3, tb_1_0, tb_1_1, tb_1_2]
    have t2 : q2 (mkG 1 g) = 0 := by simp [q2, p0, p1, p2, mkG, cl_1_0, cl_1_1, cl_1_2, cb_1_0, cb_1_1, cb_1_2, cb_1_3, tb_1_0, tb_1_1, tb_1_2]
    have t1 : q1 (mkG 1 g) = g 0 0 := by simp [q1, mkG, cl_1_0, cl_1_1, cl_1_2, cb_1_0, cb_1_1, cb_1_2, cb_1_3, tb_1_0, tb_1_1, tb_1_2]
    have pz := m1 (w.1 (by omega))
    have b : bcN 1 = 1 := rfl
    exact ⟨⟨by rw [gq (mk_sy hs 1), b]; rw [t3, t2, t1, if_neg (by omega), if_neg (by omega), if_pos (by omega)], by rw [b]; show e1 (Pf (mkG 1 g)) = _; rw [e1_q, t1, q]⟩, by rw [q]; exact pz⟩
  · have q : dtS 2 g = g 1 1 := by simp [dtS, gsS, detM, minM, r1, r2, p0, p1, p2, q3, a01, a02, cl_2_0, cl_2_1, cl_2_2, cb_2_0, cb_2_1, cb_2_2, cb_2_3, tb_2_0, tb_2_1, tb_2_2]
    have t3 : q3 (mkG 2 g) = 0 := by simp [q3, p0, a01, a02, mkG, cl_2_0, cl_2_1, cl_2_2, cb_2_0, cb_2_1, cb_2_2, cb_2_3, tb_2_0, tb_2_1, tb_2_2]
    have t2 : q2 (mkG 2 g) = 0 := by simp [q2, p0, p1, p2, mkG, cl_2_0, cl_2_1, cl_2_2, cb_2_0, cb_2_1, cb_2_2, cb_2_3, tb_2_0, tb_2_1, tb_2_2]
    have t1 : q1 (mkG 2 g) = g 1 1 := by simp [q1, mkG, cl_2_0, cl_2_1, cl_2_2, cb_2_0, cb_2_1, cb_2_2, cb_2_3, tb_2_0, tb_2_1, tb_2_2]
    have pz := (m2 (w.2.1 (by omega))).1
    have b : bcN 2 = 1 := rfl
    exact ⟨⟨by rw [gq (mk_sy hs 2), b]; rw [t3, t2, t1, if_neg (by omega), if_neg (by omega), if_pos (by omega)], by rw [b]; show e1 (Pf (mkG 2 g)) = _; rw [e1_q, t1, q]⟩, by rw [q]; exact pz⟩
  · have q : dtS 3 g = p2 g := by simp [dtS, gsS, detM, minM, r1, r2, p0, p1, p2, q3, a01, a02, cl_3_0, cl_3_1, cl_3_2, cb_3_0, cb_3_1, cb_3_2, cb_3_3, tb_3_0, tb_3_1, tb_3_2]; grind
    have t3 : q3 (mkG 3 g) = 0 := by simp [q3, p0, a01, a02, mkG, cl_3_0, cl_3_1, cl_3_2, cb_3_0, cb_3_1, cb_3_2, cb_3_3, tb_3_0, tb_3_1, tb_3_2]
    have t2 : q2 (mkG 3 g) = p2 g := by simp [q2, p0, p1, p2, mkG, cl_3_0, cl_3_1, cl_3_2, cb_3_0, cb_3_1, cb_3_2, cb_3_3, tb_3_0, tb_3_1, tb_3_2]
    have pz := (m2 (w.2.1 (by omega))).2
    have b : bcN 3 = 2 := rfl
    exact ⟨⟨by rw [gq (mk_sy hs 3), b]; rw [t3, t2, if_neg (by omega), if_pos (by omega)], by rw [b]; show e2 (Pf (mkG 3 g)) = _; rw [e2_q (mk_sy hs 3), t2, q]⟩, by rw [q]; exact pz⟩
  · have q : dtS 4 g = g 2 2 := by simp [dtS, gsS, detM, minM, r1, r2, p0, p1, p2, q3, a01, a02, cl_4_0, cl_4_1, cl_4_2, cb_4_0, cb_4_1, cb_4_2, cb_4_3, tb_4_0, tb_4_1, tb_4_2]
    have t3 : q3 (mkG 4 g) = 0 := by simp [q3, p0, a01, a02, mkG, cl_4_0, cl_4_1, cl_4_2, cb_4_0, cb_4_1, cb_4_2, cb_4_3, tb_4_0, tb_4_1, tb_4_2]
    have t2 : q2 (mkG 4 g) = 0 := by simp [q2, p0, p1, p2, mkG, cl_4_0, cl_4_1, cl_4_2, cb_4_0, cb_4_1, cb_4_2, cb_4_3, tb_4_0, tb_4_1, tb_4_2]
    have t1 : q1 (mkG 4 g) = g 2 2 := by simp [q1, mkG, cl_4_0, cl_4_1, cl_4_2, cb_4_0, cb_4_1, cb_4_2, cb_4_3, tb_4_0, tb_4_1, tb_4_2]
    have pz := (m3 (w.2.2 (by omega))).1
    have b : bcN 4 = 1 := rfl
    exact ⟨⟨by rw [gq (mk_sy hs 4), b]; rw [t3, t2, t1, if_neg (by omega), if_neg (by omega), if_pos (by omega)], by rw [b]; show e1 (Pf (mkG 4 g)) = _; rw [e1_q, t1, q]⟩, by rw [q]; exact pz⟩
  · have q : dtS 5 g = p1 g := by simp [dtS, gsS, detM, minM, r1, r2, p0, p1, p2, q3, a01, a02, cl_5_0, cl_5_1, cl_5_2, cb_5_0, cb_5_1, cb_5_2, cb_5_3, tb_5_0, tb_5_1, tb_5_2]; grind
    have t3 : q3 (mkG 5 g) = 0 := by simp [q3, p0, a01, a02, mkG, cl_5_0, cl_5_1, cl_5_2, cb_5_0, cb_5_1, cb_5_2, cb_5_3, tb_5_0, tb_5_1, tb_5_2]
    have t2 : q2 (mkG 5 g) = p1 g := by simp [q2, p0, p1, p2, mkG, cl_5_0, cl_5_1, cl_5_2, cb_5_0, cb_5_1, cb_5_2, cb_5_3, tb_5_0, tb_5_1, tb_5_2]
    have pz := (m3 (w.2.2 (by omega))).2.1
    have b : bcN 5 = 2 := rfl
    exact ⟨⟨by rw [gq (mk_sy hs 5), b]; rw [t3, t2, if_neg (by omega), if_pos (by omega)], by rw [b]; show e2 (Pf (mkG 5 g)) = _; rw [e2_q (mk_sy hs 5), t2, q]⟩, by rw [q]; exact pz⟩
  · have q : dtS 6 g = p0 g := by simp [dtS, gsS, detM, minM, r1, r2, p0, p1, p2, q3, a01, a02, cl_6_0, cl_6_1, cl_6_2, cb_6_0, cb_6_1, cb_6_2, cb_6_3, tb_6_0, tb_6_1, tb_6_2]; grind
    have t3 : q3 (mkG 6 g) = 0 := by simp [q3, p0, a01, a02, mkG, cl_6_0, cl_6_1, cl_6_2, cb_6_0, cb_6_1, cb_6_2, cb_6_3, tb_6_0, tb_6_1, tb_6_2]
    have t2 : q2 (mkG 6 g) = p0 g := by simp [q2, p0, p1, p2, mkG, cl_6_0, cl_6_1, cl_6_2, cb_6_0, cb_6_1, cb_6_2, cb_6_3, tb_6_0, tb_6_1, tb_6_2]
    have pz := (m3 (w.2.2 (by omega))).2.2.1
    have b : bcN 6 = 2 := rfl
    exact ⟨⟨by rw [gq (mk_sy hs 6), b]; rw [t3, t2, if_neg (by omega), if_pos (by omega)], by rw [b]; show e2 (Pf (mkG 6 g)) = _; rw [e2_q (mk_sy hs 6), t2, q]⟩, by rw [q]; exact pz⟩
  · have q : dtS 7 g = q3 g := by simp [dtS, gsS, detM, minM, r1, r2, p0, p1, p2, q3, a01, a02, cl_7_0, cl_7_1, cl_7_2, cb_7_0, cb_7_1, cb_7_2, cb_7_3, tb_7_0, tb_7_1, tb_7_2]; grind
    have t3 : q3 (mkG 7 g) = q3 g := by simp [q3, p0, a01, a02, mkG, cl_7_0, cl_7_1, cl_7_2, cb_7_0, cb_7_1, cb_7_2, cb_7_3, tb_7_0, tb_7_1, tb_7_2]
    have pz := (m3 (w.2.2 (by omega))).2.2.2
    have b : bcN 7 = 3 := rfl
    exact ⟨⟨by rw [gq (mk_sy hs 7), b]; rw [t3, if_pos (by omega)], by rw [b]; show e3 (Pf (mkG 7 g)) = _; rw [e3_q (mk_sy hs 7), t3, q]⟩, by rw [q]; exact pz⟩
theorem baS_row {g : M3} (v : Nat → Int) : ∀ st, st < 8 → ∀ c, c < 3 → st.testBit c = true → Dt (g c) (baS st g v 0) (baS st g v 1) (baS st g v 2) = dtS st g * v c := by
  refine lt8 ?_ ?_ ?_ ?_ ?_ ?_ ?_ ?_ <;> refine lt3 ?_ ?_ ?_ <;> intro hb
  · exact absurd hb (by decide)
  · exact absurd hb (by decide)
  · exact absurd hb (by decide)
  · simp [Dt, baS, dtS, gsS, detM, crS, cofM, minM, r1, r2, cl_1_0, cl_1_1, cl_1_2, cb_1_0, cb_1_1, cb_1_2, cb_1_3, tb_1_0, tb_1_1, tb_1_2]
  · exact absurd hb (by decide)
  · exact absurd hb (by decide)
  · exact absurd hb (by decide)
  · simp [Dt, baS, dtS, gsS, detM, crS, cofM, minM, r1, r2, cl_2_0, cl_2_1, cl_2_2, cb_2_0, cb_2_1, cb_2_2, cb_2_3, tb_2_0, tb_2_1, tb_2_2]
  · exact absurd hb (by decide)
  · simp [Dt, baS, dtS, gsS, detM, crS, cofM, minM, r1, r2, cl_3_0, cl_3_1, cl_3_2, cb_3_0, cb_3_1, cb_3_2, cb_3_3, tb_3_0, tb_3_1, tb_3_2]; grind
  · simp [Dt, baS, dtS, gsS, detM, crS, cofM, minM, r1, r2, cl_3_0, cl_3_1, cl_3_2, cb_3_0, cb_3_1, cb_3_2, cb_3_3, tb_3_0, tb_3_1, tb_3_2]; grind
  · exact absurd hb (by decide)
  · exact absurd hb (by decide)
  · exact absurd hb (by decide)
  · simp [Dt, baS, dtS, gsS, detM, crS, cofM, minM, r1, r2, cl_4_0, cl_4_1, cl_4_2, cb_4_0, cb_4_1, cb_4_2, cb_4_3, tb_4_0, tb_4_1, tb_4_2]
  · simp [Dt, baS, dtS, gsS, detM, crS, cofM, minM, r1, r2, cl_5_0, cl_5_1, cl_5_2, cb_5_0, cb_5_1, cb_5_2, cb_5_3, tb_5_0, tb_5_1, tb_5_2]; grind
  · exact absurd hb (by decide)
  · simp [Dt, baS, dtS, gsS, detM, crS, cofM, minM, r1, r2, cl_5_0, cl_5_1, cl_5_2, cb_5_0, cb_5_1, cb_5_2, cb_5_3, tb_5_0, tb_5_1, tb_5_2]; grind
  · exact absurd hb (by decide)
  · simp [Dt, baS, dtS, gsS, detM, crS, cofM, minM, r1, r2, cl_6_0, cl_6_1, cl_6_2, cb_6_0, cb_6_1, cb_6_2, cb_6_3, tb_6_0, tb_6_1, tb_6_2]; grind
  · simp [Dt, baS, dtS, gsS, detM, crS, cofM, minM, r1, r2, cl_6_0, cl_6_1, cl_6_2, cb_6_0, cb_6_1, cb_6_2, cb_6_3, tb_6_0, tb_6_1, tb_6_2]; grind
  · simp [Dt, baS, dtS, gsS, detM, crS, cofM, minM, r1, r2, cl_7_0, cl_7_1, cl_7_2, cb_7_0, cb_7_1, cb_7_2, cb_7_3, tb_7_0, tb_7_1, tb_7_2]; grind
  · simp [Dt, baS, dtS, gsS, detM, crS, cofM, minM, r1, r2, cl_7_0, cl_7_1, cl_7_2, cb_7_0, cb_7_1, cb_7_2, cb_7_3, tb_7_0, tb_7_1, tb_7_2]; grind
  · simp [Dt, baS, dtS, gsS, detM, crS, cofM, minM, r1, r2, cl_7_0, cl_7_1, cl_7_2, cb_7_0, cb_7_1, cb_7_2, cb_7_3, tb_7_0, tb_7_1, tb_7_2]; grind
theorem msk_uniq {g : M3} {m : Nat} {σ : Nat → Int} (hg : PdN m g) (hσ : ∀ c, c < 3 → m ≤ c → σ c = 0) : ∀ (u v w : Nat → Int), (∀ c, c < 3 → (σ c = 0 → v c = 0 ∧ w c = 0) ∧ (¬ σ c = 0 → Dt (g c) (v 0) (v 1) (v 2) = u c ∧ Dt (g c) (w 0) (w 1) (w 2) = u c)) → ∀ c, c < 3 → v c = w c := by
  intro u v w H
  have sup : ∀ c, c < 3 → m ≤ c → v c - w c = 0 := fun c hc q => by have := (H c hc).1 (hσ c hc q); omega
  have rowz : ∀ c, c < 3 → (v c - w c) * Dt (g c) (v 0 - w 0) (v 1 - w 1) (v 2 - w 2) = 0 := fun c hc => by
    by_cases e : σ c = 0
    · have := (H c hc).1 e; rw [this.1, this.2]; simp
    · have := (H c hc).2 e
      have l : Dt (g c) (v 0 - w 0) (v 1 - w 1) (v 2 - w 2) = Dt (g c) (v 0) (v 1) (v 2) - Dt (g c) (w 0) (w 1) (w 2) := by unfold Dt; grind
      rw [l, this.1, this.2]; simp
  have q : Qf g (v 0 - w 0) (v 1 - w 1) (v 2 - w 2) = (v 0 - w 0) * Dt (g 0) (v 0 - w 0) (v 1 - w 1) (v 2 - w 2) + (v 1 - w 1) * Dt (g 1) (v 0 - w 0) (v 1 - w 1) (v 2 - w 2) + (v 2 - w 2) * Dt (g 2) (v 0 - w 0) (v 1 - w 1) (v 2 - w 2) := by
    have s1 := hg.1 1 0; have s2 := hg.1 2 0; have s3 := hg.1 2 1
    generalize v 0 - w 0 = x; generalize v 1 - w 1 = y; generalize v 2 - w 2 = z
    unfold Qf Dt; rw [s1, s2, s3]; grind
  rw [rowz 0 (by omega), rowz 1 (by omega), rowz 2 (by omega)] at q
  rcases Classical.em (v 0 - w 0 = 0 ∧ v 1 - w 1 = 0 ∧ v 2 - w 2 = 0) with z | z
  · exact lt3 (by omega) (by omega) (by omega)
  · have := hg.2 _ _ _ (fun a => sup 0 (by omega) a) (fun a => sup 1 (by omega) a) (fun a => sup 2 (by omega) a) z
    omega
theorem AcS.uniq {g : M3} {m : Nat} {h σ b s b' s' : Nat → Int} {d : Int} (hg : PdN m g) (hσ : ∀ c, c < 3 → m ≤ c → σ c = 0) (h1 : AcS g h σ b s d) (h2 : AcS g h σ b' s' d) : ∀ c, c < 3 → b c = b' c ∧ s c = s' c := by
  have key := msk_uniq (σ := σ) hg hσ
  intro c hc
  exact ⟨key (fun c => d * (2 * h c)) b b' (fun c hc => ⟨fun e => ⟨((h1.2 c hc).1 e).1, ((h2.2 c hc).1 e).1⟩, fun e => ⟨((h1.2 c hc).2 e).1, ((h2.2 c hc).2 e).1⟩⟩) c hc, key (fun c => d * σ c) s s' (fun c hc => ⟨fun e => ⟨((h1.2 c hc).1 e).2, ((h2.2 c hc).1 e).2⟩, fun e => ⟨((h1.2 c hc).2 e).2, ((h2.2 c hc).2 e).2⟩⟩) c hc⟩
/-! the two numberings of the patterns -/
def cvP (m p : Nat) : Nat := (List.range m).foldl (fun s c => s + (dig p c + 1) % 3 * 3 ^ c) 0
def vcP (m q : Nat) : Nat := (List.range m).foldl (fun s c => s + (dig q c + 2) % 3 * 3 ^ c) 0
theorem cv_all : ∀ m : Fin 4, ∀ p : Fin 27, p.val < 3 ^ m.val → (cvP m.val p.val < 3 ^ m.val ∧ vcP m.val p.val < 3 ^ m.val) ∧ (vcP m.val (cvP m.val p.val) = p.val ∧ cvP m.val (vcP m.val p.val) = p.val) ∧ (stM (cvP m.val p.val) m.val = mskP p.val ∧ mskP p.val < 2 ^ m.val) ∧ ∀ c : Fin 3, (c.val < m.val → sgM (cvP m.val p.val) c.val = sgP p.val c.val) ∧ (m.val ≤ c.val → dig p.val c.val = 0) ∧ (mskP p.val).testBit c.val = decide (¬ dig p.val c.val = 0) := by decide +kernel
section CV
variable {m p : Nat}
theorem cv_f (hm : m ≤ 3) (hp : p < 3 ^ m) : p < 27 ∧ (cvP m p < 3 ^ m ∧ vcP m p < 3 ^ m) ∧ (vcP m (cvP m p) = p ∧ cvP m (vcP m p) = p) ∧ (stM (cvP m p) m = mskP p ∧ mskP p < 2 ^ m ∧ mskP p < 8) ∧ ∀ c, c < 3 → (c < m → sgM (cvP m p) c = sgP p c) ∧ (m ≤ c → dig p c = 0) ∧ (mskP p).testBit c = decide (¬ dig p c = 0) := by
  have h3 := pow3_le hm; have h2 := pow2_le hm
  have := cv_all ⟨m, by omega⟩ ⟨p, by omega⟩ hp
  exact ⟨by omega, this.1, this.2.1, ⟨this.2.2.1.1, this.2.2.1.2, by have := this.2.2.1.2; simp only at this; omega⟩, fun c hc => this.2.2.2 ⟨c, hc⟩⟩
theorem sgP_z {p c : Nat} : sgP p c = 0 ↔ dig p c = 0 := ⟨sg_eq, fun e => by unfold sgP; rw [e]; rfl⟩
end CV
theorem cls_ac {g : M3} {h : Nat → Int} {m p : Nat} (hg : GrM g) (hd : PdN m g) (hm : m ≤ 3) (hp : p < 3 ^ m) : rk0 (QP (Pf g) p) = bcN (mskP p) ∧ boP (Pf g) p = dtS (mskP p) g ∧ AcS g h (sgP p) (bsP (Pf g) h p) (slP (Pf g) p) (boP (Pf g) p) := by
  obtain ⟨h27, -, -, ⟨-, k2, k8⟩, kc⟩ := cv_f hm hp
  have rk := dtS_rk hg.1 hd hm (mskP p) k8 k2
  have er : rk0 (QP (Pf g) p) = bcN (mskP p) := rk.1.1
  have eb : boP (Pf g) p = dtS (mskP p) g := by unfold boP; rw [er]; exact rk.1.2
  have off : ∀ c, c < 3 → (mskP p).testBit c = false → dig p c = 0 := fun c hc q => by
    rw [(kc c hc).2.2] at q; simpa using q
  have on : ∀ c, c < 3 → ¬ dig p c = 0 → (mskP p).testBit c = true := fun c hc q => by
    rw [(kc c hc).2.2]; simpa using q
  have gr := mk_gr hg k8
  have pb : PnM (mkG (mskP p) g) (dbP h p) := mk_pd hd hm k2 (fun c hc q => by unfold dbP; rw [if_pos (off c hc q)])
  have ps : PnM (mkG (mskP p) g) (sgP p) := mk_pd hd hm k2 (fun c hc q => sgP_z.mpr (off c hc q))
  have sb : Sol (mkG (mskP p) g) (dbP h p) (bsP (Pf g) h p) (boP (Pf g) p) := cls_sol gr pb
  have ss : Sol (mkG (mskP p) g) (sgP p) (slP (Pf g) p) (boP (Pf g) p) := cls_sol gr ps
  have nul : ∀ c, c < 3 → dig p c = 0 → ∀ w u : Nat → Int, Sol (mkG (mskP p) g) u w (boP (Pf g) p) → w c = 0 := fun c hc q w u S => by
    have bf : (mskP p).testBit c = false := by rw [(kc c hc).2.2]; simpa using q
    have z : ∀ i, mkG (mskP p) g i c = 0 := fun i => by unfold mkG; rw [if_neg (fun r => by rw [bf] at r; cases r.2)]
    match c, hc with
    | 0, _ => have := S.2.2 1 0 0 (fun i _ => by unfold Dt; rw [z]; simp); unfold Dt at this; simpa using this
    | 1, _ => have := S.2.2 0 1 0 (fun i _ => by unfold Dt; rw [z]; simp); unfold Dt at this; simpa using this
    | 2, _ => have := S.2.2 0 0 1 (fun i _ => by unfold Dt; rw [z]; simp); unfold Dt at this; simpa using this
  refine ⟨er, eb, by rw [eb]; exact rk.2, fun c hc => ⟨fun e => ⟨nul c hc (sg_eq e) _ _ sb, nul c hc (sg_eq e) _ _ ss⟩, fun e => ?_⟩⟩
  have dn := sg_ne e
  have hb := on c hc dn
  refine ⟨?_, ?_⟩
  · rw [← mk_dt (st := mskP p) (fun j hj q => nul j hj (off j hj q) _ _ sb) hb, sb.2.1 c hc]; unfold dbP; rw [if_neg dn]
  · rw [← mk_dt (st := mskP p) (fun j hj q => nul j hj (off j hj q) _ _ ss) hb, ss.2.1 c hc]
theorem ref_ac {g : M3} {h : Nat → Int} {m p : Nat} (hg : GrM g) (hd : PdN m g) (hm : m ≤ 3) (hp : p < 3 ^ m) : AcS g h (sgP p) (baS (mskP p) g (fun c => 2 * h c)) (baS (mskP p) g (sgP p)) (dtS (mskP p) g) := by
  obtain ⟨h27, -, -, ⟨-, k2, k8⟩, kc⟩ := cv_f hm hp
  have rk := dtS_rk hg.1 hd hm (mskP p) k8 k2
  refine ⟨rk.2, fun c hc => ⟨fun e => ?_, fun e => ?_⟩⟩
  · have : ¬ (mskP p).testBit c = true := by rw [(kc c hc).2.2]; simpa using sg_eq e
    unfold baS; rw [if_neg this, if_neg this]; exact ⟨rfl, rfl⟩
  · have hb : (mskP p).testBit c = true := by rw [(kc c hc).2.2]; simpa using sg_ne e
    exact ⟨baS_row _ _ k8 c hc hb, baS_row _ _ k8 c hc hb⟩
theorem crS_v {M : Nat → Nat → Int} {v v' : Nat → Int} {n c : Nat} : ∀ r, (∀ i, i < r → v i = v' i) → crS M v n c r = crS M v' n c r
  | 0, _ => rfl
  | r + 1, h => by show crS M v n c r + _ = crS M v' n c r + _; rw [crS_v r (fun i hi => h i (by omega)), h r (by omega)]
theorem ref_eq {g : M3} {h : Nat → Int} {m p : Nat} (hm : m ≤ 3) (hp : p < 3 ^ m) : dtM g (cvP m p) m = dtS (mskP p) g ∧ naM (cvP m p) m = cb (mskP p) 3 ∧ ∀ c, c < m → baM g h (cvP m p) m c = baS (mskP p) g (fun c => 2 * h c) c ∧ slM g (cvP m p) m c = -baS (mskP p) g (sgP p) c := by
  obtain ⟨h27, ⟨c1, -⟩, -, ⟨k1, k2, k8⟩, kc⟩ := cv_f hm hp
  have ec := cb_m hm k2
  have en : naM (cvP m p) m = cb (mskP p) 3 := by unfold naM; rw [k1, ec]
  refine ⟨by unfold dtM; rw [en]; unfold gsM dtS gsS; rw [k1], en, fun c hc => ?_⟩
  have s1 := (kc c (by omega)).1 hc
  have s2 := (kc c (by omega)).2.2
  have z1 : dig (cvP m p) c = 1 ↔ dig p c = 0 := by rw [← sgM_z, s1, sgP_z]
  unfold baM slM baS
  by_cases e : dig p c = 0
  · rw [if_pos (z1.mpr e), if_pos (z1.mpr e), if_neg (by rw [s2]; simpa using e), if_neg (by rw [s2]; simpa using e)]; exact ⟨rfl, rfl⟩
  · rw [if_neg (fun q => e (z1.mp q)), if_neg (fun q => e (z1.mp q)), if_pos (by rw [s2]; simpa using e), if_pos (by rw [s2]; simpa using e), en]
    unfold gsM bvM svM gsS
    rw [k1]
    refine ⟨rfl, ?_⟩
    rw [crS_v (cb (mskP p) 3) (fun i hi => ?_)]
    rw [← ec] at hi
    have := cl_bit k8 hm hi
    exact (kc _ (by omega)).1 this.2.1
/-- base, slope and bottom of a pattern agree -/
theorem pat_eq {g : M3} {h : Nat → Int} {m p : Nat} (hg : GrM g) (hd : PdN m g) (hm : m ≤ 3) (hp : p < 3 ^ m) : dtM g (cvP m p) m = boP (Pf g) p ∧ ∀ c, c < m → baM g h (cvP m p) m c = bsP (Pf g) h p c ∧ slM g (cvP m p) m c = -slP (Pf g) p c := by
  obtain ⟨e1, e2, e3⟩ := cls_ac (h := h) hg hd hm hp
  have r := ref_ac (h := h) hg hd hm hp
  obtain ⟨f1, -, f3⟩ := ref_eq (g := g) (h := h) hm hp
  obtain ⟨-, -, -, -, kc⟩ := cv_f hm hp
  rw [e2] at e3
  have u := AcS.uniq hd (fun c hc q => sgP_z.mpr ((kc c hc).2.1 q)) r e3
  refine ⟨by rw [f1, e2], fun c hc => ?_⟩
  have := u c (by omega)
  rw [(f3 c hc).1, (f3 c hc).2, this.1, this.2]; exact ⟨rfl, rfl⟩
