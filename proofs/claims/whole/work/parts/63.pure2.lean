/-! pure: the reference's fit is the one solution too -/
theorem cancel {s a b : Int} (hs : s ≠ 0) (h : s * a = s * b) : a = b := Int.eq_of_mul_eq_mul_left hs h
theorem cram3_0 (M : M3) (v : Nat → Int) : M 0 0 * crS M v 3 0 3 + M 0 1 * crS M v 3 1 3 + M 0 2 * crS M v 3 2 3 = detM M 3 * v 0 := by
  simp [crS, cofM, detM, minM, r1, r2]; grind
theorem cram3_1 (M : M3) (v : Nat → Int) : M 1 0 * crS M v 3 0 3 + M 1 1 * crS M v 3 1 3 + M 1 2 * crS M v 3 2 3 = detM M 3 * v 1 := by
  simp [crS, cofM, detM, minM, r1, r2]; grind
theorem cram3_2 (M : M3) (v : Nat → Int) : M 2 0 * crS M v 3 0 3 + M 2 1 * crS M v 3 1 3 + M 2 2 * crS M v 3 2 3 = detM M 3 * v 2 := by
  simp [crS, cofM, detM, minM, r1, r2]; grind
theorem SlR.rows3 {M : M3} {v W : Nat → Int} {den : Int} (h : SlR M v 3 W den) : ∀ i, i < 3 → Dt (M i) (W 0) (W 1) (W 2) = den * v i := by
  obtain ⟨s, hs, hd, -, hw⟩ := h
  have w0 := hw 0 (by omega); have w1 := hw 1 (by omega); have w2 := hw 2 (by omega)
  have c0 := cram3_0 M v; have c1 := cram3_1 M v; have c2 := cram3_2 M v
  rw [w0, w1, w2, hd] at c0 c1 c2
  refine lt3 (cancel hs ?_) (cancel hs ?_) (cancel hs ?_) <;> unfold Dt
  · generalize M 0 0 = a at *; generalize M 0 1 = b at *; generalize M 0 2 = c at *; clear c1 c2 w0 w1 w2 hw; grind
  · generalize M 1 0 = a at *; generalize M 1 1 = b at *; generalize M 1 2 = c at *; clear c0 c2 w0 w1 w2 hw; grind
  · generalize M 2 0 = a at *; generalize M 2 1 = b at *; generalize M 2 2 = c at *; clear c0 c1 w0 w1 w2 hw; grind
theorem det3_q {g : M3} (h : SyM g) : detM g 3 = q3 g := by
  have s1 := h 1 0; have s2 := h 2 0; have s3 := h 2 1
  simp [detM, minM, r1, r2]; rw [s1, s2, s3]; unfold q3 p0 a01 a02; grind
theorem null3 {g : M3} (h : SyM g) (hq : q3 g ≠ 0) {x y z : Int} (hz : ∀ i, i < 3 → Dt (g i) x y z = 0) : x = 0 ∧ y = 0 ∧ z = 0 := by
  have r0 := ad_row0 h; have r1 := ad_row1 h; have r2 := ad_row2 h
  have h0 := hz 0 (by omega); have h1 := hz 1 (by omega); have h2 := hz 2 (by omega)
  have x0 := id_sw h (p0 g) (a01 g) (a02 g) x y z
  have x1 := id_sw h (a01 g) (p1 g) (a12 g) x y z
  have x2 := id_sw h (a02 g) (a12 g) (p2 g) x y z
  rw [h0, h1, h2, r0.1, r0.2.1, r0.2.2] at x0
  rw [h0, h1, h2, r1.1, r1.2.1, r1.2.2] at x1
  rw [h0, h1, h2, r2.1, r2.2.1, r2.2.2] at x2
  simp only [Int.mul_zero, Int.zero_add, Int.add_zero] at x0 x1 x2
  refine ⟨?_, ?_, ?_⟩
  · rcases Int.mul_eq_zero.mp x0.symm with q | q; exact q; omega
  · rcases Int.mul_eq_zero.mp x1.symm with q | q; exact q; omega
  · rcases Int.mul_eq_zero.mp x2.symm with q | q; exact q; omega
/-! rank two -/
theorem cr_par {g : M3} {p q : Nat} {x y z : Int} (h1 : Dt (g p) x y z = 0) (h2 : Dt (g q) x y z = 0) : crX g p q 0 * y = crX g p q 1 * x ∧ crX g p q 0 * z = crX g p q 2 * x ∧ crX g p q 1 * z = crX g p q 2 * y := by
  unfold Dt at h1 h2
  simp [crX]
  generalize g p 0 = a at *; generalize g p 1 = b at *; generalize g p 2 = c at *; generalize g q 0 = d at *; generalize g q 1 = e at *; generalize g q 2 = f at *
  have k1 : a * x = -(b * y + c * z) := by omega
  have k2 : d * x = -(e * y + f * z) := by omega
  refine ⟨?_, ?_, ?_⟩ <;> grind
theorem cx0 {g : M3} (h : SyM g) : crX g 1 2 0 = p0 g ∧ crX g 1 2 1 = a01 g ∧ crX g 1 2 2 = a02 g := by
  have s1 := h 1 0; have s2 := h 2 0; have s3 := h 2 1
  simp [crX]; rw [s1, s2, s3]; unfold p0 a01 a02; refine ⟨?_, ?_, ?_⟩ <;> grind
theorem cx1 {g : M3} (h : SyM g) : crX g 0 2 0 = -a01 g ∧ crX g 0 2 1 = -p1 g ∧ crX g 0 2 2 = -a12 g := by
  have s1 := h 1 0; have s2 := h 2 0; have s3 := h 2 1
  simp [crX]; rw [s2, s3]; unfold p1 a01 a12; refine ⟨?_, ?_, ?_⟩ <;> grind
theorem cx2 {g : M3} (h : SyM g) : crX g 0 1 0 = a02 g ∧ crX g 0 1 1 = a12 g ∧ crX g 0 1 2 = p2 g := by
  have s1 := h 1 0
  simp [crX]; rw [s1]; unfold p2 a02 a12; refine ⟨?_, ?_, ?_⟩ <;> grind
/-- what a cross of two rows says of a form whose determinant is 0: its null, and that the third number is not 0 -/
theorem nr_null {g : M3} (h : GrM g) (h3 : q3 g = 0) {i : Nat} (hi : i < 3) {nr : Nat → Int} (hc : CrR g (r1 i) (r2 i) nr) (hn : ¬ (nr 0 = 0 ∧ nr 1 = 0 ∧ nr 2 = 0)) : (∀ j, j < 3 → Dt (g j) (nr 0) (nr 1) (nr 2) = 0) ∧ nr i ≠ 0 := by
  obtain ⟨⟨f, hf, hfn⟩, -⟩ := hc
  have f0 := hfn 0 (by omega); have f1 := hfn 1 (by omega); have f2 := hfn 2 (by omega)
  have hfz : f ≠ 0 := by omega
  have sc : ∀ (r : Nat → Int) (x y z : Int), Dt r (f * x) (f * y) (f * z) = f * Dt r x y z := fun r x y z => by unfold Dt; grind
  have ng : ∀ (r : Nat → Int) (x y z : Int), Dt r (-x) (-y) (-z) = -Dt r x y z := fun r x y z => by unfold Dt; grind
  have z0 : ∀ x, f * x = 0 → x = 0 := fun x hx => by rcases Int.mul_eq_zero.mp hx with q | q; omega; exact q
  match i, hi with
  | 0, _ =>
    have c := cx0 h.1
    have e0 : crX g 1 2 0 = f * nr 0 := f0
    have e1 : crX g 1 2 1 = f * nr 1 := f1
    have e2 : crX g 1 2 2 = f * nr 2 := f2
    rw [c.1] at e0; rw [c.2.1] at e1; rw [c.2.2] at e2
    have r := ad_row0 h.1
    rw [h3, e0, e1, e2] at r
    refine ⟨lt3 (cancel hfz ?_) (cancel hfz ?_) (cancel hfz ?_), fun hz => hn ?_⟩
    · rw [← sc, r.1]; simp
    · rw [← sc, r.2.1]; simp
    · rw [← sc, r.2.2]; simp
    · have pz : p0 g = 0 := by rw [e0, hz]; simp
      have m1 := ad_m01 (g := g); have m2 := ad_m02 (g := g)
      rw [h3, pz, Int.zero_mul, Int.zero_mul] at m1 m2
      have a1 : a01 g = 0 := sq_z (by omega)
      have a2 : a02 g = 0 := sq_z (by omega)
      exact ⟨hz, z0 _ (by rw [← e1]; exact a1), z0 _ (by rw [← e2]; exact a2)⟩
  | 1, _ =>
    have c := cx1 h.1
    have e0 : crX g 0 2 0 = f * nr 0 := f0
    have e1 : crX g 0 2 1 = f * nr 1 := f1
    have e2 : crX g 0 2 2 = f * nr 2 := f2
    rw [c.1] at e0; rw [c.2.1] at e1; rw [c.2.2] at e2
    have r := ad_row1 h.1
    have t : ∀ j, Dt (g j) (f * nr 0) (f * nr 1) (f * nr 2) = -Dt (g j) (a01 g) (p1 g) (a12 g) := fun j => by rw [← e0, ← e1, ← e2, ng]
    refine ⟨lt3 (cancel hfz ?_) (cancel hfz ?_) (cancel hfz ?_), fun hz => hn ?_⟩
    · rw [← sc, t, r.1]; simp
    · rw [← sc, t, r.2.1, h3]; simp
    · rw [← sc, t, r.2.2]; simp
    · have pz : p1 g = 0 := by rw [hz] at e1; omega
      have m1 := ad_m01 (g := g); have m2 := ad_m12 (g := g)
      rw [h3, pz, Int.zero_mul] at m1 m2
      rw [Int.mul_zero] at m1
      rw [Int.zero_mul] at m2
      have a1 : a01 g = 0 := sq_z (by omega)
      have a2 : a12 g = 0 := sq_z (by omega)
      exact ⟨z0 _ (by rw [← e0, a1]; simp), hz, z0 _ (by rw [← e2, a2]; simp)⟩
  | 2, _ =>
    have c := cx2 h.1
    have e0 : crX g 0 1 0 = f * nr 0 := f0
    have e1 : crX g 0 1 1 = f * nr 1 := f1
    have e2 : crX g 0 1 2 = f * nr 2 := f2
    rw [c.1] at e0; rw [c.2.1] at e1; rw [c.2.2] at e2
    have r := ad_row2 h.1
    rw [h3, e0, e1, e2] at r
    refine ⟨lt3 (cancel hfz ?_) (cancel hfz ?_) (cancel hfz ?_), fun hz => hn ?_⟩
    · rw [← sc, r.1]; simp
    · rw [← sc, r.2.1]; simp
    · rw [← sc, r.2.2]; simp
    · have pz : p2 g = 0 := by rw [e2, hz]; simp
      have m1 := ad_m02 (g := g); have m2 := ad_m12 (g := g)
      rw [h3, pz, Int.mul_zero, Int.zero_mul] at m1 m2
      have a1 : a02 g = 0 := sq_z (by omega)
      have a2 : a12 g = 0 := sq_z (by omega)
      exact ⟨z0 _ (by rw [← e0]; exact a1), z0 _ (by rw [← e1]; exact a2), hz⟩
theorem fit3_b {g : M3} {u W nr : Nat → Int} {den : Int} {i : Nat} (h : GrM g) (hu : PnM g u) (h3 : q3 g = 0) (hi : i < 3) (hc : CrR g (r1 i) (r2 i) nr) (hn : ¬ (nr 0 = 0 ∧ nr 1 = 0 ∧ nr 2 = 0)) (hs : SlR (rwM g i nr) (vcM u i) 3 W den) : Sol g u W den := by
  obtain ⟨hnull, hni⟩ := nr_null h h3 hi hc hn
  have hpos : 0 < den := by obtain ⟨s, -, -, hp, -⟩ := hs; exact hp
  have rr := hs.rows3
  have ra : Dt (g (r1 i)) (W 0) (W 1) (W 2) = den * u (r1 i) := rr 0 (by omega)
  have rb : Dt (g (r2 i)) (W 0) (W 1) (W 2) = den * u (r2 i) := rr 1 (by omega)
  have rc : Dt nr (W 0) (W 1) (W 2) = den * 0 := rr 2 (by omega)
  have un := hu.null h.1 hnull
  have sw := id_sw h.1 (nr 0) (nr 1) (nr 2) (W 0) (W 1) (W 2)
  rw [hnull 0 (by omega), hnull 1 (by omega), hnull 2 (by omega)] at sw
  simp only [Int.mul_zero, Int.add_zero] at sw rc
  unfold Dt at un
  have all : ∀ j, j < 3 → Dt (g j) (W 0) (W 1) (W 2) = den * u j := by
    generalize A0 : Dt (g 0) (W 0) (W 1) (W 2) = a0 at *
    generalize A1 : Dt (g 1) (W 0) (W 1) (W 2) = a1 at *
    generalize A2 : Dt (g 2) (W 0) (W 1) (W 2) = a2 at *
    have key : nr 0 * (a0 - den * u 0) + nr 1 * (a1 - den * u 1) + nr 2 * (a2 - den * u 2) = 0 := by
      have : nr 0 * (a0 - den * u 0) + nr 1 * (a1 - den * u 1) + nr 2 * (a2 - den * u 2) = (nr 0 * a0 + nr 1 * a1 + nr 2 * a2) - den * (u 0 * nr 0 + u 1 * nr 1 + u 2 * nr 2) := by
        generalize nr 0 = x; generalize nr 1 = y; generalize nr 2 = z; generalize u 0 = p; generalize u 1 = q; generalize u 2 = r
        clear sw un ra rb rc rr hnull hni hc hs hn hu h A0 A1 A2; grind
      rw [this, sw, un]; simp
    match i, hi with
    | 0, _ =>
      have ra' : a1 = den * u 1 := by rw [← A1]; exact ra
      have rb' : a2 = den * u 2 := by rw [← A2]; exact rb
      have k : nr 0 * (a0 - den * u 0) = 0 := by rw [ra', rb'] at key; simpa using key
      have : a0 - den * u 0 = 0 := by rcases Int.mul_eq_zero.mp k with q | q; exact absurd q hni; exact q
      exact lt3 (by rw [A0]; omega) (by rw [A1]; exact ra') (by rw [A2]; exact rb')
    | 1, _ =>
      have ra' : a0 = den * u 0 := by rw [← A0]; exact ra
      have rb' : a2 = den * u 2 := by rw [← A2]; exact rb
      have k : nr 1 * (a1 - den * u 1) = 0 := by rw [ra', rb'] at key; simpa using key
      have : a1 - den * u 1 = 0 := by rcases Int.mul_eq_zero.mp k with q | q; exact absurd q hni; exact q
      exact lt3 (by rw [A0]; exact ra') (by rw [A1]; omega) (by rw [A2]; exact rb')
    | 2, _ =>
      have ra' : a0 = den * u 0 := by rw [← A0]; exact ra
      have rb' : a1 = den * u 1 := by rw [← A1]; exact rb
      have k : nr 2 * (a2 - den * u 2) = 0 := by rw [ra', rb'] at key; simpa using key
      have : a2 - den * u 2 = 0 := by rcases Int.mul_eq_zero.mp k with q | q; exact absurd q hni; exact q
      exact lt3 (by rw [A0]; exact ra') (by rw [A1]; exact rb') (by rw [A2]; omega)
  refine ⟨hpos, all, fun x y z hz => ?_⟩
  obtain ⟨⟨f, hf, hfn⟩, -⟩ := hc
  have par := cr_par (hz (r1 i) (r1_lt i)) (hz (r2 i) (r2_lt i))
  rw [hfn 0 (by omega), hfn 1 (by omega), hfn 2 (by omega)] at par
  have hfz : f ≠ 0 := by omega
  have q1' : nr 0 * y = nr 1 * x := cancel hfz (by rw [← Int.mul_assoc, ← Int.mul_assoc]; exact par.1)
  have q2' : nr 0 * z = nr 2 * x := cancel hfz (by rw [← Int.mul_assoc, ← Int.mul_assoc]; exact par.2.1)
  have q3' : nr 1 * z = nr 2 * y := cancel hfz (by rw [← Int.mul_assoc, ← Int.mul_assoc]; exact par.2.2)
  unfold Dt at rc
  have t0 : Dt W x y z * nr 0 = 0 := by
    have : Dt W x y z * nr 0 = x * (nr 0 * W 0 + nr 1 * W 1 + nr 2 * W 2) := by
      unfold Dt; clear rc all sw un ra rb rr hnull hni hs hn hu h par hfn hz
      generalize W 0 = a; generalize W 1 = b; generalize W 2 = c; generalize nr 0 = p at *; generalize nr 1 = q at *; generalize nr 2 = r at *
      grind
    rw [this, rc]; simp
  have t1 : Dt W x y z * nr 1 = 0 := by
    have : Dt W x y z * nr 1 = y * (nr 0 * W 0 + nr 1 * W 1 + nr 2 * W 2) := by
      unfold Dt; clear rc all sw un ra rb rr hnull hni hs hn hu h par hfn hz t0
      generalize W 0 = a; generalize W 1 = b; generalize W 2 = c; generalize nr 0 = p at *; generalize nr 1 = q at *; generalize nr 2 = r at *
      grind
    rw [this, rc]; simp
  have t2 : Dt W x y z * nr 2 = 0 := by
    have : Dt W x y z * nr 2 = z * (nr 0 * W 0 + nr 1 * W 1 + nr 2 * W 2) := by
      unfold Dt; clear rc all sw un ra rb rr hnull hni hs hn hu h par hfn hz t0 t1
      generalize W 0 = a; generalize W 1 = b; generalize W 2 = c; generalize nr 0 = p at *; generalize nr 1 = q at *; generalize nr 2 = r at *
      grind
    rw [this, rc]; simp
  rcases Int.mul_eq_zero.mp t0 with e | e0
  · exact e
  · rcases Int.mul_eq_zero.mp t1 with e | e1
    · exact e
    · rcases Int.mul_eq_zero.mp t2 with e | e2
      · exact e
      · exact absurd ⟨e0, e1, e2⟩ hn
/-! rank one -/
theorem one_min {g : M3} (h : SyM g) (k0 : p0 g = 0) (k1 : p1 g = 0) (k2 : p2 g = 0) (k3 : a01 g = 0) (k4 : a02 g = 0) (k5 : a12 g = 0) : ∀ a, a < 3 → ∀ i, i < 3 → ∀ j, j < 3 → g a a * g i j = g a i * g a j := by
  have s1 := h 1 0; have s2 := h 2 0; have s3 := h 2 1
  unfold p0 at k0; unfold p1 at k1; unfold p2 at k2; unfold a01 at k3; unfold a02 at k4; unfold a12 at k5
  have c : ∀ a b : Int, a * b = b * a := Int.mul_comm
  refine lt3 ?_ ?_ ?_ <;> refine lt3 ?_ ?_ ?_ <;> refine lt3 ?_ ?_ ?_ <;> (try rw [s1]) <;> (try rw [s2]) <;> (try rw [s3]) <;> grind
/-- along one row: a form that is f / da times a square -/
theorem one_sol {g : M3} {u d : Nat → Int} {a : Nat} {f : Int} (ha : a < 3) (hs : SyM g) (hu : PnM g u) (hk : ∀ i, i < 3 → ∀ j, j < 3 → d a * g i j = f * d i * d j) (hf : 0 < f) (hda : 0 < d a) (hrow : ∀ c, c < 3 → g a c = f * d c) : Sol g u (fun c => (d 0 * u 0 + d 1 * u 1 + d 2 * u 2) * d c) (d 0 * Dt (g 0) (d 0) (d 1) (d 2) + d 1 * Dt (g 1) (d 0) (d 1) (d 2) + d 2 * Dt (g 2) (d 0) (d 1) (d 2)) := by
  have hdz : d a ≠ 0 := by omega
  have rowd : ∀ i, i < 3 → d a * Dt (g i) (d 0) (d 1) (d 2) = f * d i * (d 0 * d 0 + d 1 * d 1 + d 2 * d 2) := fun i hi => by
    have e0 := hk i hi 0 (by omega); have e1 := hk i hi 1 (by omega); have e2 := hk i hi 2 (by omega)
    have : d a * Dt (g i) (d 0) (d 1) (d 2) = (d a * g i 0) * d 0 + (d a * g i 1) * d 1 + (d a * g i 2) * d 2 := by unfold Dt; grind
    rw [this, e0, e1, e2]; grind
  have qd : ∀ x y z, d a * Qf g x y z = f * ((d 0 * x + d 1 * y + d 2 * z) * (d 0 * x + d 1 * y + d 2 * z)) := fun x y z => by
    have e00 := hk 0 (by omega) 0 (by omega); have e11 := hk 1 (by omega) 1 (by omega); have e22 := hk 2 (by omega) 2 (by omega)
    have e01 := hk 0 (by omega) 1 (by omega); have e02 := hk 0 (by omega) 2 (by omega); have e12 := hk 1 (by omega) 2 (by omega)
    have : d a * Qf g x y z = (d a * g 0 0) * x * x + (d a * g 1 1) * y * y + (d a * g 2 2) * z * z + 2 * ((d a * g 0 1) * x * y + (d a * g 0 2) * x * z + (d a * g 1 2) * y * z) := by unfold Qf; grind
    rw [this, e00, e11, e22, e01, e02, e12]; grind
  have qz : ∀ x y z, d 0 * x + d 1 * y + d 2 * z = 0 → Dt u x y z = 0 := fun x y z e => by
    apply hu
    have := qd x y z
    rw [e, Int.mul_zero, Int.mul_zero] at this
    rcases Int.mul_eq_zero.mp this with q | q
    · omega
    · exact q
  have u01 : u 0 * d 1 = u 1 * d 0 := by have := qz (d 1) (-d 0) 0 (by grind); unfold Dt at this; grind
  have u02 : u 0 * d 2 = u 2 * d 0 := by have := qz (d 2) 0 (-d 0) (by grind); unfold Dt at this; grind
  have u12 : u 1 * d 2 = u 2 * d 1 := by have := qz 0 (d 2) (-d 1) (by grind); unfold Dt at this; grind
  have r0 := rowd 0 (by omega); have r1 := rowd 1 (by omega); have r2 := rowd 2 (by omega)
  have n2 : 0 < d 0 * d 0 + d 1 * d 1 + d 2 * d 2 := by
    have a0 := sq_nn (d 0); have a1 := sq_nn (d 1); have a2 := sq_nn (d 2)
    have : d a * d a ≤ d 0 * d 0 + d 1 * d 1 + d 2 * d 2 := by
      match a, ha with
      | 0, _ => omega
      | 1, _ => omega
      | 2, _ => omega
    have := Int.mul_pos hda hda
    omega
  have dn : d a * (d 0 * Dt (g 0) (d 0) (d 1) (d 2) + d 1 * Dt (g 1) (d 0) (d 1) (d 2) + d 2 * Dt (g 2) (d 0) (d 1) (d 2)) = f * ((d 0 * d 0 + d 1 * d 1 + d 2 * d 2) * (d 0 * d 0 + d 1 * d 1 + d 2 * d 2)) := by
    have : d a * (d 0 * Dt (g 0) (d 0) (d 1) (d 2) + d 1 * Dt (g 1) (d 0) (d 1) (d 2) + d 2 * Dt (g 2) (d 0) (d 1) (d 2)) = d 0 * (d a * Dt (g 0) (d 0) (d 1) (d 2)) + d 1 * (d a * Dt (g 1) (d 0) (d 1) (d 2)) + d 2 * (d a * Dt (g 2) (d 0) (d 1) (d 2)) := by
      generalize Dt (g 0) (d 0) (d 1) (d 2) = A; generalize Dt (g 1) (d 0) (d 1) (d 2) = B; generalize Dt (g 2) (d 0) (d 1) (d 2) = C; grind
    rw [this, r0, r1, r2]; grind
  refine ⟨?_, fun i hi => cancel hdz ?_, fun x y z hz => ?_⟩
  · rcases Int.lt_or_le 0 (d 0 * Dt (g 0) (d 0) (d 1) (d 2) + d 1 * Dt (g 1) (d 0) (d 1) (d 2) + d 2 * Dt (g 2) (d 0) (d 1) (d 2)) with q | q
    · exact q
    · have p1 := Int.mul_nonpos_of_nonneg_of_nonpos (Int.le_of_lt hda) q
      have p2 := Int.mul_pos hf (Int.mul_pos n2 n2)
      omega
  · have e1 : d a * Dt (g i) ((d 0 * u 0 + d 1 * u 1 + d 2 * u 2) * d 0) ((d 0 * u 0 + d 1 * u 1 + d 2 * u 2) * d 1) ((d 0 * u 0 + d 1 * u 1 + d 2 * u 2) * d 2) = (d 0 * u 0 + d 1 * u 1 + d 2 * u 2) * (d a * Dt (g i) (d 0) (d 1) (d 2)) := by
      unfold Dt; generalize d 0 * u 0 + d 1 * u 1 + d 2 * u 2 = S; grind
    have e2 : ∀ D : Int, d a * (D * u i) = (d a * D) * u i := fun D => by grind
    show d a * Dt (g i) ((d 0 * u 0 + d 1 * u 1 + d 2 * u 2) * d 0) ((d 0 * u 0 + d 1 * u 1 + d 2 * u 2) * d 1) ((d 0 * u 0 + d 1 * u 1 + d 2 * u 2) * d 2) = _
    rw [e1, rowd i hi, e2, dn]
    have e3 : (d 0 * u 0 + d 1 * u 1 + d 2 * u 2) * d i = (d 0 * d 0 + d 1 * d 1 + d 2 * d 2) * u i := by
      clear dn r0 r1 r2 qd qz rowd e1 e2 hk hrow hu hs
      match i, hi with
      | 0, _ => grind
      | 1, _ => grind
      | 2, _ => grind
    have e4 : (d 0 * u 0 + d 1 * u 1 + d 2 * u 2) * (f * d i * (d 0 * d 0 + d 1 * d 1 + d 2 * d 2)) = f * ((d 0 * d 0 + d 1 * d 1 + d 2 * d 2) * ((d 0 * u 0 + d 1 * u 1 + d 2 * u 2) * d i)) := by
      generalize d 0 * u 0 + d 1 * u 1 + d 2 * u 2 = S; generalize d 0 * d 0 + d 1 * d 1 + d 2 * d 2 = T; grind
    rw [e4, e3]
    generalize d 0 * d 0 + d 1 * d 1 + d 2 * d 2 = T; grind
  · have hz' := hz a ha
    have e : Dt (g a) x y z = f * (d 0 * x + d 1 * y + d 2 * z) := by
      unfold Dt; rw [hrow 0 (by omega), hrow 1 (by omega), hrow 2 (by omega)]; grind
    rw [e] at hz'
    have hd0 : d 0 * x + d 1 * y + d 2 * z = 0 := by rcases Int.mul_eq_zero.mp hz' with q | q; omega; exact q
    have : Dt (fun c => (d 0 * u 0 + d 1 * u 1 + d 2 * u 2) * d c) x y z = (d 0 * u 0 + d 1 * u 1 + d 2 * u 2) * (d 0 * x + d 1 * y + d 2 * z) := by
      unfold Dt; generalize d 0 * u 0 + d 1 * u 1 + d 2 * u 2 = S; grind
    rw [this, hd0]; simp
