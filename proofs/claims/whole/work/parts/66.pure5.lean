/-! pure: bounds of the fits -/
theorem crS_t {M : Nat → Nat → Int} {v : Nat → Int} {n c : Nat} (hn : n ≤ 3) (h : SmM M v n) (hc : c < n) : ∀ r, r ≤ n → -(628402231885824 * (r : Int)) ≤ crS M v n c r ∧ crS M v n c r ≤ 628402231885824 * (r : Int)
  | 0, _ => by simp [crS]
  | r + 1, hr => by
    have ih := crS_t hn h hc r (by omega)
    have a := mul_bd (cof_bd hn h (show r < n by omega) hc) (h.2 r (by omega))
    show _ ≤ crS M v n c r + _ ∧ crS M v n c r + _ ≤ _
    omega
theorem le_of_mul {s a b : Int} (hs : s ≠ 0) (h : b = s * a) : (a.natAbs : Int) ≤ (b.natAbs : Int) := by
  have e : b.natAbs = s.natAbs * a.natAbs := by rw [h, Int.natAbs_mul]
  have : 1 * a.natAbs ≤ s.natAbs * a.natAbs := Nat.mul_le_mul_right _ (by omega)
  omega
theorem SlR.bd {M : Nat → Nat → Int} {v W : Nat → Int} {n : Nat} {den : Int} (h : SlR M v n W den) (hn : n ≤ 3) (hs : SmM M v n) : (0 < den ∧ den ≤ ((detM M n).natAbs : Int)) ∧ den ≤ 1000000000000000 ∧ ∀ c, c < n → -2000000000000000 ≤ W c ∧ W c ≤ 2000000000000000 := by
  obtain ⟨s, h0, h1, h2, h3⟩ := h
  have hd := det_bd hn hs
  have a := le_of_mul h0 h1
  refine ⟨⟨h2, by omega⟩, by omega, fun c hc => ?_⟩
  have b := le_of_mul h0 (h3 c hc)
  have d := crS_t hn hs hc n (Nat.le_refl _)
  omega
theorem alT_b {d u : Nat → Int} {k : Nat} (hd : ∀ c, c < k → -1944 ≤ d c ∧ d c ≤ 1944) (hu : ∀ c, c < k → -21384 ≤ u c ∧ u c ≤ 21384) : ∀ c, c ≤ k → -(41570496 * (c : Int)) ≤ alT d u c ∧ alT d u c ≤ 41570496 * (c : Int)
  | 0, _ => by simp [alT]
  | c + 1, hc => by
    have ih := alT_b hd hu c (by omega)
    have := mul_bd (hd c (by omega)) (hu c (by omega))
    show _ ≤ alT d u c + _ ∧ alT d u c + _ ≤ _
    omega
theorem alI_b {G : Nat → Nat → Int} {d : Nat → Int} {k c : Nat} (hc : c < k) (hG : ∀ a b, a < k → b < k → -1944 ≤ G a b ∧ G a b ≤ 1944) (hd : ∀ c, c < k → -1944 ≤ d c ∧ d c ≤ 1944) : ∀ b, b ≤ k → -(7346640384 * (b : Int)) ≤ alI G d c b ∧ alI G d c b ≤ 7346640384 * (b : Int)
  | 0, _ => by simp [alI]
  | b + 1, hb => by
    have ih := alI_b hc hG hd b (by omega)
    have h1 := mul_bd (hd c hc) (hG c b hc (by omega))
    have h2 := mul_bd (A := 3779136) (a := d c * G c b) (by omega) (hd b (by omega))
    show _ ≤ alI G d c b + _ ∧ alI G d c b + _ ≤ _
    omega
theorem alL_b {G : Nat → Nat → Int} {d : Nat → Int} {k : Nat} (hk : k ≤ 3) (hG : ∀ a b, a < k → b < k → -1944 ≤ G a b ∧ G a b ≤ 1944) (hd : ∀ c, c < k → -1944 ≤ d c ∧ d c ≤ 1944) : ∀ c, c ≤ k → -(22039921152 * (c : Int)) ≤ alL G d k c ∧ alL G d k c ≤ 22039921152 * (c : Int)
  | 0, _ => by simp [alL]
  | c + 1, hc => by
    have ih := alL_b hk hG hd c (by omega)
    have := alI_b (show c < k by omega) hG hd k (Nat.le_refl _)
    show _ ≤ alL G d k c + _ ∧ alL G d k c + _ ≤ _
    omega
theorem AlR.bd {G : Nat → Nat → Int} {k r : Nat} {u W : Nat → Int} {den : Int} (h : AlR G k u r W den) (hk : k ≤ 3) (hG : ∀ a b, a < k → b < k → -1944 ≤ G a b ∧ G a b ≤ 1944) (hu : ∀ c, c < k → -21384 ≤ u c ∧ u c ≤ 21384) : den ≤ 70000000000 ∧ ∀ c, c < k → -2000000000000000 ≤ W c ∧ W c ≤ 2000000000000000 := by
  rcases h with ⟨-, rfl, h⟩ | ⟨-, a, f, ha, -, hf, hdv, hden, hw⟩
  · exact ⟨by decide, fun c hc => by rw [h c hc]; omega⟩
  · have hd : ∀ c, c < k → -1944 ≤ alD G a f c ∧ alD G a f c ≤ 1944 := fun c hc => by
      have h1 := hG a c ha hc
      have h2 := (tdiv_g hf (hdv c hc)).2
      unfold alD; omega
    have hL := alL_b hk hG hd k (Nat.le_refl _)
    have hT := alT_b hd hu k (Nat.le_refl _)
    refine ⟨by rw [hden]; omega, fun c hc => ?_⟩
    rw [hw c hc]
    have := mul_bd (A := 124711488) (a := alT (alD G a f) u k) (by omega) (hd c hc)
    omega
/-- what a fit's bottom is at most; the sharp bound of rank two -/
theorem fit_bd {G : Nat → Nat → Int} {k : Nat} {u W : Nat → Int} {den : Int} (h : FitR G k u W den) (hk : k ≤ 3) (hG : ∀ a b, a < k → b < k → -1944 ≤ G a b ∧ G a b ≤ 1944) (hu : ∀ c, c < k → -21384 ≤ u c ∧ u c ≤ 21384) : den ≤ 1000000000000000 ∧ ∀ c, c < k → -2000000000000000 ≤ W c ∧ W c ≤ 2000000000000000 := by
  rcases h with ⟨-, hs⟩ | ⟨-, hk3, i, nr, hi, hc, -, hs⟩ | ⟨-, -, r, -, ha⟩
  · exact (hs.bd hk ⟨fun r c hr hc => by have := hG r c hr hc; unfold MBd; split <;> omega, hu⟩).2
  · have := hs.bd (by omega) (rwM_sm hk3 hG hu hi hc)
    rw [hk3]; exact this.2
  · have := ha.bd hk hG hu
    exact ⟨by omega, this.2⟩
theorem le_of_sq {n x y : Int} (hn : 0 < n) (h : n * x ≤ n * y) : x ≤ y := Int.le_of_mul_le_mul_left h hn
/-- a form with a null: four times its second number is at most the square of its first -/
theorem q2_q1 {g : M3} (h : SyM g) {a b c : Int} (hn : 0 < a * a + b * b + c * c) (hz : ∀ i, i < 3 → Dt (g i) a b c = 0) : 4 * q2 g ≤ q1 g * q1 g := by
  have z0 := hz 0 (by omega); have z1 := hz 1 (by omega); have z2 := hz 2 (by omega)
  have s1 := h 1 0; have s2 := h 2 0; have s3 := h 2 1
  unfold Dt at z0 z1 z2
  rw [s1] at z1; rw [s2, s3] at z2
  unfold q2 q1 p0 p1 p2
  generalize g 0 0 = p at *; generalize g 0 1 = q at *; generalize g 0 2 = r at *; generalize g 1 1 = s at *; generalize g 1 2 = t at *; generalize g 2 2 = w at *
  have hN := Int.mul_pos hn hn
  have B0 : p * a * a + s * b * b + w * c * c + 2 * (q * a * b + r * a * c + t * b * c) = 0 := by
    have : p * a * a + s * b * b + w * c * c + 2 * (q * a * b + r * a * c + t * b * c) = a * (p * a + q * b + r * c) + b * (q * a + s * b + t * c) + c * (r * a + t * b + w * c) := by grind
    rw [this, z0, z1, z2]; simp
  generalize e1 : p + s + w = e
  generalize eN : a * a + b * b + c * c = N at *
  have i0 := sq_nn (2 * N * p - e * (N - a * a)); have i1 := sq_nn (2 * N * s - e * (N - b * b)); have i2 := sq_nn (2 * N * w - e * (N - c * c))
  have i3 := sq_nn (2 * N * q + e * (a * b)); have i4 := sq_nn (2 * N * r + e * (a * c)); have i5 := sq_nn (2 * N * t + e * (b * c))
  have key : (2 * N * p - e * (N - a * a)) * (2 * N * p - e * (N - a * a)) + (2 * N * s - e * (N - b * b)) * (2 * N * s - e * (N - b * b)) + (2 * N * w - e * (N - c * c)) * (2 * N * w - e * (N - c * c)) + 2 * ((2 * N * q + e * (a * b)) * (2 * N * q + e * (a * b)) + (2 * N * r + e * (a * c)) * (2 * N * r + e * (a * c)) + (2 * N * t + e * (b * c)) * (2 * N * t + e * (b * c)))
      = 4 * (N * N) * (p * p + s * s + w * w + 2 * (q * q + r * r + t * t)) - 4 * N * e * (N * (p + s + w) - (p * a * a + s * b * b + w * c * c + 2 * (q * a * b + r * a * c + t * b * c))) + e * e * (3 * (N * N) - 2 * N * (a * a + b * b + c * c) + (a * a + b * b + c * c) * (a * a + b * b + c * c)) := by
    clear eN B0 z0 z1 z2 hz i0 i1 i2 i3 i4 i5 e1; grind
  rw [B0, eN, e1] at key
  have k2 : 0 ≤ N * N * (2 * (e * e) - 8 * ((s * w - t * t) + (p * w - r * r) + (p * s - q * q))) := by
    have : N * N * (2 * (e * e) - 8 * ((s * w - t * t) + (p * w - r * r) + (p * s - q * q))) = 4 * (N * N) * (p * p + s * s + w * w + 2 * (q * q + r * r + t * t)) - 4 * N * e * (N * e - 0) + e * e * (3 * (N * N) - 2 * N * N + N * N) := by
      rw [← e1]; clear key eN B0 z0 z1 z2 hz i0 i1 i2 i3 i4 i5 e1 hn hN; grind
    rw [this, ← key]; omega
  have := nn_of_mul hN k2
  omega
theorem p_b {a b c A : Int} (ha : 0 ≤ a ∧ a ≤ A) (hb : 0 ≤ b ∧ b ≤ A) : a * b - c * c ≤ A * A := by
  have := mul_bd (a := a) (A := A) (b := b) (B := A) (by omega) (by omega)
  have := sq_nn c
  omega
theorem den2_b {g : M3} {u W nr : Nat → Int} {den : Int} {i : Nat} (h : GrM g) (hG : ∀ a b, a < 3 → b < 3 → -1944 ≤ g a b ∧ g a b ≤ 1944) (h3 : q3 g = 0) (hi : i < 3) (hc : CrR g (r1 i) (r2 i) nr) (hn : ¬ (nr 0 = 0 ∧ nr 1 = 0 ∧ nr 2 = 0)) (hs : SlR (rwM g i nr) (vcM u i) 3 W den) : den ≤ 32134205239296 := by
  obtain ⟨hnull, hni⟩ := nr_null h h3 hi hc hn
  obtain ⟨⟨f, hf, hfn⟩, -⟩ := hc
  obtain ⟨s, hs0, hdt, hpos, -⟩ := hs
  have a0 := le_of_mul hs0 hdt
  have e0 := hfn 0 (by omega); have e1 := hfn 1 (by omega); have e2 := hfn 2 (by omega)
  have dN : detM (rwM g i nr) 3 = f * (nr 0 * nr 0 + nr 1 * nr 1 + nr 2 * nr 2) := by
    simp only [crX, if_true, if_false, Nat.one_ne_zero, (by decide : ¬ (2 : Nat) = 0), (by decide : ¬ (2 : Nat) = 1)] at e0 e1 e2
    simp [detM, minM, rwM, show r1 0 = 1 from rfl, show r2 0 = 2 from rfl, show r1 1 = 0 from rfl, show r2 1 = 2 from rfl, show r1 2 = 0 from rfl, show r2 2 = 1 from rfl]
    grind
  have n0 := sq_nn (nr 0); have n1 := sq_nn (nr 1); have n2 := sq_nn (nr 2)
  have hN : 0 < nr 0 * nr 0 + nr 1 * nr 1 + nr 2 * nr 2 := by
    rcases Int.lt_or_le 0 (nr 0 * nr 0 + nr 1 * nr 1 + nr 2 * nr 2) with q | q
    · exact q
    · exact absurd (sq3_z (show nr 0 * nr 0 + nr 1 * nr 1 + nr 2 * nr 2 = 0 by omega)) hn
  have hq := q2_q1 h.1 hN hnull
  have d0 := h.d0; have d1 := h.d1; have d2 := h.d2
  have b0 := hG 0 0 (by omega) (by omega); have b1 := hG 1 1 (by omega) (by omega); have b2 := hG 2 2 (by omega) (by omega)
  have hq1 : q1 g * q1 g ≤ 34012224 := by have := mul_bd (a := q1 g) (A := 5832) (b := q1 g) (B := 5832) (by unfold q1; omega) (by unfold q1; omega); omega
  have hq2 : q2 g ≤ 8503056 := by omega
  have nq2 := h.nq2
  have pb0 : p0 g ≤ 3779136 := p_b ⟨d1, b1.2⟩ ⟨d2, b2.2⟩
  have pb1 : p1 g ≤ 3779136 := p_b ⟨d0, b0.2⟩ ⟨d2, b2.2⟩
  have pb2 : p2 g ≤ 3779136 := p_b ⟨d0, b0.2⟩ ⟨d1, b1.2⟩
  have np0 := h.np0; have np1 := h.np1; have np2 := h.np2
  have ff : f * (nr 0 * nr 0 + nr 1 * nr 1 + nr 2 * nr 2) ≤ f * (f * (nr 0 * nr 0 + nr 1 * nr 1 + nr 2 * nr 2)) := by
    apply Int.mul_le_mul_of_nonneg_left _ (Int.le_of_lt hf)
    have : 1 * (nr 0 * nr 0 + nr 1 * nr 1 + nr 2 * nr 2) ≤ f * (nr 0 * nr 0 + nr 1 * nr 1 + nr 2 * nr 2) := Int.mul_le_mul_of_nonneg_right (by omega) (by omega)
    omega
  have fq : f * (f * (nr 0 * nr 0 + nr 1 * nr 1 + nr 2 * nr 2)) = crX g (r1 i) (r2 i) 0 * crX g (r1 i) (r2 i) 0 + crX g (r1 i) (r2 i) 1 * crX g (r1 i) (r2 i) 1 + crX g (r1 i) (r2 i) 2 * crX g (r1 i) (r2 i) 2 := by
    rw [e0, e1, e2]; generalize nr 0 = a; generalize nr 1 = b; generalize nr 2 = c; grind
  have m1 := ad_m01 (g := g); have m2 := ad_m02 (g := g); have m3 := ad_m12 (g := g)
  rw [h3, Int.zero_mul] at m1 m2 m3
  have sq : crX g (r1 i) (r2 i) 0 * crX g (r1 i) (r2 i) 0 + crX g (r1 i) (r2 i) 1 * crX g (r1 i) (r2 i) 1 + crX g (r1 i) (r2 i) 2 * crX g (r1 i) (r2 i) 2 ≤ 3779136 * 8503056 := by
    match i, hi with
    | 0, _ =>
      have c := cx0 h.1
      show crX g 1 2 0 * crX g 1 2 0 + crX g 1 2 1 * crX g 1 2 1 + crX g 1 2 2 * crX g 1 2 2 ≤ _
      rw [c.1, c.2.1, c.2.2]
      have : p0 g * p0 g + a01 g * a01 g + a02 g * a02 g = p0 g * q2 g := by unfold q2; generalize p0 g = a at *; generalize p1 g = b at *; generalize p2 g = d at *; grind
      rw [this]
      have := mul_bd (a := p0 g) (A := 3779136) (b := q2 g) (B := 8503056) (by omega) (by omega); omega
    | 1, _ =>
      have c := cx1 h.1
      show crX g 0 2 0 * crX g 0 2 0 + crX g 0 2 1 * crX g 0 2 1 + crX g 0 2 2 * crX g 0 2 2 ≤ _
      rw [c.1, c.2.1, c.2.2]
      have : -a01 g * -a01 g + -p1 g * -p1 g + -a12 g * -a12 g = p1 g * q2 g := by unfold q2; generalize p0 g = a at *; generalize p1 g = b at *; generalize p2 g = d at *; grind
      rw [this]
      have := mul_bd (a := p1 g) (A := 3779136) (b := q2 g) (B := 8503056) (by omega) (by omega); omega
    | 2, _ =>
      have c := cx2 h.1
      show crX g 0 1 0 * crX g 0 1 0 + crX g 0 1 1 * crX g 0 1 1 + crX g 0 1 2 * crX g 0 1 2 ≤ _
      rw [c.1, c.2.1, c.2.2]
      have : a02 g * a02 g + a12 g * a12 g + p2 g * p2 g = p2 g * q2 g := by unfold q2; generalize p0 g = a at *; generalize p1 g = b at *; generalize p2 g = d at *; grind
      rw [this]
      have := mul_bd (a := p2 g) (A := 3779136) (b := q2 g) (B := 8503056) (by omega) (by omega); omega
  have hp2 : 0 < f * (nr 0 * nr 0 + nr 1 * nr 1 + nr 2 * nr 2) := Int.mul_pos hf hN
  rw [dN] at a0
  omega
theorem den_b {g : M3} {k : Nat} {u W : Nat → Int} {den : Int} (h : FitR g k u W den) (hg : k = 3 → GrM g) (hk : k ≤ 3) (hG : ∀ a b, a < k → b < k → -1944 ≤ g a b ∧ g a b ≤ 1944) (hu : ∀ c, c < k → -21384 ≤ u c ∧ u c ≤ 21384) : den ≤ 32134205239296 := by
  rcases h with ⟨-, hs⟩ | ⟨hd, rfl, i, nr, hi, hc, hn, hs⟩ | ⟨-, -, r, -, ha⟩
  · have hb := (hs.bd hk ⟨fun r c hr hc => by have := hG r c hr hc; unfold MBd; split <;> omega, hu⟩).1
    have : ((detM g k).natAbs : Int) ≤ 44080933104 := by
      match k, hk with
      | 0, _ => simp [detM]
      | 1, _ => have := hG 0 0 (by omega) (by omega); simp [detM]; omega
      | 2, _ =>
        have a := mul_bd (hG 0 0 (by omega) (by omega)) (hG 1 1 (by omega) (by omega))
        have b := mul_bd (hG 0 1 (by omega) (by omega)) (hG 1 0 (by omega) (by omega))
        simp [detM]; omega
      | 3, _ =>
        have pb : PB (Pf g) := fun j hj => hG (j / 3) (j % 3) (by omega) (by omega)
        have := sym_in pb (k := 3)
        have e : symF (Pf g) 3 = detM g 3 := by rw [det3_q (hg rfl).1]; exact e3_q (hg rfl).1
        rw [e] at this; omega
    omega
  · have gg := hg rfl
    have h3 : q3 g = 0 := by rw [← det3_q gg.1]; exact hd
    exact den2_b gg hG h3 hi hc hn hs
  · have := ha.bd hk hG hu; omega
/-! the squares that are left -/
def resF (x : Nat → Nat → Int) (Y : Nat → Int) (K : Nat → Bool) (d a b c : Int) : Nat → Int
  | 0 => 0
  | r + 1 => resF x Y K d a b c r + if K r = true then (Y r * d - Dt (x r) a b c) * (Y r * d - Dt (x r) a b c) else 0
theorem resF_nn {x : Nat → Nat → Int} {Y : Nat → Int} {K : Nat → Bool} {d a b c : Int} : ∀ n, 0 ≤ resF x Y K d a b c n
  | 0 => Int.le_refl _
  | n + 1 => by have := resF_nn (x := x) (Y := Y) (K := K) (d := d) (a := a) (b := b) (c := c) n; have := sq_nn (Y n * d - Dt (x n) a b c); show 0 ≤ resF x Y K d a b c n + _; split <;> omega
theorem resF_eq {x : Nat → Nat → Int} {Y : Nat → Int} {K : Nat → Bool} (d a b c : Int) : ∀ n, resF x Y K d a b c n = yyF Y K n * d * d - 2 * d * Dt (rhA x Y K n) a b c + sqF x K a b c n
  | 0 => by simp [resF, yyF, sqF, Dt, rhA, rh2]
  | n + 1 => by
    have ih := resF_eq (x := x) (Y := Y) (K := K) d a b c n
    show resF x Y K d a b c n + _ = (yyF Y K n + _) * d * d - 2 * d * Dt (rhA x Y K (n + 1)) a b c + (sqF x K a b c n + _)
    rw [ih]
    unfold Dt rhA
    simp only [rh2]
    by_cases e : K n = true
    · simp only [if_pos e]
      generalize rh2 x Y K 0 n = h0; generalize rh2 x Y K 1 n = h1; generalize rh2 x Y K 2 n = h2; generalize yyF Y K n = yy; generalize sqF x K a b c n = ss
      generalize x n 0 = p; generalize x n 1 = q; generalize x n 2 = r; generalize Y n = y
      clear ih; grind
    · simp only [if_neg e, Int.add_zero]
theorem left_nn {x : Nat → Nat → Int} {Y : Nat → Int} {K : Nat → Bool} {n : Nat} {w : Nat → Int} {d : Int} (hd : 0 < d) (hw : ∀ i, i < 3 → Dt (gmA x K n i) (w 0) (w 1) (w 2) = d * rhA x Y K n i) : 0 ≤ yyF Y K n * d - Dt (rhA x Y K n) (w 0) (w 1) (w 2) ∧ 0 ≤ Dt (rhA x Y K n) (w 0) (w 1) (w 2) := by
  have h1 := resF_eq (x := x) (Y := Y) (K := K) d (w 0) (w 1) (w 2) n
  have h2 := resF_nn (x := x) (Y := Y) (K := K) (d := d) (a := w 0) (b := w 1) (c := w 2) n
  have h3 := gm_sq (x := x) (K := K) (w 0) (w 1) (w 2) n
  have h4 : Qf (gmA x K n) (w 0) (w 1) (w 2) = d * Dt (rhA x Y K n) (w 0) (w 1) (w 2) := by
    have e : Qf (gmA x K n) (w 0) (w 1) (w 2) = w 0 * Dt (gmA x K n 0) (w 0) (w 1) (w 2) + w 1 * Dt (gmA x K n 1) (w 0) (w 1) (w 2) + w 2 * Dt (gmA x K n 2) (w 0) (w 1) (w 2) := by
      have s1 : gmA x K n 1 0 = gmA x K n 0 1 := gm2_sym n
      have s2 : gmA x K n 2 0 = gmA x K n 0 2 := gm2_sym n
      have s3 : gmA x K n 2 1 = gmA x K n 1 2 := gm2_sym n
      unfold Qf Dt; rw [s1, s2, s3]; grind
    rw [e, hw 0 (by omega), hw 1 (by omega), hw 2 (by omega)]
    unfold Dt; generalize rhA x Y K n 0 = a; generalize rhA x Y K n 1 = b; generalize rhA x Y K n 2 = c; grind
  have h5 := sqF_nn (x := x) (K := K) (a := w 0) (b := w 1) (c := w 2) n
  rw [← h3, h4] at h5 h1
  refine ⟨nn_of_mul hd ?_, nn_of_mul hd h5⟩
  have : d * (yyF Y K n * d - Dt (rhA x Y K n) (w 0) (w 1) (w 2)) = yyF Y K n * d * d - 2 * d * Dt (rhA x Y K n) (w 0) (w 1) (w 2) + d * Dt (rhA x Y K n) (w 0) (w 1) (w 2) := by
    generalize Dt (rhA x Y K n) (w 0) (w 1) (w 2) = D; generalize yyF Y K n = yy; clear h1 h2 h3 h4 h5 hw; grind
  rw [this, ← h1]; exact h2
