/-! pure: fits of k columns, laid into three -/
def pad (k : Nat) (w : Nat → Int) : Nat → Int := fun i => if i < k then w i else 0
def padM (k : Nat) (g : M3) : M3 := fun i j => if i < k ∧ j < k then g i j else 0
def PdM (k : Nat) (g : M3) : Prop := ∀ i j, (k ≤ i ∨ k ≤ j) → g i j = 0
theorem padM_pd (k : Nat) (g : M3) : PdM k (padM k g) := fun i j h => by unfold padM; rw [if_neg (by omega)]
theorem Sol.congr {g g' : M3} {u u' w w' : Nat → Int} {d : Int} (h : Sol g u w d) (hg : ∀ i j, i < 3 → j < 3 → g i j = g' i j) (hu : ∀ i, i < 3 → u i = u' i) (hw : ∀ i, i < 3 → w i = w' i) : Sol g' u' w' d := by
  obtain ⟨a, b, c⟩ := h
  have e : ∀ i, i < 3 → ∀ x y z, Dt (g i) x y z = Dt (g' i) x y z := fun i hi x y z => by unfold Dt; rw [hg i 0 hi (by omega), hg i 1 hi (by omega), hg i 2 hi (by omega)]
  refine ⟨a, fun i hi => ?_, fun x y z hz => ?_⟩
  · rw [← e i hi, ← hw 0 (by omega), ← hw 1 (by omega), ← hw 2 (by omega), ← hu i hi]; exact b i hi
  · have := c x y z (fun i hi => by rw [e i hi]; exact hz i hi)
    unfold Dt at this ⊢; rw [← hw 0 (by omega), ← hw 1 (by omega), ← hw 2 (by omega)]; exact this
theorem minors_zero {g : M3} (h : SyM g) {k : Nat} (hk : k ≤ 3) (hp : PdM k g) (hd : detM g k = 0) (hc : k = 3 → ∀ i, i < 3 → ∀ c, c < 3 → crX g (r1 i) (r2 i) c = 0) : p0 g = 0 ∧ p1 g = 0 ∧ p2 g = 0 ∧ a01 g = 0 ∧ a02 g = 0 ∧ a12 g = 0 := by
  match k, hk with
  | 0, _ => simp [detM] at hd
  | 1, _ =>
    have z := fun i j q => hp i j q
    unfold p0 p1 p2 a01 a02 a12
    rw [z 1 1 (by omega), z 1 2 (by omega), z 0 2 (by omega), z 0 1 (by omega), z 2 2 (by omega)]; simp
  | 2, _ =>
    have z := fun i j q => hp i j q
    have s1 := h 1 0
    have e : p2 g = 0 := by simp [detM] at hd; unfold p2; rw [s1] at hd; exact hd
    refine ⟨?_, ?_, e, ?_, ?_, ?_⟩
    · unfold p0; rw [z 2 2 (by omega), z 1 2 (by omega)]; simp
    · unfold p1; rw [z 2 2 (by omega), z 0 2 (by omega)]; simp
    · unfold a01; rw [z 2 2 (by omega), z 0 2 (by omega)]; simp
    · unfold a02; rw [z 1 2 (by omega), z 0 2 (by omega)]; simp
    · unfold a12; rw [z 1 2 (by omega), z 0 2 (by omega)]; simp
  | 3, _ =>
    have c0 := hc rfl 0 (by omega); have c1 := hc rfl 1 (by omega); have c2 := hc rfl 2 (by omega)
    have x0 := cx0 h; have x1 := cx1 h; have x2 := cx2 h
    have e00 : crX g 1 2 0 = 0 := c0 0 (by omega)
    have e01 : crX g 1 2 1 = 0 := c0 1 (by omega)
    have e02 : crX g 1 2 2 = 0 := c0 2 (by omega)
    have e11 : crX g 0 2 1 = 0 := c1 1 (by omega)
    have e12 : crX g 0 2 2 = 0 := c1 2 (by omega)
    have e22 : crX g 0 1 2 = 0 := c2 2 (by omega)
    exact ⟨by rw [← x0.1]; exact e00, by have := x1.2.1; omega, by rw [← x2.2.2]; exact e22, by rw [← x0.2.1]; exact e01, by rw [← x0.2.2]; exact e02, by have := x1.2.2; omega⟩
theorem al_sol {g : M3} {u W : Nat → Int} {k r : Nat} {den : Int} (h : GrM g) (hu : PnM g u) (hk : k ≤ 3) (hp : PdM k g) (hm : p0 g = 0 ∧ p1 g = 0 ∧ p2 g = 0 ∧ a01 g = 0 ∧ a02 g = 0 ∧ a12 g = 0)
    (hr : (r = 1 ∧ ∃ a b, a < k ∧ b < k ∧ g a b ≠ 0) ∨ (r = 0 ∧ ∀ a b, a < k → b < k → g a b = 0)) (hu0 : ∀ i, k ≤ i → u i = 0) (ha : AlR g k u r W den) : Sol g u (pad k W) den := by
  rcases ha with ⟨e, rfl, hw⟩ | ⟨e, a, f, hak, haa, hf, hdv, hden, hw⟩
  · rcases hr with hr | ⟨-, hz⟩
    · omega
    · have hz3 : ∀ i j, i < 3 → j < 3 → g i j = 0 := fun i j _ _ => by
        by_cases q : i < k ∧ j < k
        · exact hz i j q.1 q.2
        · exact hp i j (by omega)
      have huz := hu.zero hz3
      have pz : ∀ i, pad k W i = 0 := fun i => by unfold pad; split; (rename_i q; exact hw i q); rfl
      refine ⟨by decide, fun i hi => ?_, fun x y z _ => ?_⟩
      · rw [pz, pz, pz, huz i hi]; unfold Dt; simp
      · unfold Dt; rw [pz, pz, pz]; simp
  · have ha3 : a < 3 := by omega
    obtain ⟨d, hd⟩ : ∃ d, d = alD g a f := ⟨_, rfl⟩
    rw [← hd] at hden hw
    have hrow : ∀ c, c < 3 → g a c = f * d c := fun c _ => by
      rw [hd]; unfold alD
      by_cases q : c < k
      · exact (Int.mul_tdiv_cancel' (hdv c q)).symm
      · rw [hp a c (by omega)]; simp
    have dz : ∀ c, k ≤ c → d c = 0 := fun c q => by rw [hd]; unfold alD; rw [hp a c (by omega)]; simp
    have hnn : 0 ≤ g a a := by
      match a, ha3 with
      | 0, _ => exact h.d0
      | 1, _ => exact h.d1
      | 2, _ => exact h.d2
    have hda : 0 < d a := by
      have := hrow a ha3
      rcases Int.lt_or_le 0 (d a) with q | q
      · exact q
      · have := Int.mul_nonpos_of_nonneg_of_nonpos (Int.le_of_lt hf) q; omega
    have mm := one_min h.1 hm.1 hm.2.1 hm.2.2.1 hm.2.2.2.1 hm.2.2.2.2.1 hm.2.2.2.2.2 a ha3
    have hkk : ∀ i, i < 3 → ∀ j, j < 3 → d a * g i j = f * d i * d j := fun i hi j hj => cancel (show f ≠ 0 by omega) (by
      have := mm i hi j hj
      rw [hrow a ha3, hrow i hi, hrow j hj] at this
      rw [← Int.mul_assoc, this]; grind)
    have sol := one_sol ha3 h.1 hu hkk hf hda hrow
    have eT : alT d u k = d 0 * u 0 + d 1 * u 1 + d 2 * u 2 := by
      match k, hk with
      | 0, _ => omega
      | 1, _ => rw [hu0 1 (by omega), hu0 2 (by omega)]; simp [alT]
      | 2, _ => rw [hu0 2 (by omega)]; simp [alT]
      | 3, _ => simp [alT]
    have eL : alL g d k k = d 0 * Dt (g 0) (d 0) (d 1) (d 2) + d 1 * Dt (g 1) (d 0) (d 1) (d 2) + d 2 * Dt (g 2) (d 0) (d 1) (d 2) := by
      match k, hk with
      | 0, _ => omega
      | 1, _ => rw [dz 1 (by omega), dz 2 (by omega)]; simp [alL, alI, Dt]; grind
      | 2, _ => rw [dz 2 (by omega)]; simp [alL, alI, Dt]; grind
      | 3, _ => simp [alL, alI, Dt]; grind
    rw [eL] at hden
    rw [hden]
    refine sol.congr (fun _ _ _ _ => rfl) (fun _ _ => rfl) (fun i _ => ?_)
    unfold pad
    by_cases q : i < k
    · rw [if_pos q, hw i q, eT]
    · rw [if_neg q, dz i (by omega)]; simp
theorem fitk {g : M3} {u W : Nat → Int} {k : Nat} {den : Int} (h : GrM g) (hu : PnM g u) (hk : k ≤ 3) (hp : PdM k g) (hu0 : ∀ i, k ≤ i → u i = 0) (hf : FitR g k u W den) : Sol g u (pad k W) den := by
  rcases hf with ⟨hd, hs⟩ | ⟨hd, rfl, i, nr, hi, hc, hn, hs⟩ | ⟨hd, hc, r, hr, ha⟩
  · match k, hk with
    | 0, _ =>
      obtain ⟨s, -, -, hpos, -⟩ := hs
      have gz : ∀ i j, g i j = 0 := fun i j => hp i j (by omega)
      refine ⟨hpos, fun i hi => ?_, fun x y z _ => ?_⟩
      · unfold Dt; rw [gz, gz, gz, hu0 i (by omega)]; simp
      · unfold Dt pad; simp
    | 1, _ =>
      obtain ⟨s, hs0, hdt, hpos, hw⟩ := hs
      have w0 := hw 0 (by omega)
      simp [crS, cofM] at w0
      have dt : g 0 0 = s * den := by simpa [detM] using hdt
      have z := fun i j q => hp i j q
      refine ⟨hpos, lt3 (cancel hs0 ?_) ?_ ?_, fun x y z' hz => ?_⟩
      · unfold Dt pad; simp; rw [dt, w0]; grind
      · unfold Dt; rw [z 1 0 (by omega), z 1 1 (by omega), z 1 2 (by omega), hu0 1 (by omega)]; simp
      · unfold Dt; rw [z 2 0 (by omega), z 2 1 (by omega), z 2 2 (by omega), hu0 2 (by omega)]; simp
      · have h0 := hz 0 (by omega)
        unfold Dt at h0
        rw [z 0 1 (by omega), z 0 2 (by omega)] at h0
        simp only [Int.zero_mul, Int.add_zero] at h0
        have hx : x = 0 := by rcases Int.mul_eq_zero.mp h0 with q | q; (exfalso; apply hd; simpa [detM] using q); exact q
        unfold Dt pad; rw [hx]; simp
    | 2, _ =>
      obtain ⟨s, hs0, hdt, hpos, hw⟩ := hs
      have w0 := hw 0 (by omega); have w1 := hw 1 (by omega)
      simp [crS, cofM] at w0 w1
      have dt : g 0 0 * g 1 1 - g 0 1 * g 1 0 = s * den := by simpa [detM] using hdt
      have z := fun i j q => hp i j q
      refine ⟨hpos, lt3 (cancel hs0 ?_) (cancel hs0 ?_) ?_, fun x y z' hz => ?_⟩
      · unfold Dt pad; simp
        have : s * (g 0 0 * W 0 + g 0 1 * W 1) = g 0 0 * (s * W 0) + g 0 1 * (s * W 1) := by grind
        rw [this, ← w0, ← w1, ← Int.mul_assoc, ← dt]; grind
      · unfold Dt pad; simp
        have : s * (g 1 0 * W 0 + g 1 1 * W 1) = g 1 0 * (s * W 0) + g 1 1 * (s * W 1) := by grind
        rw [this, ← w0, ← w1, ← Int.mul_assoc, ← dt]; grind
      · unfold Dt; rw [z 2 0 (by omega), z 2 1 (by omega), z 2 2 (by omega), hu0 2 (by omega)]; simp
      · have h0 := hz 0 (by omega); have h1 := hz 1 (by omega)
        unfold Dt at h0 h1
        rw [z 0 2 (by omega)] at h0; rw [z 1 2 (by omega)] at h1
        simp only [Int.zero_mul, Int.add_zero] at h0 h1
        have dz : detM g 2 ≠ 0 := hd
        have ex : detM g 2 * x = 0 := by
          have : detM g 2 * x = g 1 1 * (g 0 0 * x + g 0 1 * y) - g 0 1 * (g 1 0 * x + g 1 1 * y) := by simp [detM]; grind
          rw [this, h0, h1]; simp
        have ey : detM g 2 * y = 0 := by
          have : detM g 2 * y = g 0 0 * (g 1 0 * x + g 1 1 * y) - g 1 0 * (g 0 0 * x + g 0 1 * y) := by simp [detM]; grind
          rw [this, h0, h1]; simp
        have hx : x = 0 := by rcases Int.mul_eq_zero.mp ex with q | q; exact absurd q dz; exact q
        have hy : y = 0 := by rcases Int.mul_eq_zero.mp ey with q | q; exact absurd q dz; exact q
        unfold Dt pad; rw [hx, hy]; simp
    | 3, _ =>
      have hpos : 0 < den := by obtain ⟨s, -, -, hp, -⟩ := hs; exact hp
      have rr := hs.rows3
      have hq : q3 g ≠ 0 := by rw [← det3_q h.1]; exact hd
      have s3 : Sol g u W den := ⟨hpos, rr, fun x y z hz => by obtain ⟨e0, e1, e2⟩ := null3 h.1 hq hz; rw [e0, e1, e2]; unfold Dt; simp⟩
      exact s3.congr (fun _ _ _ _ => rfl) (fun _ _ => rfl) (fun i hi => by unfold pad; rw [if_pos hi])
  · have h3 : q3 g = 0 := by rw [← det3_q h.1]; exact hd
    exact (fit3_b h hu h3 hi hc hn hs).congr (fun _ _ _ _ => rfl) (fun _ _ => rfl) (fun i hi => by unfold pad; rw [if_pos hi])
  · exact al_sol h hu hk hp (minors_zero h.1 hk hp hd hc) hr hu0 ha
/-! the rows' form -/
def sqF (x : Nat → Nat → Int) (K : Nat → Bool) (a b c : Int) : Nat → Int
  | 0 => 0
  | r + 1 => sqF x K a b c r + if K r = true then Dt (x r) a b c * Dt (x r) a b c else 0
theorem gm_sq {x : Nat → Nat → Int} {K : Nat → Bool} (a b c : Int) : ∀ n, Qf (gmA x K n) a b c = sqF x K a b c n
  | 0 => by unfold Qf gmA; simp [gm2, sqF]
  | n + 1 => by
    have ih := gm_sq (x := x) (K := K) a b c n
    unfold Qf gmA at ih ⊢
    show _ = sqF x K a b c n + _
    rw [← ih]
    simp only [gm2]
    by_cases e : K n = true
    · simp only [if_pos e]; unfold Dt
      generalize x n 0 = p; generalize x n 1 = q; generalize x n 2 = r
      generalize gm2 x K 0 0 n = g0; generalize gm2 x K 1 1 n = g1; generalize gm2 x K 2 2 n = g2; generalize gm2 x K 0 1 n = g3; generalize gm2 x K 0 2 n = g4; generalize gm2 x K 1 2 n = g5
      grind
    · simp only [if_neg e, Int.add_zero]
theorem sqF_nn {x : Nat → Nat → Int} {K : Nat → Bool} {a b c : Int} : ∀ n, 0 ≤ sqF x K a b c n
  | 0 => Int.le_refl _
  | n + 1 => by have := sqF_nn (x := x) (K := K) (a := a) (b := b) (c := c) n; have := sq_nn (Dt (x n) a b c); show 0 ≤ sqF x K a b c n + _; split <;> omega
theorem sqF_z {x : Nat → Nat → Int} {K : Nat → Bool} {a b c : Int} : ∀ {n}, sqF x K a b c n = 0 → ∀ r, r < n → K r = true → Dt (x r) a b c = 0
  | 0, _, r, hr, _ => absurd hr (Nat.not_lt_zero _)
  | n + 1, h, r, hr, hk => by
    have h1 := sqF_nn (x := x) (K := K) (a := a) (b := b) (c := c) n
    have h2 := sq_nn (Dt (x n) a b c)
    have h' : (sqF x K a b c n + if K n = true then Dt (x n) a b c * Dt (x n) a b c else 0) = 0 := h
    by_cases e : K n = true
    · rw [if_pos e] at h'
      rcases Nat.lt_or_ge r n with h3 | h3
      · exact sqF_z (by omega) r h3 hk
      · rw [show r = n by omega]; exact sq_z (by omega)
    · rw [if_neg e] at h'
      rcases Nat.lt_or_ge r n with h3 | h3
      · exact sqF_z (by omega) r h3 hk
      · rw [show r = n by omega] at hk; exact absurd hk e
theorem gm_row {x : Nat → Nat → Int} {K : Nat → Bool} {a b c : Int} {i : Nat} : ∀ {n}, (∀ r, r < n → K r = true → Dt (x r) a b c = 0) → Dt (gmA x K n i) a b c = 0
  | 0, _ => by unfold Dt gmA; simp [gm2]
  | n + 1, h => by
    have ih := gm_row (i := i) (n := n) (fun r hr hk => h r (by omega) hk)
    unfold Dt gmA at ih ⊢
    simp only [gm2]
    by_cases e : K n = true
    · have hn := h n (by omega) e
      simp only [if_pos e]
      unfold Dt at hn
      generalize gm2 x K i 0 n = g0 at *; generalize gm2 x K i 1 n = g1 at *; generalize gm2 x K i 2 n = g2 at *
      have : (g0 + x n i * x n 0) * a + (g1 + x n i * x n 1) * b + (g2 + x n i * x n 2) * c = (g0 * a + g1 * b + g2 * c) + x n i * (x n 0 * a + x n 1 * b + x n 2 * c) := by grind
      rw [this, ih, hn]; simp
    · simp only [if_neg e, Int.add_zero]; exact ih
theorem rh_row {x : Nat → Nat → Int} {Y : Nat → Int} {K : Nat → Bool} {a b c : Int} : ∀ {n}, (∀ r, r < n → K r = true → Dt (x r) a b c = 0) → Dt (rhA x Y K n) a b c = 0
  | 0, _ => by unfold Dt rhA; simp [rh2]
  | n + 1, h => by
    have ih := rh_row (Y := Y) (n := n) (fun r hr hk => h r (by omega) hk)
    unfold Dt rhA at ih ⊢
    simp only [rh2]
    by_cases e : K n = true
    · have hn := h n (by omega) e
      simp only [if_pos e]
      unfold Dt at hn
      generalize rh2 x Y K 0 n = g0 at *; generalize rh2 x Y K 1 n = g1 at *; generalize rh2 x Y K 2 n = g2 at *
      have : (g0 + x n 0 * Y n) * a + (g1 + x n 1 * Y n) * b + (g2 + x n 2 * Y n) * c = (g0 * a + g1 * b + g2 * c) + Y n * (x n 0 * a + x n 1 * b + x n 2 * c) := by grind
      rw [this, ih, hn]; simp
    · simp only [if_neg e, Int.add_zero]; exact ih
theorem gm2_sym {x : Nat → Nat → Int} {K : Nat → Bool} {i j : Nat} : ∀ n, gm2 x K i j n = gm2 x K j i n
  | 0 => rfl
  | n + 1 => by show gm2 x K i j n + _ = gm2 x K j i n + _; rw [gm2_sym n, Int.mul_comm (x n i)]
theorem gram {x : Nat → Nat → Int} {K : Nat → Bool} {n : Nat} : GrM (gmA x K n) :=
  ⟨fun i j => gm2_sym n, fun a b c => by rw [gm_sq]; exact sqF_nn n, fun i a b c h => by rw [gm_sq] at h; exact gm_row (sqF_z h)⟩
theorem gram_h {x : Nat → Nat → Int} {Y : Nat → Int} {K : Nat → Bool} {n : Nat} : PnM (gmA x K n) (rhA x Y K n) := fun a b c h => by rw [gm_sq] at h; exact rh_row (sqF_z h)
theorem gram_x {x : Nat → Nat → Int} {K : Nat → Bool} {n r : Nat} (hr : r < n) (hk : K r = true) : PnM (gmA x K n) (x r) := fun a b c h => by rw [gm_sq] at h; exact sqF_z h r hr hk
