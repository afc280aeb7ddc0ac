theorem sI {a b : Int} (h : a = b) : (some (iV a) : Option Value) = some (iV b) := h ▸ rfl
theorem sL {a b : Int} (h : a = b) : (some (lV a) : Option Value) = some (lV b) := h ▸ rfl
theorem sB {a b : Bool} (h : a = b) : (some (bV a) : Option Value) = some (bV b) := h ▸ rfl
/-! Euclid's steps -/
def EI (a b x y : Int) (s : Nat) : Prop := (0 ≤ x ∧ x ≤ 9223372036854775807) ∧ (0 ≤ y ∧ y ≤ 9223372036854775807) ∧ Int.gcd x y = Int.gcd a b ∧ s ≤ 128 ∧ (s = 0 ∨ (y < x ∧ x * y * 2 ^ s < 2 ^ 127))
theorem EI.x {a b x y : Int} {s : Nat} (h : EI a b x y s) : 0 ≤ x ∧ x ≤ 9223372036854775807 := h.1
theorem EI.y {a b x y : Int} {s : Nat} (h : EI a b x y s) : 0 ≤ y ∧ y ≤ 9223372036854775807 := h.2.1
theorem EI.s {a b x y : Int} {s : Nat} (h : EI a b x y s) : s ≤ 128 := h.2.2.2.1
theorem EI.init {a b : Int} (ha : -9223372036854775807 ≤ a ∧ a ≤ 9223372036854775807) (hb : -9223372036854775807 ≤ b ∧ b ≤ 9223372036854775807) : EI a b (a.natAbs : Int) (b.natAbs : Int) 0 :=
  ⟨by omega, by omega, by simp [Int.gcd], by omega, Or.inl rfl⟩
theorem pw_succ (s : Nat) : (2 : Int) ^ (s + 1) = 2 * 2 ^ s := by rw [Int.pow_succ, Int.mul_comm]
theorem pw_pos (s : Nat) : (0 : Int) < 2 ^ s := Int.pow_pos (by decide)
theorem eu_half {x y : Int} {s : Nat} (hx : 0 ≤ x ∧ x ≤ 9223372036854775807) (hy : 0 < y ∧ y ≤ 9223372036854775807) (h : s = 0 ∨ (y < x ∧ x * y * 2 ^ s < 2 ^ 127)) : 0 ≤ x.tmod y ∧ x.tmod y < y ∧ y * (x.tmod y) * 2 ^ (s + 1) < 2 ^ 127 := by
  have e : x.tmod y = x % y := Int.tmod_eq_emod_of_nonneg hx.1
  have h1 := Int.emod_nonneg x (by omega : y ≠ 0)
  have h2 := Int.emod_lt_of_pos x hy.1
  rw [e]
  refine ⟨h1, h2, ?_⟩
  rcases h with rfl | ⟨hlt, hb⟩
  · have h3 : y * (x % y) ≤ 9223372036854775807 * 9223372036854775807 := Int.mul_le_mul hy.2 (by omega) h1 (by decide)
    have : (2 : Int) ^ (0 + 1) = 2 := rfl
    rw [this]
    have : (2 : Int) ^ 127 = 170141183460469231731687303715884105728 := by decide
    omega
  · have h4 : 2 * (x % y) ≤ x := by
      have h5 : x = y * (x / y) + x % y := (Int.mul_ediv_add_emod x y).symm
      have h6 : 1 ≤ x / y := Int.le_ediv_of_mul_le hy.1 (by omega)
      have h7 : y * 1 ≤ y * (x / y) := Int.mul_le_mul_of_nonneg_left h6 (by omega)
      omega
    have h8 : y * (x % y) * 2 ^ (s + 1) = (y * (2 * (x % y))) * 2 ^ s := by rw [pw_succ]; simp only [Int.mul_assoc, Int.mul_left_comm]
    rw [h8]
    have h9 : y * (2 * (x % y)) ≤ y * x := Int.mul_le_mul_of_nonneg_left h4 (by omega)
    have h10 := Int.mul_le_mul_of_nonneg_right h9 (Int.le_of_lt (pw_pos s))
    rw [Int.mul_comm y x] at h10
    omega
theorem eu_gcd {x y : Int} (hx : 0 ≤ x) : Int.gcd y (x.tmod y) = Int.gcd x y := by
  rw [Int.tmod_eq_emod_of_nonneg hx, Int.gcd_comm y, Int.emod_def, Int.gcd_sub_mul_left_left]
theorem EI.step {a b x y : Int} {s : Nat} (h : EI a b x y s) (hy : ¬ y = 0) (hs : s < 128) : EI a b y (x.tmod y) (s + 1) := by
  obtain ⟨h1, h2, h3, h4, h5⟩ := h
  obtain ⟨k1, k2, k3⟩ := eu_half h1 ⟨by omega, h2.2⟩ h5
  exact ⟨h2, by omega, by rw [eu_gcd h1.1, h3], by omega, Or.inr ⟨k2, k3⟩⟩
theorem EI.out {a b x y : Int} {s : Nat} (h : EI a b x y s) (hy : y = 0 ∨ 128 ≤ s) : x = ((Int.gcd a b : Nat) : Int) := by
  obtain ⟨h1, h2, h3, h4, h5⟩ := h
  have hy0 : y = 0 := by
    rcases hy with h | h
    · exact h
    · have : s = 128 := by omega
      subst this
      rcases h5 with h | ⟨h6, h7⟩
      · exact absurd h (by decide)
      · have h8 : (2 : Int) ^ 128 = 340282366920938463463374607431768211456 := by decide
        have h9 : (2 : Int) ^ 127 = 170141183460469231731687303715884105728 := by decide
        rw [h8, h9] at h7
        have h10 : x * y < 1 := by omega
        rcases Int.lt_or_le 0 y with hp | hp
        · have : 1 * 1 ≤ x * y := Int.mul_le_mul (by omega) (by omega) (by decide) (by omega)
          omega
        · omega
  subst hy0
  rw [← h3]
  simp [Int.gcd]
  omega
/-! lowest terms -/
def lowN (t b : Int) : Int := (if b < 0 then -t else t) / ((Int.gcd t b : Nat) : Int)
def lowD (t b : Int) : Int := (if b < 0 then -b else b) / ((Int.gcd t b : Nat) : Int)
def tellZ (t b wh : Int) : Int := if b = 0 ∨ wh < 0 ∨ 1 < wh then -1 else if wh = 0 then lowN t b else lowD t b
theorem gcd_pos_r {t b : Int} (h : b ≠ 0) : 0 < Int.gcd t b := Int.gcd_pos_of_ne_zero_right t h
theorem gcd_le_r {t b : Int} (h : b ≠ 0) : ((Int.gcd t b : Nat) : Int) ≤ (b.natAbs : Int) := by
  have := Nat.le_of_dvd (by omega) (Int.gcd_dvd_natAbs_right t b)
  omega
theorem tdiv_dvd {t g : Int} (h : g ∣ t) : t.tdiv g = t / g := Int.tdiv_eq_ediv_of_dvd h
theorem low_abs {t b g : Int} (hg : g = ((Int.gcd t b : Nat) : Int)) : t.tdiv g = t / g ∧ b.tdiv g = b / g := by
  subst hg
  exact ⟨tdiv_dvd (Int.gcd_dvd_left t b), tdiv_dvd (Int.gcd_dvd_right t b)⟩
theorem tell_out {t b wh dv r : Int} (hb : b ≠ 0) (h0 : ¬ wh < 0) (h1 : wh ≤ 1) (hd : (b < 0 ∧ dv = -((Int.gcd t b : Nat) : Int)) ∨ (¬ b < 0 ∧ dv = ((Int.gcd t b : Nat) : Int)))
    (hr : (wh = 0 ∧ r = t.tdiv dv) ∨ (¬ wh = 0 ∧ r = b.tdiv dv)) : r = tellZ t b wh := by
  obtain ⟨e1, e2⟩ := low_abs (t := t) (b := b) rfl
  have hc : ¬ (b = 0 ∨ wh < 0 ∨ 1 < wh) := by omega
  unfold tellZ lowN lowD
  rw [if_neg hc]
  have dt := Int.gcd_dvd_left t b
  have db := Int.gcd_dvd_right t b
  rcases hd with ⟨hn, rfl⟩ | ⟨hn, rfl⟩ <;> rcases hr with ⟨hw, rfl⟩ | ⟨hw, rfl⟩
  · rw [if_pos hw, if_pos hn, Int.tdiv_neg, e1, Int.neg_ediv_of_dvd dt]
  · rw [if_neg hw, if_pos hn, Int.tdiv_neg, e2, Int.neg_ediv_of_dvd db]
  · rw [if_pos hw, if_neg hn, e1]
  · rw [if_neg hw, if_neg hn, e2]
/-- two fractions that are one number are told alike -/
theorem low_eq {t b t' b' : Int} (hb : b ≠ 0) (hb' : b' ≠ 0) (h : t * b' = t' * b) : lowN t b = lowN t' b' ∧ lowD t b = lowD t' b' := by
  -- make the bottoms positive
  have key : ∀ {t b t' b' : Int}, 0 < b → 0 < b' → t * b' = t' * b → t / ((Int.gcd t b : Nat) : Int) = t' / ((Int.gcd t' b' : Nat) : Int) ∧ b / ((Int.gcd t b : Nat) : Int) = b' / ((Int.gcd t' b' : Nat) : Int) := by
    intro t b t' b' hb hb' h
    have gp : (0 : Int) < ((Int.gcd t b : Nat) : Int) := by have := gcd_pos_r (t := t) (b := b) (by omega); omega
    have gp' : (0 : Int) < ((Int.gcd t' b' : Nat) : Int) := by have := gcd_pos_r (t := t') (b := b') (by omega); omega
    -- gcd (t*b') (b*b') = g * b' and gcd (t'*b) (b'*b) = g' * b
    have e1 : Int.gcd (t * b') (b * b') = Int.gcd t b * b'.natAbs := Int.gcd_mul_right ..
    have e2 : Int.gcd (t' * b) (b' * b) = Int.gcd t' b' * b.natAbs := Int.gcd_mul_right ..
    rw [h, Int.mul_comm b b', e2] at e1
    have e3 : ((Int.gcd t' b' : Nat) : Int) * b = ((Int.gcd t b : Nat) : Int) * b' := by
      have := congrArg (fun n : Nat => (n : Int)) e1
      simp only [Int.natCast_mul] at this
      rw [show ((b.natAbs : Nat) : Int) = b by omega, show ((b'.natAbs : Nat) : Int) = b' by omega] at this
      exact this
    generalize hg : ((Int.gcd t b : Nat) : Int) = g at *
    generalize hg' : ((Int.gcd t' b' : Nat) : Int) = g' at *
    obtain ⟨x, hx⟩ : g ∣ t := hg ▸ Int.gcd_dvd_left t b
    obtain ⟨y, hy⟩ : g ∣ b := hg ▸ Int.gcd_dvd_right t b
    obtain ⟨x', hx'⟩ : g' ∣ t' := hg' ▸ Int.gcd_dvd_left t' b'
    obtain ⟨y', hy'⟩ : g' ∣ b' := hg' ▸ Int.gcd_dvd_right t' b'
    have hy2 : y = y' := by
      have : g' * g * y = g' * g * y' := by rw [hy, hy'] at e3; rw [Int.mul_assoc, e3, ← Int.mul_assoc, Int.mul_comm g g']
      exact Int.eq_of_mul_eq_mul_left (by have := Int.mul_pos gp' gp; omega) this
    have yp : 0 < y := by
      rcases Int.lt_or_le 0 y with h9 | h9
      · exact h9
      · have := Int.mul_nonpos_of_nonneg_of_nonpos (Int.le_of_lt gp) h9; omega
    have hx2 : x = x' := by
      have e4 : (g * x) * (g' * y') = (g' * x') * (g * y) := by rw [← hx, ← hy', ← hx', ← hy]; exact h
      rw [← hy2] at e4
      have e5 : (g * g' * y) * x = (g * g' * y) * x' := by
        have l1 : (g * x) * (g' * y) = (g * g' * y) * x := by simp only [Int.mul_assoc, Int.mul_comm, Int.mul_left_comm]
        have l2 : (g' * x') * (g * y) = (g * g' * y) * x' := by simp only [Int.mul_assoc, Int.mul_comm, Int.mul_left_comm]
        rw [← l1, ← l2, e4]
      exact Int.eq_of_mul_eq_mul_left (by have := Int.mul_pos (Int.mul_pos gp gp') yp; omega) e5
    rw [hx, hy, hx', hy', Int.mul_ediv_cancel_left _ (by omega), Int.mul_ediv_cancel_left _ (by omega), Int.mul_ediv_cancel_left _ (by omega), Int.mul_ediv_cancel_left _ (by omega)]
    exact ⟨hx2, hy2⟩
  unfold lowN lowD
  by_cases h1 : b < 0 <;> by_cases h2 : b' < 0
  · rw [if_pos h1, if_pos h2, if_pos h1, if_pos h2]
    have := key (t := -t) (b := -b) (t' := -t') (b' := -b') (by omega) (by omega) (by rw [Int.neg_mul_neg, Int.neg_mul_neg, h])
    simp only [Int.gcd_neg, Int.neg_gcd] at this
    exact this
  · rw [if_pos h1, if_neg h2, if_pos h1, if_neg h2]
    have := key (t := -t) (b := -b) (t' := t') (b' := b') (by omega) (by omega) (by rw [Int.neg_mul, Int.mul_neg, h])
    simp only [Int.gcd_neg, Int.neg_gcd] at this
    exact this
  · rw [if_neg h1, if_pos h2, if_neg h1, if_pos h2]
    have := key (t := t) (b := b) (t' := -t') (b' := -b') (by omega) (by omega) (by rw [Int.neg_mul, Int.mul_neg, h])
    simp only [Int.gcd_neg, Int.neg_gcd] at this
    exact this
  · rw [if_neg h1, if_neg h2, if_neg h1, if_neg h2]
    exact key (by omega) (by omega) h
theorem tell_eq {t b t' b' wh : Int} (hb : b ≠ 0) (hb' : b' ≠ 0) (h : t * b' = t' * b) : tellZ t b wh = tellZ t' b' wh := by
  obtain ⟨e1, e2⟩ := low_eq hb hb' h
  unfold tellZ
  rw [e1, e2]
  by_cases hw : wh < 0 ∨ 1 < wh
  · rw [if_pos (Or.inr hw), if_pos (Or.inr hw)]
  · rw [if_neg (show ¬ (b = 0 ∨ wh < 0 ∨ 1 < wh) by omega), if_neg (show ¬ (b' = 0 ∨ wh < 0 ∨ 1 < wh) by omega)]
/-! the sign of a number; fractions compared -/
def sgnZ (z : Int) : Int := if z < 0 then -1 else if z = 0 then 0 else 1
theorem sgn_neg (z : Int) : sgnZ (-z) = - sgnZ z := by unfold sgnZ; split <;> split <;> (try split) <;> (try split) <;> omega
theorem sgn_pos {z : Int} (h : 0 < z) : sgnZ z = 1 := by unfold sgnZ; rw [if_neg (by omega), if_neg (by omega)]
theorem sgn_m {z : Int} (h : z < 0) : sgnZ z = -1 := by unfold sgnZ; rw [if_pos h]
theorem sgn_0 : sgnZ 0 = 0 := rfl
theorem sgn_cases (z : Int) : (z < 0 ∧ sgnZ z = -1) ∨ (z = 0 ∧ sgnZ z = 0) ∨ (0 < z ∧ sgnZ z = 1) := by
  rcases Int.lt_trichotomy z 0 with h | h | h
  · exact Or.inl ⟨h, sgn_m h⟩
  · exact Or.inr (Or.inl ⟨h, by rw [h]; rfl⟩)
  · exact Or.inr (Or.inr ⟨h, sgn_pos h⟩)
/-- whole parts p, q and rests r of u, s of v -/
theorem cmp_whole {p q r s u v : Int} (hr : 0 ≤ r ∧ r < u) (hs : 0 ≤ s ∧ s < v) (h : p < q) : (p * u + r) * v - (q * v + s) * u < 0 := by
  have e : (p * u + r) * v - (q * v + s) * u = (p - q) * (u * v) + r * v - s * u := by
    simp only [Int.add_mul, Int.sub_mul]
    have : q * v * u = q * (u * v) := by rw [Int.mul_assoc, Int.mul_comm v u]
    rw [this, Int.mul_assoc p u v]; omega
  rw [e]
  have h1 : (p - q) * (u * v) ≤ (-1) * (u * v) := Int.mul_le_mul_of_nonneg_right (by omega) (Int.mul_nonneg (by omega) (by omega))
  have h2 : r * v ≤ (u - 1) * v := Int.mul_le_mul_of_nonneg_right (by omega) (by omega)
  have h3 : 0 ≤ s * u := Int.mul_nonneg hs.1 (by omega)
  rw [Int.sub_mul] at h2
  omega
theorem cmp_same {p r s u v : Int} : (p * u + r) * v - (p * v + s) * u = r * v - s * u := by
  have : p * v * u = p * u * v := by rw [Int.mul_assoc, Int.mul_comm v u, ← Int.mul_assoc]
  simp only [Int.add_mul, this]; omega
def OI (a0 b0 c0 d0 a b c d sg : Int) (s : Nat) : Prop := (0 ≤ a ∧ a ≤ 9223372036854775807) ∧ (0 ≤ b ∧ b ≤ 9223372036854775807) ∧ (0 ≤ c ∧ c ≤ 9223372036854775807) ∧ (0 ≤ d ∧ d ≤ 9223372036854775807) ∧ (sg = 1 ∨ sg = -1) ∧ s ≤ 128 ∧ sgnZ (a0 * d0 - c0 * b0) = sg * sgnZ (a * d - c * b) ∧ ((s = 0 ∧ 0 < b ∧ 0 < d) ∨ (b < a ∧ d < c ∧ a * b * 2 ^ s < 2 ^ 127))
theorem divs {a b : Int} (ha : 0 ≤ a) (hb : 0 < b) : a = a.tdiv b * b + a.tmod b ∧ 0 ≤ a.tmod b ∧ a.tmod b < b ∧ 0 ≤ a.tdiv b ∧ a.tdiv b ≤ a := by
  rw [Int.tmod_eq_emod_of_nonneg ha, Int.tdiv_eq_ediv_of_nonneg ha]
  refine ⟨?_, Int.emod_nonneg a (by omega), Int.emod_lt_of_pos a hb, Int.ediv_nonneg ha (by omega), Int.ediv_le_self b ha⟩
  rw [Int.mul_comm]; exact (Int.mul_ediv_add_emod a b).symm
theorem OI.ne {a0 b0 c0 d0 a b c d sg : Int} {s : Nat} (h : OI a0 b0 c0 d0 a b c d sg s) (hb : ¬ b = 0) (hd : ¬ d = 0) {p q : Int} (ep : p = a.tdiv b) (eq : q = c.tdiv d) (hpq : ¬ p = q) {r : Int} (hr : (p < q ∧ r = -sg) ∨ (¬ p < q ∧ r = sg)) : r = sgnZ (a0 * d0 - c0 * b0) := by
  obtain ⟨h1, h2, h3, h4, h5, h6, h7, h8⟩ := h
  obtain ⟨x1, x2, x3, -⟩ := divs h1.1 (by omega : 0 < b)
  obtain ⟨y1, y2, y3, -⟩ := divs h3.1 (by omega : 0 < d)
  rw [← ep] at x1; rw [← eq] at y1
  rw [h7]
  rcases hr with ⟨hl, rfl⟩ | ⟨hl, rfl⟩
  · have := cmp_whole ⟨x2, x3⟩ ⟨y2, y3⟩ hl
    rw [← x1, ← y1] at this
    rw [sgn_m this]; omega
  · have := cmp_whole ⟨y2, y3⟩ ⟨x2, x3⟩ (show q < p by omega)
    rw [← x1, ← y1] at this
    rw [sgn_pos (by omega)]; omega
theorem OI.step {a0 b0 c0 d0 a b c d sg : Int} {s : Nat} (h : OI a0 b0 c0 d0 a b c d sg s) (hb : ¬ b = 0) (hd : ¬ d = 0) (hs : s < 128) {p q : Int} (ep : p = a.tdiv b) (eq : q = c.tdiv d) (hpq : p = q) : OI a0 b0 c0 d0 b (a - p * b) d (c - q * d) (-sg) (s + 1) := by
  obtain ⟨h1, h2, h3, h4, h5, h6, h7, h8⟩ := h
  obtain ⟨x1, x2, x3, -⟩ := divs h1.1 (by omega : 0 < b)
  obtain ⟨y1, y2, y3, -⟩ := divs h3.1 (by omega : 0 < d)
  rw [← ep] at x1; rw [← eq] at y1
  have ex : a - p * b = a.tmod b := by omega
  have ey : c - q * d = c.tmod d := by omega
  obtain ⟨-, -, k3⟩ := eu_half h1 ⟨by omega, h2.2⟩ (by rcases h8 with h | h; exact Or.inl h.1; exact Or.inr ⟨h.1, h.2.2⟩)
  rw [ex, ey]
  refine ⟨h2, by omega, h4, by omega, by omega, by omega, ?_, Or.inr ⟨x3, y3, k3⟩⟩
  rw [h7]
  subst hpq
  have e : a * d - c * b = -(b * c.tmod d - d * a.tmod b) := by
    have := cmp_same (p := p) (r := a.tmod b) (s := c.tmod d) (u := b) (v := d)
    rw [← x1, ← y1] at this
    rw [this, Int.mul_comm (a.tmod b) d, Int.mul_comm (c.tmod d) b]; omega
  rw [e, sgn_neg, Int.mul_neg, Int.neg_mul]
theorem OI.b0 {a0 b0 c0 d0 a b c d sg : Int} {s : Nat} (h : OI a0 b0 c0 d0 a b c d sg s) (hx : b = 0 ∨ d = 0 ∨ 128 ≤ s) : b = 0 ∨ d = 0 := by
  obtain ⟨h1, h2, h3, h4, h5, h6, h7, h8⟩ := h
  rcases hx with h | h | h
  · exact Or.inl h
  · exact Or.inr h
  · have : s = 128 := by omega
    subst this
    rcases h8 with h | ⟨h9, -, h10⟩
    · omega
    · have e8 : (2 : Int) ^ 128 = 340282366920938463463374607431768211456 := by decide
      have e9 : (2 : Int) ^ 127 = 170141183460469231731687303715884105728 := by decide
      rw [e8, e9] at h10
      rcases Int.lt_or_le 0 b with hp | hp
      · have : 1 * 1 ≤ a * b := Int.mul_le_mul (by omega) (by omega) (by decide) (by omega)
        omega
      · exact Or.inl (by omega)
theorem OI.out {a0 b0 c0 d0 a b c d sg : Int} {s : Nat} (h : OI a0 b0 c0 d0 a b c d sg s) (hx : b = 0 ∨ d = 0 ∨ 128 ≤ s) {r : Int} (hr : (b = d ∧ r = 0) ∨ (¬ b = d ∧ ((b = 0 ∧ r = sg) ∨ (¬ b = 0 ∧ r = -sg)))) : r = sgnZ (a0 * d0 - c0 * b0) := by
  have hz := h.b0 hx
  obtain ⟨h1, h2, h3, h4, h5, h6, h7, h8⟩ := h
  rw [h7]
  rcases hr with ⟨e, rfl⟩ | ⟨e, ⟨hb, rfl⟩ | ⟨hb, rfl⟩⟩
  · have b0 : b = 0 := by omega
    have d0 : d = 0 := by omega
    subst b0; subst d0
    simp [sgn_0]
  · subst hb
    have hd : 0 < d := by omega
    have ha : 0 < a := by rcases h8 with h | h <;> omega
    have := Int.mul_pos ha hd
    rw [Int.mul_zero, sgn_pos (by omega)]; omega
  · have hd : d = 0 := by omega
    subst hd
    have hc : 0 < c := by rcases h8 with h | h <;> omega
    have := Int.mul_pos hc (by omega : 0 < b)
    rw [Int.mul_zero, sgn_m (by omega)]; omega
/-- the reference's: p + r / u against q + s / v -/
def KI (a0 b0 c0 d0 p q r s u v way : Int) : Prop := (0 ≤ r ∧ r < u ∧ u ≤ 9223372036854775807) ∧ (0 ≤ s ∧ s < v ∧ v ≤ 9223372036854775807) ∧ (-9223372036854775808 ≤ p ∧ p ≤ 9223372036854775807) ∧ (-9223372036854775808 ≤ q ∧ q ≤ 9223372036854775807) ∧ (way = 1 ∨ way = -1) ∧ sgnZ (a0 * d0 - c0 * b0) = way * sgnZ ((p * u + r) * v - (q * v + s) * u)
theorem KI.init {a b c d : Int} (ha : -9223372036854775807 ≤ a ∧ a ≤ 9223372036854775807) (hb : 0 < b ∧ b ≤ 9223372036854775807) (hc : -9223372036854775807 ≤ c ∧ c ≤ 9223372036854775807) (hd : 0 < d ∧ d ≤ 9223372036854775807) : KI a b c d (a / b) (c / d) (a - a / b * b) (c - c / d * d) b d 1 := by
  have e1 : a - a / b * b = a % b := by rw [Int.emod_def, Int.mul_comm]
  have e2 : c - c / d * d = c % d := by rw [Int.emod_def, Int.mul_comm]
  have m1 := Int.emod_nonneg a (by omega : b ≠ 0)
  have m2 := Int.emod_lt_of_pos a hb.1
  have m3 := Int.emod_nonneg c (by omega : d ≠ 0)
  have m4 := Int.emod_lt_of_pos c hd.1
  have f : ∀ {x y : Int}, (-9223372036854775807 ≤ x ∧ x ≤ 9223372036854775807) → 0 < y → -9223372036854775808 ≤ x / y ∧ x / y ≤ 9223372036854775807 := by
    intro x y hx hy
    constructor
    · refine Int.le_ediv_of_mul_le hy ?_
      have : -9223372036854775808 * y ≤ -9223372036854775808 * 1 := Int.mul_le_mul_of_nonpos_left (by decide) (by omega)
      omega
    · have := Int.ediv_lt_of_lt_mul hy (a := x) (b := 9223372036854775808) (by have : 9223372036854775808 * 1 ≤ 9223372036854775808 * y := Int.mul_le_mul_of_nonneg_left (by omega) (by decide); omega)
      omega
  rw [e1, e2]
  refine ⟨⟨m1, m2, hb.2⟩, ⟨m3, m4, hd.2⟩, f ha hb.1, f hc hd.1, Or.inl rfl, ?_⟩
  have x1 : a / b * b + a % b = a := by rw [Int.mul_comm]; exact Int.mul_ediv_add_emod a b
  have x2 : c / d * d + c % d = c := by rw [Int.mul_comm]; exact Int.mul_ediv_add_emod c d
  rw [x1, x2]; omega
theorem KI.step {a0 b0 c0 d0 p q r s u v way : Int} (h : KI a0 b0 c0 d0 p q r s u v way) (hpq : p = q) (hr : ¬ r = 0) (hs : ¬ s = 0) {p' q' : Int} (ep : p' = u.tdiv r) (eq : q' = v.tdiv s) : KI a0 b0 c0 d0 p' q' (u - p' * r) (v - q' * s) r s (-way) := by
  obtain ⟨h1, h2, h3, h4, h5, h6⟩ := h
  obtain ⟨x1, x2, x3, x4, x5⟩ := divs (by omega : 0 ≤ u) (by omega : 0 < r)
  obtain ⟨y1, y2, y3, y4, y5⟩ := divs (by omega : 0 ≤ v) (by omega : 0 < s)
  rw [← ep] at x1 x4 x5; rw [← eq] at y1 y4 y5
  have ex : u - p' * r = u.tmod r := by omega
  have ey : v - q' * s = v.tmod s := by omega
  rw [ex, ey]
  refine ⟨by omega, by omega, by omega, by omega, by omega, ?_⟩
  rw [h6]
  subst hpq
  rw [cmp_same, ← x1, ← y1]
  have : r * v - s * u = -(u * s - v * r) := by rw [Int.mul_comm r v, Int.mul_comm s u]; omega
  rw [this, sgn_neg, Int.mul_neg, Int.neg_mul]
theorem KI.ne {a0 b0 c0 d0 p q r s u v way : Int} (h : KI a0 b0 c0 d0 p q r s u v way) (hpq : ¬ p = q) {x : Int} (hx : (p < q ∧ x = -way) ∨ (¬ p < q ∧ x = way)) : x = sgnZ (a0 * d0 - c0 * b0) := by
  obtain ⟨h1, h2, h3, h4, h5, h6⟩ := h
  rw [h6]
  rcases hx with ⟨hl, rfl⟩ | ⟨hl, rfl⟩
  · rw [sgn_m (cmp_whole ⟨h1.1, h1.2.1⟩ ⟨h2.1, h2.2.1⟩ hl)]; omega
  · have := cmp_whole ⟨h2.1, h2.2.1⟩ ⟨h1.1, h1.2.1⟩ (show q < p by omega)
    rw [sgn_pos (by omega)]; omega
theorem KI.out {a0 b0 c0 d0 p q r s u v way : Int} (h : KI a0 b0 c0 d0 p q r s u v way) (hpq : p = q) (hz : r = 0 ∨ s = 0) {o : Int} (ho : o = if r = 0 ∧ s = 0 then 0 else if r = 0 then -1 else 1) : o * way = sgnZ (a0 * d0 - c0 * b0) := by
  obtain ⟨h1, h2, h3, h4, h5, h6⟩ := h
  subst hpq
  rw [h6, cmp_same, Int.mul_comm]
  congr 1
  rw [ho]
  by_cases e1 : r = 0
  · by_cases e2 : s = 0
    · rw [if_pos ⟨e1, e2⟩, e1, e2]; simp [sgn_0]
    · rw [if_neg (fun h => e2 h.2), if_pos e1, e1]
      have := Int.mul_pos (by omega : 0 < s) (by omega : 0 < u)
      rw [Int.zero_mul, sgn_m (by omega)]
  · rw [if_neg (fun h => e1 h.1), if_neg e1, show s = 0 by omega]
    have := Int.mul_pos (by omega : 0 < r) (by omega : 0 < v)
    rw [Int.zero_mul, sgn_pos (by omega)]
theorem KI.dec {a0 b0 c0 d0 p q r s u v way : Int} {n : Nat} (h : KI a0 b0 c0 d0 p q r s u v way) (hm : u.toNat < n + 1) : r.toNat < n := by
  obtain ⟨h1, -⟩ := h
  omega
theorem div_init {a b x y : Int} (hx : (¬ 0 ≤ a ∧ x = -a) ∨ (0 ≤ a ∧ x = a)) (hy : (¬ 0 ≤ b ∧ y = -b) ∨ (0 ≤ b ∧ y = b)) : Int.gcd x y = Int.gcd a b := by
  rcases hx with ⟨-, rfl⟩ | ⟨-, rfl⟩ <;> rcases hy with ⟨-, rfl⟩ | ⟨-, rfl⟩ <;> simp
theorem div_step {a b x y : Int} (h : (0 ≤ x ∧ x ≤ 9223372036854775807) ∧ (0 ≤ y ∧ y ≤ 9223372036854775807) ∧ Int.gcd x y = Int.gcd a b) (hy : ¬ y = 0) : (0 ≤ x.tmod y ∧ x.tmod y ≤ 9223372036854775807) ∧ Int.gcd y (x.tmod y) = Int.gcd a b := by
  obtain ⟨-, h1, h2, -⟩ := divs h.1.1 (by omega : 0 < y)
  exact ⟨by omega, by rw [eu_gcd h.1.1, h.2.2]⟩
theorem div_dec {a b x y : Int} {n : Nat} (h : (0 ≤ x ∧ x ≤ 9223372036854775807) ∧ (0 ≤ y ∧ y ≤ 9223372036854775807) ∧ Int.gcd x y = Int.gcd a b) (hy : ¬ y = 0) (hm : y.toNat < n + 1) : (x.tmod y).toNat < n := by
  obtain ⟨-, h1, h2, -⟩ := divs h.1.1 (by omega : 0 < y)
  omega
theorem div_out {a b x y : Int} (h : (0 ≤ x ∧ x ≤ 9223372036854775807) ∧ (0 ≤ y ∧ y ≤ 9223372036854775807) ∧ Int.gcd x y = Int.gcd a b) (hy : y = 0) : x = ((Int.gcd a b : Nat) : Int) := by
  rw [← h.2.2, hy]
  simp [Int.gcd]
  omega
theorem told_0 {t b wh : Int} (hb : b ≠ 0) (ht : t = 0) (h0 : 0 ≤ wh) (h1 : wh ≤ 1) : tellZ t b wh = wh := by
  subst ht
  unfold tellZ lowN lowD
  rw [if_neg (by omega)]
  by_cases hw : wh = 0
  · rw [if_pos hw, hw]
    by_cases h : b < 0 <;> simp [h]
  · rw [if_neg hw, show wh = 1 by omega]
    have e : ((Int.gcd 0 b : Nat) : Int) = if b < 0 then -b else b := by
      rw [Int.gcd_zero_left]; by_cases h : b < 0
      · rw [if_pos h]; omega
      · rw [if_neg h]; omega
    rw [e]
    exact Int.ediv_self (by by_cases h : b < 0 <;> simp [h] <;> omega)
theorem told_out {t b wh sg r : Int} (hb : b ≠ 0) (h0 : ¬ wh < 0) (h1 : wh ≤ 1) (hs : (¬ 0 ≤ b ∧ sg = -1) ∨ (0 ≤ b ∧ sg = 1))
    (hr : (wh = 0 ∧ r = sg * t.tdiv ((Int.gcd t b : Nat) : Int)) ∨ (¬ wh = 0 ∧ r = sg * b.tdiv ((Int.gcd t b : Nat) : Int))) : r = tellZ t b wh := by
  refine tell_out (dv := sg * ((Int.gcd t b : Nat) : Int)) hb h0 h1 ?_ ?_
  · rcases hs with ⟨h, rfl⟩ | ⟨h, rfl⟩
    · exact Or.inl ⟨by omega, by omega⟩
    · exact Or.inr ⟨by omega, by omega⟩
  · rcases hs with ⟨h, rfl⟩ | ⟨h, rfl⟩ <;> rcases hr with ⟨hw, rfl⟩ | ⟨hw, rfl⟩
    · exact Or.inl ⟨hw, by rw [show (-1) * ((Int.gcd t b : Nat) : Int) = -((Int.gcd t b : Nat) : Int) by omega, Int.tdiv_neg]; omega⟩
    · exact Or.inr ⟨hw, by rw [show (-1) * ((Int.gcd t b : Nat) : Int) = -((Int.gcd t b : Nat) : Int) by omega, Int.tdiv_neg]; omega⟩
    · exact Or.inl ⟨hw, by rw [Int.one_mul, Int.one_mul]⟩
    · exact Or.inr ⟨hw, by rw [Int.one_mul, Int.one_mul]⟩
theorem tdiv_bd {a b : Int} (ha : -9223372036854775807 ≤ a ∧ a ≤ 9223372036854775807) (hb : 0 < b ∧ b ≤ 9223372036854775807) : -9223372036854775807 ≤ a.tdiv b ∧ a.tdiv b ≤ 9223372036854775807 := by
  rcases Int.lt_or_le a 0 with h | h
  · obtain ⟨-, -, -, h4, h5⟩ := divs (by omega : 0 ≤ -a) hb.1
    rw [Int.neg_tdiv] at h4 h5
    omega
  · obtain ⟨-, -, -, h4, h5⟩ := divs h hb.1
    omega
theorem tdiv_mul_bd {a b q : Int} (ha : -9223372036854775807 ≤ a ∧ a ≤ 9223372036854775807) (hb : 0 < b ∧ b ≤ 9223372036854775807) (hq : q = a.tdiv b) : -9223372036854775807 ≤ q * b ∧ q * b ≤ 9223372036854775807 := by
  subst hq
  rcases Int.lt_or_le a 0 with h | h
  · obtain ⟨h1, h2, h3, h4, h5⟩ := divs (by omega : 0 ≤ -a) hb.1
    have h6 := Int.mul_nonneg h4 (by omega : 0 ≤ b)
    rw [Int.neg_tdiv, Int.neg_mul] at h1 h6
    omega
  · obtain ⟨h1, h2, h3, h4, h5⟩ := divs h hb.1
    have h6 := Int.mul_nonneg h4 (by omega : 0 ≤ b)
    omega
theorem floor_0 {a b q : Int} (hb : 0 < b) (hq : q = a.tdiv b) (h : 0 ≤ a ∨ q * b = a) : q = a / b := by
  subst hq
  rcases h with h | h
  · exact Int.tdiv_eq_ediv_of_nonneg h
  · exact (Int.ediv_eq_of_eq_mul_left (by omega) h.symm).symm
theorem floor_1 {a b q : Int} (hb : 0 < b) (ha : a < 0) (hq : q = a.tdiv b) (h : ¬ q * b = a) : q - 1 = a / b := by
  subst hq
  obtain ⟨h1, h2, h3, h4, h5⟩ := divs (by omega : 0 ≤ -a) hb
  rw [Int.neg_tdiv, Int.neg_tmod] at *
  have h6 : a.tdiv b * b = a - a.tmod b := by rw [Int.neg_mul] at h1; omega
  refine ((Int.ediv_eq_iff_of_pos hb).mpr ?_).symm
  rw [Int.sub_mul]; omega
theorem xor_in (a b : Int) : InL ((lI a ^^^ lI b).toInt) := ⟨Int64.le_toInt _, Int64.toInt_lt _⟩
theorem msb_lt0 (x : Int64) : x.toInt < 0 ↔ x.toBitVec.msb = true := by
  show x.toBitVec.toInt < 0 ↔ _
  rw [BitVec.toInt_neg_iff, BitVec.msb_eq_true_iff_two_mul_ge]
theorem xor_sgn {a b : Int} (ha : InL a) (hb : 0 < b ∧ b ≤ 9223372036854775807) : (lI a ^^^ lI b).toInt < 0 ↔ a < 0 := by
  have h1 := msb_lt0 (lI a)
  have h2 := msb_lt0 (lI b)
  rw [lI_toInt ha] at h1
  rw [lI_toInt (by omega)] at h2
  rw [msb_lt0, Int64.toBitVec_xor, BitVec.msb_xor, h1]
  have h3 : (lI b).toBitVec.msb = false := by
    cases hm : (lI b).toBitVec.msb with
    | false => rfl
    | true => exact absurd (h2.mpr hm) (by omega)
  rw [h3]; simp
