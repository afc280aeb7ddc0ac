/-! pure: symmetric forms of three, their solutions -/
abbrev M3 : Type := Nat → Nat → Int
def SyM (g : M3) : Prop := ∀ i j, g i j = g j i
def Qf (g : M3) (x y z : Int) : Int := g 0 0 * x * x + g 1 1 * y * y + g 2 2 * z * z + 2 * (g 0 1 * x * y + g 0 2 * x * z + g 1 2 * y * z)
def Dt (u : Nat → Int) (x y z : Int) : Int := u 0 * x + u 1 * y + u 2 * z
def PsM (g : M3) : Prop := ∀ x y z, 0 ≤ Qf g x y z
def PnM (g : M3) (u : Nat → Int) : Prop := ∀ x y z, Qf g x y z = 0 → Dt u x y z = 0
/-- symmetric, no square below 0, and where it is 0 all rows are -/
def GrM (g : M3) : Prop := SyM g ∧ PsM g ∧ ∀ i, PnM g (g i)
def Sol (g : M3) (u w : Nat → Int) (d : Int) : Prop := 0 < d ∧ (∀ i, i < 3 → Dt (g i) (w 0) (w 1) (w 2) = d * u i) ∧ ∀ x y z, (∀ i, i < 3 → Dt (g i) x y z = 0) → Dt w x y z = 0
theorem sq3_z {a b c : Int} (h : a * a + b * b + c * c = 0) : a = 0 ∧ b = 0 ∧ c = 0 := by
  have h1 := sq_nn a; have h2 := sq_nn b; have h3 := sq_nn c
  exact ⟨sq_z (by omega), sq_z (by omega), sq_z (by omega)⟩
theorem lt3 {P : Nat → Prop} (h0 : P 0) (h1 : P 1) (h2 : P 2) : ∀ i, i < 3 → P i := fun i hi => by
  match i, hi with
  | 0, _ => exact h0
  | 1, _ => exact h1
  | 2, _ => exact h2
theorem Sol.uniq {g : M3} {u w w' : Nat → Int} {d d' : Int} (h : Sol g u w d) (h' : Sol g u w' d') : ∀ i, i < 3 → w i * d' = w' i * d := by
  obtain ⟨-, a1, a2⟩ := h
  obtain ⟨-, b1, b2⟩ := h'
  have hz : ∀ i, i < 3 → Dt (g i) (w 0 * d' - w' 0 * d) (w 1 * d' - w' 1 * d) (w 2 * d' - w' 2 * d) = 0 := fun i hi => by
    have e1 := a1 i hi; have e2 := b1 i hi
    unfold Dt at e1 e2 ⊢
    have : g i 0 * (w 0 * d' - w' 0 * d) + g i 1 * (w 1 * d' - w' 1 * d) + g i 2 * (w 2 * d' - w' 2 * d) = (g i 0 * w 0 + g i 1 * w 1 + g i 2 * w 2) * d' - (g i 0 * w' 0 + g i 1 * w' 1 + g i 2 * w' 2) * d := by grind
    rw [this, e1, e2]; grind
  have p1 := a2 _ _ _ hz
  have p2 := b2 _ _ _ hz
  unfold Dt at p1 p2
  have hs : (w 0 * d' - w' 0 * d) * (w 0 * d' - w' 0 * d) + (w 1 * d' - w' 1 * d) * (w 1 * d' - w' 1 * d) + (w 2 * d' - w' 2 * d) * (w 2 * d' - w' 2 * d) = 0 := by grind
  obtain ⟨z0, z1, z2⟩ := sq3_z hs
  exact lt3 (by omega) (by omega) (by omega)
/-- u stands upright on all that the form takes to 0 -/
theorem PnM.null {g : M3} {u : Nat → Int} (hu : PnM g u) (hs : SyM g) {x y z : Int} (h : ∀ i, i < 3 → Dt (g i) x y z = 0) : Dt u x y z = 0 := by
  apply hu
  have h0 := h 0 (by omega); have h1 := h 1 (by omega); have h2 := h 2 (by omega)
  have s1 := hs 1 0; have s2 := hs 2 0; have s3 := hs 2 1
  unfold Dt at h0 h1 h2
  unfold Qf
  grind
section GM
variable {g : M3}
theorem GrM.row (h : GrM g) {x y z : Int} (hq : Qf g x y z = 0) : ∀ i, i < 3 → Dt (g i) x y z = 0 := fun i _ => h.2.2 i x y z hq
/-- the minors -/
def mn (g : M3) (i j : Nat) : Int := g (r1 i) (r1 j) * g (r2 i) (r2 j) - g (r1 i) (r2 j) * g (r2 i) (r1 j)
def q1 (g : M3) : Int := g 0 0 + g 1 1 + g 2 2
def p0 (g : M3) : Int := g 1 1 * g 2 2 - g 1 2 * g 1 2
def p1 (g : M3) : Int := g 0 0 * g 2 2 - g 0 2 * g 0 2
def p2 (g : M3) : Int := g 0 0 * g 1 1 - g 0 1 * g 0 1
def a01 (g : M3) : Int := g 0 2 * g 1 2 - g 0 1 * g 2 2
def a02 (g : M3) : Int := g 0 1 * g 1 2 - g 0 2 * g 1 1
def a12 (g : M3) : Int := g 0 1 * g 0 2 - g 0 0 * g 1 2
def q2 (g : M3) : Int := p0 g + p1 g + p2 g
def q3 (g : M3) : Int := g 0 0 * p0 g + g 0 1 * a01 g + g 0 2 * a02 g
theorem GrM.d0 (h : GrM g) : 0 ≤ g 0 0 := by have := h.2.1 1 0 0; unfold Qf at this; simpa using this
theorem GrM.d1 (h : GrM g) : 0 ≤ g 1 1 := by have := h.2.1 0 1 0; unfold Qf at this; simpa using this
theorem GrM.d2 (h : GrM g) : 0 ≤ g 2 2 := by have := h.2.1 0 0 1; unfold Qf at this; simpa using this
theorem GrM.z0 (h : GrM g) (e : g 0 0 = 0) : g 0 1 = 0 ∧ g 0 2 = 0 := by
  have hq : Qf g 1 0 0 = 0 := by unfold Qf; simp [e]
  have a := h.2.2 1 1 0 0 hq; have b := h.2.2 2 1 0 0 hq
  have s1 := h.1 1 0; have s2 := h.1 2 0
  unfold Dt at a b; simp at a b; omega
theorem GrM.z1 (h : GrM g) (e : g 1 1 = 0) : g 0 1 = 0 ∧ g 1 2 = 0 := by
  have hq : Qf g 0 1 0 = 0 := by unfold Qf; simp [e]
  have a := h.2.2 0 0 1 0 hq; have b := h.2.2 2 0 1 0 hq
  have s3 := h.1 2 1
  unfold Dt at a b; simp at a b; omega
theorem GrM.z2 (h : GrM g) (e : g 2 2 = 0) : g 0 2 = 0 ∧ g 1 2 = 0 := by
  have hq : Qf g 0 0 1 = 0 := by unfold Qf; simp [e]
  have a := h.2.2 0 0 0 1 hq; have b := h.2.2 1 0 0 1 hq
  unfold Dt at a b; simp at a b; omega
theorem nn_of_mul {a b : Int} (ha : 0 < a) (h : 0 ≤ a * b) : 0 ≤ b := by
  rcases Int.lt_or_le b 0 with q | q
  · have := Int.mul_neg_of_pos_of_neg ha q; omega
  · exact q
theorem GrM.np0 (h : GrM g) : 0 ≤ p0 g := by
  have hd := h.d2
  have hq := h.2.1 0 (g 2 2) (-g 1 2)
  have e : Qf g 0 (g 2 2) (-g 1 2) = g 2 2 * p0 g := by unfold Qf p0; grind
  rw [e] at hq
  by_cases hz : g 2 2 = 0
  · have := h.z2 hz; unfold p0; rw [hz, this.2]; simp
  · exact nn_of_mul (by omega) hq
theorem GrM.np1 (h : GrM g) : 0 ≤ p1 g := by
  have hd := h.d2
  have hq := h.2.1 (g 2 2) 0 (-g 0 2)
  have e : Qf g (g 2 2) 0 (-g 0 2) = g 2 2 * p1 g := by unfold Qf p1; grind
  rw [e] at hq
  by_cases hz : g 2 2 = 0
  · have := h.z2 hz; unfold p1; rw [hz, this.1]; simp
  · exact nn_of_mul (by omega) hq
theorem GrM.np2 (h : GrM g) : 0 ≤ p2 g := by
  have hd := h.d1
  have hq := h.2.1 (g 1 1) (-g 0 1) 0
  have e : Qf g (g 1 1) (-g 0 1) 0 = g 1 1 * p2 g := by unfold Qf p2; grind
  rw [e] at hq
  by_cases hz : g 1 1 = 0
  · have := h.z1 hz; unfold p2; rw [hz, this.1]; simp
  · exact nn_of_mul (by omega) hq
theorem ad_row0 (h : SyM g) : Dt (g 0) (p0 g) (a01 g) (a02 g) = q3 g ∧ Dt (g 1) (p0 g) (a01 g) (a02 g) = 0 ∧ Dt (g 2) (p0 g) (a01 g) (a02 g) = 0 := by
  have s1 := h 1 0; have s2 := h 2 0; have s3 := h 2 1
  unfold Dt q3 p0 a01 a02; refine ⟨?_, ?_, ?_⟩ <;> grind
theorem ad_row1 (h : SyM g) : Dt (g 0) (a01 g) (p1 g) (a12 g) = 0 ∧ Dt (g 1) (a01 g) (p1 g) (a12 g) = q3 g ∧ Dt (g 2) (a01 g) (p1 g) (a12 g) = 0 := by
  have s1 := h 1 0; have s2 := h 2 0; have s3 := h 2 1
  unfold Dt q3 p0 a01 a02 p1 a12; refine ⟨?_, ?_, ?_⟩ <;> grind
theorem ad_row2 (h : SyM g) : Dt (g 0) (a02 g) (a12 g) (p2 g) = 0 ∧ Dt (g 1) (a02 g) (a12 g) (p2 g) = 0 ∧ Dt (g 2) (a02 g) (a12 g) (p2 g) = q3 g := by
  have s1 := h 1 0; have s2 := h 2 0; have s3 := h 2 1
  unfold Dt q3 p0 a01 a02 p2 a12; refine ⟨?_, ?_, ?_⟩ <;> grind
theorem ad_m01 : p0 g * p1 g - a01 g * a01 g = q3 g * g 2 2 := by unfold q3 p0 p1 a01 a02; grind
theorem ad_m02 : p0 g * p2 g - a02 g * a02 g = q3 g * g 1 1 := by unfold q3 p0 p2 a01 a02; grind
theorem ad_m12 : p1 g * p2 g - a12 g * a12 g = q3 g * g 0 0 := by unfold q3 p0 p1 p2 a12 a01 a02; grind
theorem qf_ad0 : Qf g (p0 g) (a01 g) (a02 g) = q3 g * p0 g := by unfold Qf q3 p0 a01 a02; grind
theorem qf_ad1 : Qf g (a01 g) (p1 g) (a12 g) = q3 g * p1 g := by unfold Qf q3 p0 p1 a12 a01 a02; grind
theorem qf_ad2 : Qf g (a02 g) (a12 g) (p2 g) = q3 g * p2 g := by unfold Qf q3 p0 p2 a12 a01 a02; grind
theorem GrM.nq3 (h : GrM g) : 0 ≤ q3 g := by
  by_cases e0 : p0 g = 0
  · have hq : Qf g (p0 g) (a01 g) (a02 g) = 0 := by rw [qf_ad0, e0]; simp
    have := h.row hq 0 (by omega)
    rw [(ad_row0 h.1).1] at this; omega
  · have h0 := h.np0
    have hq := h.2.1 (p0 g) (a01 g) (a02 g)
    rw [qf_ad0, Int.mul_comm] at hq
    exact nn_of_mul (by omega) hq
theorem GrM.nq2 (h : GrM g) : 0 ≤ q2 g := by have := h.np0; have := h.np1; have := h.np2; unfold q2; omega
theorem GrM.nq1 (h : GrM g) : 0 ≤ q1 g := by have := h.d0; have := h.d1; have := h.d2; unfold q1; omega
theorem GrM.zq2 (h : GrM g) (h3 : q3 g = 0) (h2 : q2 g = 0) : (p0 g = 0 ∧ p1 g = 0 ∧ p2 g = 0) ∧ a01 g = 0 ∧ a02 g = 0 ∧ a12 g = 0 := by
  have n0 := h.np0; have n1 := h.np1; have n2 := h.np2
  unfold q2 at h2
  have e0 : p0 g = 0 := by omega
  have e1 : p1 g = 0 := by omega
  have e2 : p2 g = 0 := by omega
  have m1 := ad_m01 (g := g); have m2 := ad_m02 (g := g); have m3 := ad_m12 (g := g)
  rw [h3, e0, Int.zero_mul, Int.zero_mul] at m1 m2; rw [h3, e1, Int.zero_mul, Int.zero_mul] at m3
  exact ⟨⟨e0, e1, e2⟩, sq_z (by omega), sq_z (by omega), sq_z (by omega)⟩
theorem GrM.zq1 (h : GrM g) (h1 : q1 g = 0) : ∀ i j, i < 3 → j < 3 → g i j = 0 := by
  have n0 := h.d0; have n1 := h.d1; have n2 := h.d2
  unfold q1 at h1
  have e0 : g 0 0 = 0 := by omega
  have e1 : g 1 1 = 0 := by omega
  have e2 : g 2 2 = 0 := by omega
  have z0 := h.z0 e0; have z2 := h.z2 e2
  have s1 := h.1 1 0; have s2 := h.1 2 0; have s3 := h.1 2 1
  intro i j hi hj
  revert j
  match i, hi with
  | 0, _ => exact lt3 e0 z0.1 z0.2
  | 1, _ => exact lt3 (by omega) e1 z2.2
  | 2, _ => exact lt3 (by omega) (by omega) e2
theorem PnM.zero {u : Nat → Int} (hu : PnM g u) (hz : ∀ i j, i < 3 → j < 3 → g i j = 0) : ∀ i, i < 3 → u i = 0 := by
  have q : ∀ x y z, Qf g x y z = 0 := fun x y z => by
    unfold Qf; rw [hz 0 0 (by omega) (by omega), hz 1 1 (by omega) (by omega), hz 2 2 (by omega) (by omega), hz 0 1 (by omega) (by omega), hz 0 2 (by omega) (by omega), hz 1 2 (by omega) (by omega)]; simp
  have a := hu 1 0 0 (q _ _ _); have b := hu 0 1 0 (q _ _ _); have c := hu 0 0 1 (q _ _ _)
  unfold Dt at a b c
  exact lt3 (by simpa using a) (by simpa using b) (by simpa using c)
end GM
/-! the class's solution -/
def Pf (g : M3) : Nat → Int := fun k => g (k / 3) (k % 3)
theorem e1_q {g : M3} : e1 (Pf g) = q1 g := rfl
theorem e2_q {g : M3} (h : SyM g) : e2 (Pf g) = q2 g := by
  have s1 := h 1 0; have s2 := h 2 0; have s3 := h 2 1
  show (g 1 1 * g 2 2 - g 1 2 * g 2 1) + g 0 0 * g 2 2 - g 0 2 * g 2 0 + g 0 0 * g 1 1 - g 0 1 * g 1 0 = q2 g
  unfold q2 p0 p1 p2; grind
theorem e3_q {g : M3} (h : SyM g) : e3 (Pf g) = q3 g := by
  have s1 := h 1 0; have s2 := h 2 0; have s3 := h 2 1
  show g 0 0 * (g 1 1 * g 2 2 - g 1 2 * g 2 1) - g 0 1 * (g 1 0 * g 2 2 - g 1 2 * g 2 0) + g 0 2 * (g 1 0 * g 2 1 - g 1 1 * g 2 0) = q3 g
  unfold q3 p0 a01 a02; grind
theorem rp_q {g : M3} {i : Nat} (hi : i < 3) (a b c : Int) : rp (Pf g) i a b c = Dt (g i) a b c := by
  match i, hi with
  | 0, _ => rfl
  | 1, _ => rfl
  | 2, _ => rfl
section ID
variable {g : M3}
theorem id_sw (h : SyM g) (a b c x y z : Int) : a * Dt (g 0) x y z + b * Dt (g 1) x y z + c * Dt (g 2) x y z = x * Dt (g 0) a b c + y * Dt (g 1) a b c + z * Dt (g 2) a b c := by
  have s1 := h 1 0; have s2 := h 2 0; have s3 := h 2 1
  unfold Dt; rw [s1, s2, s3]; grind
theorem id_ln (r : Nat → Int) (p a b q c d u v w : Int) : Dt r (p * u + a * v + b * w) (a * u + q * v + c * w) (b * u + c * v + d * w) = u * Dt r p a b + v * Dt r a q c + w * Dt r b c d := by unfold Dt; grind
theorem id_10 (h : SyM g) (u v w : Int) : Dt (g 0) (Dt (g 0) u v w - q1 g * u) (Dt (g 1) u v w - q1 g * v) (Dt (g 2) u v w - q1 g * w) = -(p1 g + p2 g) * u + a01 g * v + a02 g * w := by
  have s1 := h 1 0; have s2 := h 2 0; have s3 := h 2 1
  unfold Dt q1 p1 p2 a01 a02; rw [s1, s2, s3]; grind
theorem id_11 (h : SyM g) (u v w : Int) : Dt (g 1) (Dt (g 0) u v w - q1 g * u) (Dt (g 1) u v w - q1 g * v) (Dt (g 2) u v w - q1 g * w) = a01 g * u - (p0 g + p2 g) * v + a12 g * w := by
  have s1 := h 1 0; have s2 := h 2 0; have s3 := h 2 1
  unfold Dt q1 p0 p2 a01 a12; rw [s1, s2, s3]; grind
theorem id_12 (h : SyM g) (u v w : Int) : Dt (g 2) (Dt (g 0) u v w - q1 g * u) (Dt (g 1) u v w - q1 g * v) (Dt (g 2) u v w - q1 g * w) = a02 g * u + a12 g * v - (p0 g + p1 g) * w := by
  have s1 := h 1 0; have s2 := h 2 0; have s3 := h 2 1
  unfold Dt q1 p0 p1 a02 a12; rw [s1, s2, s3]; grind
theorem id_20 (h : SyM g) (u v w : Int) : Dt (g 0) (q1 g * u - Dt (g 0) u v w) (q1 g * v - Dt (g 1) u v w) (q1 g * w - Dt (g 2) u v w) = q2 g * u - (p0 g * u + a01 g * v + a02 g * w) := by
  have := id_10 h u v w
  have e : Dt (g 0) (q1 g * u - Dt (g 0) u v w) (q1 g * v - Dt (g 1) u v w) (q1 g * w - Dt (g 2) u v w) = -Dt (g 0) (Dt (g 0) u v w - q1 g * u) (Dt (g 1) u v w - q1 g * v) (Dt (g 2) u v w - q1 g * w) := by
    generalize Dt (g 0) u v w = A; generalize Dt (g 1) u v w = B; generalize Dt (g 2) u v w = C; unfold Dt; grind
  rw [e, this]; unfold q2; grind
theorem id_21 (h : SyM g) (u v w : Int) : Dt (g 1) (q1 g * u - Dt (g 0) u v w) (q1 g * v - Dt (g 1) u v w) (q1 g * w - Dt (g 2) u v w) = q2 g * v - (a01 g * u + p1 g * v + a12 g * w) := by
  have := id_11 h u v w
  have e : Dt (g 1) (q1 g * u - Dt (g 0) u v w) (q1 g * v - Dt (g 1) u v w) (q1 g * w - Dt (g 2) u v w) = -Dt (g 1) (Dt (g 0) u v w - q1 g * u) (Dt (g 1) u v w - q1 g * v) (Dt (g 2) u v w - q1 g * w) := by
    generalize Dt (g 0) u v w = A; generalize Dt (g 1) u v w = B; generalize Dt (g 2) u v w = C; unfold Dt; grind
  rw [e, this]; unfold q2; grind
theorem id_22 (h : SyM g) (u v w : Int) : Dt (g 2) (q1 g * u - Dt (g 0) u v w) (q1 g * v - Dt (g 1) u v w) (q1 g * w - Dt (g 2) u v w) = q2 g * w - (a02 g * u + a12 g * v + p2 g * w) := by
  have := id_12 h u v w
  have e : Dt (g 2) (q1 g * u - Dt (g 0) u v w) (q1 g * v - Dt (g 1) u v w) (q1 g * w - Dt (g 2) u v w) = -Dt (g 2) (Dt (g 0) u v w - q1 g * u) (Dt (g 1) u v w - q1 g * v) (Dt (g 2) u v w - q1 g * w) := by
    generalize Dt (g 0) u v w = A; generalize Dt (g 1) u v w = B; generalize Dt (g 2) u v w = C; unfold Dt; grind
  rw [e, this]; unfold q2; grind
/-- what stands upright on the form's null, and differs from a multiple of the form's values by it, is 0 -/
theorem dev_z {u W : Nat → Int} {k d0 d1 d2 : Int} (h : SyM g) (hu : PnM g u) (e0 : d0 = Dt (g 0) (W 0) (W 1) (W 2) - k * u 0) (e1 : d1 = Dt (g 1) (W 0) (W 1) (W 2) - k * u 1) (e2 : d2 = Dt (g 2) (W 0) (W 1) (W 2) - k * u 2) (hg : ∀ i, i < 3 → Dt (g i) d0 d1 d2 = 0) : d0 = 0 ∧ d1 = 0 ∧ d2 = 0 := by
  have hp := hu.null h hg
  have g0 := hg 0 (by omega); have g1 := hg 1 (by omega); have g2 := hg 2 (by omega)
  have hs : d0 * d0 + d1 * d1 + d2 * d2 = (d0 * Dt (g 0) (W 0) (W 1) (W 2) + d1 * Dt (g 1) (W 0) (W 1) (W 2) + d2 * Dt (g 2) (W 0) (W 1) (W 2)) - k * Dt u d0 d1 d2 := by
    generalize Dt (g 0) (W 0) (W 1) (W 2) = A at e0; generalize Dt (g 1) (W 0) (W 1) (W 2) = B at e1; generalize Dt (g 2) (W 0) (W 1) (W 2) = C at e2
    unfold Dt
    clear g0 g1 g2 hg hp hu h
    have f0 : A = d0 + k * u 0 := by omega
    have f1 : B = d1 + k * u 1 := by omega
    have f2 : C = d2 + k * u 2 := by omega
    rw [f0, f1, f2]; grind
  rw [id_sw h, g0, g1, g2, hp] at hs
  exact sq3_z (by rw [hs]; simp)
end ID
theorem cls_sol {g : M3} {u : Nat → Int} (h : GrM g) (hu : PnM g u) : Sol g u (slv (Pf g) u) (symF (Pf g) (rk0 (Pf g))) := by
  have n3 := h.nq3; have n2 := h.nq2; have n1 := h.nq1
  have E1 := e1_q (g := g); have E2 := e2_q h.1; have E3 := e3_q h.1
  have w : ∀ i, i < 3 → slvF (Pf g) (symF (Pf g)) u 2 i = q1 g * u i - Dt (g i) (u 0) (u 1) (u 2) := fun i hi => by
    show symF (Pf g) 1 * u i - rp (Pf g) i (u 0) (u 1) (u 2) = _
    rw [rp_q hi]; rfl
  have w0 := w 0 (by omega); have w1 := w 1 (by omega); have w2 := w 2 (by omega)
  have r0 := ad_row0 h.1; have r1 := ad_row1 h.1; have r2 := ad_row2 h.1
  unfold slv
  by_cases c3 : q3 g = 0
  · by_cases c2 : q2 g = 0
    · by_cases c1 : q1 g = 0
      · have hr : rk0 (Pf g) = 0 := by unfold rk0; rw [E1, E2, E3]; simp [c1, c2, c3]
        rw [hr]
        have hz := h.zq1 c1
        have huz := hu.zero hz
        refine ⟨(by decide : (0 : Int) < 1), fun i hi => ?_, fun x y z _ => ?_⟩
        · rw [huz i hi]; show Dt (g i) 0 0 0 = _; unfold Dt; simp
        · show Dt (fun _ => 0) x y z = 0; unfold Dt; simp
      · have hr : rk0 (Pf g) = 1 := by unfold rk0; rw [E1, E2, E3]; simp [c1, c2, c3]
        rw [hr]
        obtain ⟨⟨k0, k1, k2⟩, k3, k4, k5⟩ := h.zq2 c3 c2
        show Sol g u u (e1 (Pf g))
        rw [E1]
        have hg : ∀ i, i < 3 → Dt (g i) (Dt (g 0) (u 0) (u 1) (u 2) - q1 g * u 0) (Dt (g 1) (u 0) (u 1) (u 2) - q1 g * u 1) (Dt (g 2) (u 0) (u 1) (u 2) - q1 g * u 2) = 0 :=
          lt3 (by rw [id_10 h.1, k1, k2, k3, k4]; simp) (by rw [id_11 h.1, k0, k2, k3, k5]; simp) (by rw [id_12 h.1, k0, k1, k4, k5]; simp)
        obtain ⟨z0, z1, z2⟩ := dev_z h.1 hu rfl rfl rfl hg
        exact ⟨by omega, lt3 (by omega) (by omega) (by omega), fun x y z hz => hu.null h.1 hz⟩
    · have hr : rk0 (Pf g) = 2 := by unfold rk0; rw [E1, E2, E3]; simp [c2, c3]
      rw [hr]
      generalize slvF (Pf g) (symF (Pf g)) u 2 = W at w0 w1 w2
      show Sol g u W (e2 (Pf g))
      rw [E2]
      rw [c3] at r0 r1 r2
      have x0 : Dt (g 0) (W 0) (W 1) (W 2) - q2 g * u 0 = -(p0 g * u 0 + a01 g * u 1 + a02 g * u 2) := by rw [w0, w1, w2, id_20 h.1]; omega
      have x1 : Dt (g 1) (W 0) (W 1) (W 2) - q2 g * u 1 = -(a01 g * u 0 + p1 g * u 1 + a12 g * u 2) := by rw [w0, w1, w2, id_21 h.1]; omega
      have x2 : Dt (g 2) (W 0) (W 1) (W 2) - q2 g * u 2 = -(a02 g * u 0 + a12 g * u 1 + p2 g * u 2) := by rw [w0, w1, w2, id_22 h.1]; omega
      have ng : ∀ (r : Nat → Int) (x y z : Int), Dt r (-x) (-y) (-z) = -Dt r x y z := fun r x y z => by unfold Dt; grind
      have hg : ∀ i, i < 3 → Dt (g i) (Dt (g 0) (W 0) (W 1) (W 2) - q2 g * u 0) (Dt (g 1) (W 0) (W 1) (W 2) - q2 g * u 1) (Dt (g 2) (W 0) (W 1) (W 2) - q2 g * u 2) = 0 := by
        rw [x0, x1, x2]
        exact lt3 (by rw [ng, id_ln, r0.1, r1.1, r2.1]; simp) (by rw [ng, id_ln, r0.2.1, r1.2.1, r2.2.1]; simp) (by rw [ng, id_ln, r0.2.2, r1.2.2, r2.2.2]; simp)
      obtain ⟨z0, z1, z2⟩ := dev_z h.1 hu rfl rfl rfl hg
      refine ⟨by omega, lt3 (by omega) (by omega) (by omega), fun x y z hz => ?_⟩
      have hp2 := hu.null h.1 hz
      have h0 := hz 0 (by omega); have h1 := hz 1 (by omega); have h2 := hz 2 (by omega)
      have : Dt W x y z = q1 g * Dt u x y z - (x * Dt (g 0) (u 0) (u 1) (u 2) + y * Dt (g 1) (u 0) (u 1) (u 2) + z * Dt (g 2) (u 0) (u 1) (u 2)) := by
        generalize Dt (g 0) (u 0) (u 1) (u 2) = A at w0 ⊢; generalize Dt (g 1) (u 0) (u 1) (u 2) = B at w1 ⊢; generalize Dt (g 2) (u 0) (u 1) (u 2) = C at w2 ⊢
        unfold Dt; rw [w0, w1, w2]
        generalize q1 g = Q
        generalize u 0 = a; generalize u 1 = b; generalize u 2 = c
        clear w0 w1 w2 x0 x1 x2 hg z0 z1 z2 hz hp2 h0 h1 h2 r0 r1 r2 w hu h
        grind
      rw [this, hp2, ← id_sw h.1, h0, h1, h2]; simp
  · have hr : rk0 (Pf g) = 3 := by unfold rk0; rw [E3]; simp [c3]
    rw [hr]
    have v : ∀ i, i < 3 → slvF (Pf g) (symF (Pf g)) u 3 i = q2 g * u i - Dt (g i) (slvF (Pf g) (symF (Pf g)) u 2 0) (slvF (Pf g) (symF (Pf g)) u 2 1) (slvF (Pf g) (symF (Pf g)) u 2 2) := fun i hi => by
      show symF (Pf g) 2 * u i - rp (Pf g) i _ _ _ = _
      rw [rp_q hi]; show e2 (Pf g) * _ - _ = _; rw [E2]
    have v0 := v 0 (by omega); have v1 := v 1 (by omega); have v2 := v 2 (by omega)
    rw [w0, w1, w2] at v0 v1 v2
    rw [id_20 h.1] at v0; rw [id_21 h.1] at v1; rw [id_22 h.1] at v2
    generalize slvF (Pf g) (symF (Pf g)) u 3 = V at v0 v1 v2
    show Sol g u V (e3 (Pf g))
    rw [E3]
    have y0 : V 0 = p0 g * u 0 + a01 g * u 1 + a02 g * u 2 := by omega
    have y1 : V 1 = a01 g * u 0 + p1 g * u 1 + a12 g * u 2 := by omega
    have y2 : V 2 = a02 g * u 0 + a12 g * u 1 + p2 g * u 2 := by omega
    refine ⟨by omega, ?_, fun x y z hz => ?_⟩
    · rw [y0, y1, y2]
      exact lt3 (by rw [id_ln, r0.1, r1.1, r2.1, Int.mul_comm (u 0)]; simp) (by rw [id_ln, r0.2.1, r1.2.1, r2.2.1, Int.mul_comm (u 1)]; simp) (by rw [id_ln, r0.2.2, r1.2.2, r2.2.2, Int.mul_comm (u 2)]; simp)
    · have h0 := hz 0 (by omega); have h1 := hz 1 (by omega); have h2 := hz 2 (by omega)
      have x0 := id_sw h.1 (p0 g) (a01 g) (a02 g) x y z
      have x1 := id_sw h.1 (a01 g) (p1 g) (a12 g) x y z
      have x2 := id_sw h.1 (a02 g) (a12 g) (p2 g) x y z
      rw [h0, h1, h2, r0.1, r0.2.1, r0.2.2] at x0
      rw [h0, h1, h2, r1.1, r1.2.1, r1.2.2] at x1
      rw [h0, h1, h2, r2.1, r2.2.1, r2.2.2] at x2
      simp only [Int.mul_zero, Int.zero_add, Int.add_zero] at x0 x1 x2
      have zx : x = 0 := by rcases Int.mul_eq_zero.mp x0.symm with q | q; exact q; omega
      have zy : y = 0 := by rcases Int.mul_eq_zero.mp x1.symm with q | q; exact q; omega
      have zz : z = 0 := by rcases Int.mul_eq_zero.mp x2.symm with q | q; exact q; omega
      rw [zx, zy, zz]; unfold Dt; simp
