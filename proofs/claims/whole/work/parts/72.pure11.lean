/-! pure: a solution at every bar, and only one -/
def Kt (M w e : Int) : Prop := (-M ≤ e ∧ e ≤ M) ∧ (0 < w → e = M) ∧ (w < 0 → e = -M)
def PdN (n : Nat) (g : M3) : Prop := SyM g ∧ ∀ x y z, (n ≤ 0 → x = 0) → (n ≤ 1 → y = 0) → (n ≤ 2 → z = 0) → ¬ (x = 0 ∧ y = 0 ∧ z = 0) → 0 < Qf g x y z
def OpN (n : Nat) (g : M3) (H : Nat → Int) (L : Int) (W : Nat → Int) (D : Int) : Prop := 0 < D ∧ (∀ c, c < 3 → n ≤ c → W c = 0) ∧ ∀ c, c < n → Kt (D * L) (W c) (D * H c - Dt (g c) (W 0) (W 1) (W 2))
theorem kt_mono {X Y p q M : Int} (hp : -M ≤ p ∧ p ≤ M) (hq : -M ≤ q ∧ q ≤ M) (x1 : 0 < X → q = M) (x2 : X < 0 → q = -M) (y1 : 0 < Y → p = M) (y2 : Y < 0 → p = -M) : (X - Y) * (p - q) ≤ 0 := by
  rcases Int.lt_trichotomy X 0 with h | h | h <;> rcases Int.lt_trichotomy Y 0 with k | k | k
  · rw [x2 h, y2 k]; simp
  · have := x2 h; exact Int.mul_nonpos_of_nonpos_of_nonneg (by omega) (by omega)
  · have := x2 h; exact Int.mul_nonpos_of_nonpos_of_nonneg (by omega) (by omega)
  · have := y2 k; exact Int.mul_nonpos_of_nonneg_of_nonpos (by omega) (by omega)
  · rw [h, k]; simp
  · have := y1 k; exact Int.mul_nonpos_of_nonpos_of_nonneg (by omega) (by omega)
  · have := x1 h; exact Int.mul_nonpos_of_nonneg_of_nonpos (by omega) (by omega)
  · have := x1 h; exact Int.mul_nonpos_of_nonneg_of_nonpos (by omega) (by omega)
  · rw [x1 h, y1 k]; simp
theorem pos_mul {a b : Int} (ha : 0 < a) : (0 < a * b ↔ 0 < b) ∧ (a * b < 0 ↔ b < 0) := by
  refine ⟨⟨fun h => ?_, fun h => Int.mul_pos ha h⟩, ⟨fun h => ?_, fun h => Int.mul_neg_of_pos_of_neg ha h⟩⟩
  · rcases Int.lt_or_le 0 b with k | k
    · exact k
    · have := Int.mul_nonpos_of_nonneg_of_nonpos (Int.le_of_lt ha) k; omega
  · rcases Int.lt_or_le b 0 with k | k
    · exact k
    · have := Int.mul_nonneg (Int.le_of_lt ha) k; omega
theorem kt_scale {F M w e : Int} (hF : 0 < F) (h : Kt M w e) : Kt (F * M) (F * w) (F * e) := by
  obtain ⟨⟨h1, h2⟩, h3, h4⟩ := h
  have a1 := Int.mul_le_mul_of_nonneg_left h1 (Int.le_of_lt hF)
  have a2 := Int.mul_le_mul_of_nonneg_left h2 (Int.le_of_lt hF)
  rw [Int.mul_neg] at a1
  refine ⟨⟨a1, a2⟩, fun q => ?_, fun q => ?_⟩
  · rw [h3 ((pos_mul hF).1.mp q)]
  · rw [h4 ((pos_mul hF).2.mp q), Int.mul_neg]
theorem kt_two {D E L w v e f : Int} (hD : 0 < D) (hE : 0 < E) (h : Kt (D * L) w e) (k : Kt (E * L) v f) : (E * w - D * v) * (D * f - E * e) ≤ 0 := by
  have a := kt_scale hE h
  have b := kt_scale hD k
  have e1 : D * (E * L) = E * (D * L) := by simp only [Int.mul_comm, Int.mul_left_comm, Int.mul_assoc]
  rw [e1] at b
  exact kt_mono b.1 a.1 a.2.1 a.2.2 b.2.1 b.2.2
theorem op_q (g : M3) (hs : SyM g) (H W V : Nat → Int) (D E : Int) : Qf g (E * W 0 - D * V 0) (E * W 1 - D * V 1) (E * W 2 - D * V 2) = (E * W 0 - D * V 0) * (D * (E * H 0 - Dt (g 0) (V 0) (V 1) (V 2)) - E * (D * H 0 - Dt (g 0) (W 0) (W 1) (W 2))) + (E * W 1 - D * V 1) * (D * (E * H 1 - Dt (g 1) (V 0) (V 1) (V 2)) - E * (D * H 1 - Dt (g 1) (W 0) (W 1) (W 2))) + (E * W 2 - D * V 2) * (D * (E * H 2 - Dt (g 2) (V 0) (V 1) (V 2)) - E * (D * H 2 - Dt (g 2) (W 0) (W 1) (W 2))) := by
  have h1 := hs 1 0; have h2 := hs 2 0; have h3 := hs 2 1
  unfold Qf Dt; rw [h1, h2, h3]; grind
theorem op_uniq {g : M3} {H W V : Nat → Int} {L D E : Int} (hg : PdN 3 g) (h : OpN 3 g H L W D) (k : OpN 3 g H L V E) : ∀ c, c < 3 → E * W c = D * V c := by
  have q := op_q g hg.1 H W V D E
  have t0 := kt_two h.1 k.1 (h.2.2 0 (by omega)) (k.2.2 0 (by omega))
  have t1 := kt_two h.1 k.1 (h.2.2 1 (by omega)) (k.2.2 1 (by omega))
  have t2 := kt_two h.1 k.1 (h.2.2 2 (by omega)) (k.2.2 2 (by omega))
  by_cases z : E * W 0 - D * V 0 = 0 ∧ E * W 1 - D * V 1 = 0 ∧ E * W 2 - D * V 2 = 0
  · exact lt3 (by omega) (by omega) (by omega)
  · have := hg.2 _ _ _ (fun q => absurd q (by omega)) (fun q => absurd q (by omega)) (fun q => absurd q (by omega)) z
    omega
theorem PdN.mono {n k : Nat} {g : M3} (h : PdN n g) (hk : k ≤ n) : PdN k g := ⟨h.1, fun x y z a b c q => h.2 x y z (fun w => a (by omega)) (fun w => b (by omega)) (fun w => c (by omega)) q⟩
theorem PdN.nn {n : Nat} {g : M3} (h : PdN n g) {x y z : Int} (a : n ≤ 0 → x = 0) (b : n ≤ 1 → y = 0) (c : n ≤ 2 → z = 0) : 0 ≤ Qf g x y z := by
  by_cases q : x = 0 ∧ y = 0 ∧ z = 0
  · rw [q.1, q.2.1, q.2.2]; unfold Qf; simp
  · exact Int.le_of_lt (h.2 x y z a b c q)
def scM (n : Nat) (g : M3) : M3 := fun i j => g n n * g i j - g n i * g n j
def scH (n : Nat) (g : M3) (H : Nat → Int) (T : Int) : Nat → Int := fun i => g n n * H i - g n i * T
def scV (n : Nat) (g : M3) (V : Nat → Int) (F T : Int) : Nat → Int := fun i => if i = n then F * T - Dt (g n) (V 0) (V 1) (V 2) else g n n * V i
theorem PdN.dg {n : Nat} {g : M3} (h : PdN (n + 1) g) (hn : n < 3) : 0 < g n n := by
  match n, hn with
  | 0, _ => have := h.2 1 0 0 (by omega) (by omega) (by omega) (by omega); unfold Qf at this; simpa using this
  | 1, _ => have := h.2 0 1 0 (by omega) (by omega) (by omega) (by omega); unfold Qf at this; simpa using this
  | 2, _ => have := h.2 0 0 1 (by omega) (by omega) (by omega) (by omega); unfold Qf at this; simpa using this
theorem sc_q1 (g : M3) (hs : SyM g) (x : Int) : g 1 1 * Qf (scM 1 g) x 0 0 = Qf g (g 1 1 * x) (-(g 1 0 * x)) 0 := by
  have h1 := hs 1 0
  unfold Qf scM; rw [h1]; grind
theorem sc_q2 (g : M3) (hs : SyM g) (x y : Int) : g 2 2 * Qf (scM 2 g) x y 0 = Qf g (g 2 2 * x) (g 2 2 * y) (-(g 2 0 * x + g 2 1 * y)) := by
  have h2 := hs 2 0; have h3 := hs 2 1
  unfold Qf scM; rw [h2, h3]; grind
theorem mz {a b : Int} (ha : 0 < a) (h : a * b = 0) : b = 0 := by rcases Int.mul_eq_zero.mp h with q | q; omega; exact q
theorem PdN.sc {n : Nat} {g : M3} (h : PdN (n + 1) g) (hn : n < 3) : PdN n (scM n g) := by
  have d := h.dg hn
  refine ⟨fun i j => by unfold scM; rw [h.1 i j, Int.mul_comm (g n i)], fun x y z a b c q => ?_⟩
  match n, hn with
  | 0, _ => exact absurd ⟨a (by omega), b (by omega), c (by omega)⟩ q
  | 1, _ =>
    have hy := b (by omega); have hz := c (by omega)
    subst hy; subst hz
    have k := sc_q1 g h.1 x
    have := h.2 (g 1 1 * x) (-(g 1 0 * x)) 0 (by omega) (by omega) (fun _ => rfl) (fun w => q ⟨mz d w.1, rfl, rfl⟩)
    rw [← k] at this
    exact (pos_mul d).1.mp this
  | 2, _ =>
    have hz := c (by omega)
    subst hz
    have k := sc_q2 g h.1 x y
    have := h.2 (g 2 2 * x) (g 2 2 * y) (-(g 2 0 * x + g 2 1 * y)) (by omega) (by omega) (by omega) (fun w => q ⟨mz d w.1, mz d w.2.1, rfl⟩)
    rw [← k] at this
    exact (pos_mul d).1.mp this
theorem sc_e {n : Nat} (g : M3) (hs : SyM g) (H V : Nat → Int) (F T : Int) (hn : n < 3) (hv : ∀ c, c < 3 → n ≤ c → V c = 0) : (∀ c, c < n → (g n n * F) * H c - Dt (g c) (scV n g V F T 0) (scV n g V F T 1) (scV n g V F T 2) = F * scH n g H T c - Dt (scM n g c) (V 0) (V 1) (V 2)) ∧ (g n n * F) * H n - Dt (g n) (scV n g V F T 0) (scV n g V F T 1) (scV n g V F T 2) = g n n * F * (H n - T) := by
  match n, hn with
  | 0, _ =>
    have e0 := hv 0 (by omega) (by omega); have e1 := hv 1 (by omega) (by omega); have e2 := hv 2 (by omega) (by omega)
    refine ⟨fun c hc => by omega, ?_⟩
    simp only [scV, e0, e1, e2, Dt]; simp; grind
  | 1, _ =>
    have e1 := hv 1 (by omega) (by omega); have e2 := hv 2 (by omega) (by omega)
    have h1 := hs 1 0
    refine ⟨fun c hc => ?_, ?_⟩
    · have : c = 0 := by omega
      subst this
      simp only [scV, scH, scM, e1, e2, Dt]; simp; rw [h1]; grind
    · simp only [scV, e1, e2, Dt]; simp; grind
  | 2, _ =>
    have e2 := hv 2 (by omega) (by omega)
    have h2 := hs 2 0; have h3 := hs 2 1; have h1 := hs 1 0
    refine ⟨fun c hc => ?_, ?_⟩
    · have : c = 0 ∨ c = 1 := by omega
      rcases this with e | e <;> subst e <;> simp only [scV, scH, scM, e2, Dt] <;> simp <;> rw [h2, h3] <;> grind
    · simp only [scV, e2, Dt]; simp; grind
theorem op_ex : ∀ n, n ≤ 3 → ∀ (g : M3) (H : Nat → Int) (L : Int), PdN n g → 0 ≤ L → ∃ W D, OpN n g H L W D
  | 0, _, g, H, L, _, _ => ⟨fun _ => 0, 1, by decide, fun _ _ _ => rfl, fun c hc => absurd hc (Nat.not_lt_zero _)⟩
  | n + 1, hn, g, H, L, hg, hL => by
    obtain ⟨W, D, hD, hW0, hW⟩ := op_ex n (by omega) g H L (hg.mono (by omega)) hL
    have d := hg.dg (show n < 3 by omega)
    have hDL : 0 ≤ D * L := Int.mul_nonneg (Int.le_of_lt hD) hL
    by_cases q : -(D * L) ≤ D * H n - Dt (g n) (W 0) (W 1) (W 2) ∧ D * H n - Dt (g n) (W 0) (W 1) (W 2) ≤ D * L
    · refine ⟨W, D, hD, fun c h1 h2 => hW0 c h1 (by omega), fun c hc => ?_⟩
      by_cases e : c = n
      · subst e
        have w0 := hW0 c (by omega) (Nat.le_refl _)
        exact ⟨q, fun h => by omega, fun h => by omega⟩
      · exact hW c (by omega)
    · have tau : ∃ τ : Int, (τ = 1 ∨ τ = -1) ∧ D * L < τ * (D * H n - Dt (g n) (W 0) (W 1) (W 2)) := by
        rcases Int.lt_or_le (D * L) (D * H n - Dt (g n) (W 0) (W 1) (W 2)) with r | r
        · exact ⟨1, Or.inl rfl, by omega⟩
        · exact ⟨-1, Or.inr rfl, by omega⟩
      obtain ⟨τ, hτ, ht⟩ := tau
      obtain ⟨V, F, hF, hV0, hV⟩ := op_ex n (by omega) (scM n g) (scH n g H (H n - τ * L)) (g n n * L) (hg.sc (by omega)) (Int.mul_nonneg (Int.le_of_lt d) hL)
      obtain ⟨s1, s2⟩ := sc_e g hg.1 H V F (H n - τ * L) (show n < 3 by omega) hV0
      have hE : 0 < g n n * F := Int.mul_pos d hF
      have e3 : H n - (H n - τ * L) = τ * L := by omega
      rw [e3] at s2
      generalize hU : scV n g V F (H n - τ * L) = U at s1 s2
      generalize hEE : g n n * F = E at s1 s2 hE
      have Ui : ∀ c, c < n → U c = g n n * V c := fun c hc => by rw [← hU]; unfold scV; rw [if_neg (by omega)]
      have U0 : ∀ c, c < 3 → n + 1 ≤ c → U c = 0 := fun c h1 h2 => by rw [← hU]; unfold scV; rw [if_neg (by omega), hV0 c h1 (by omega)]; simp
      have hUk : ∀ c, c < n → Kt (E * L) (U c) (E * H c - Dt (g c) (U 0) (U 1) (U 2)) := fun c hc => by
        have := hV c hc
        rw [Ui c hc, s1 c hc]
        have e4 : F * (g n n * L) = E * L := by rw [← hEE]; simp only [Int.mul_comm, Int.mul_left_comm, Int.mul_assoc]
        rw [e4] at this
        exact ⟨this.1, fun w => this.2.1 ((pos_mul d).1.mp w), fun w => this.2.2 ((pos_mul d).2.mp w)⟩
      have hEL : 0 ≤ E * L := Int.mul_nonneg (Int.le_of_lt hE) hL
      have s3 : E * (τ * L) = τ * (E * L) := by simp only [Int.mul_comm, Int.mul_left_comm, Int.mul_assoc]
      rw [s3] at s2
      by_cases sg : 0 ≤ τ * U n
      · refine ⟨U, E, hE, U0, fun c hc => ?_⟩
        by_cases e : c = n
        · subst e
          rw [s2]
          rcases hτ with r | r <;> subst r <;> exact ⟨by omega, fun w => by omega, fun w => by omega⟩
        · exact hUk c (by omega)
      · exfalso
        have Q := op_q g hg.1 H W U D E
        have t : ∀ c, c < n → (E * W c - D * U c) * (D * (E * H c - Dt (g c) (U 0) (U 1) (U 2)) - E * (D * H c - Dt (g c) (W 0) (W 1) (W 2))) ≤ 0 := fun c hc => kt_two hD hE (hW c hc) (hUk c hc)
        have wn := hW0 n (by omega) (Nat.le_refl _)
        have tn : (E * W n - D * U n) * (D * (E * H n - Dt (g n) (U 0) (U 1) (U 2)) - E * (D * H n - Dt (g n) (W 0) (W 1) (W 2))) < 0 := by
          rw [wn, s2]
          generalize D * H n - Dt (g n) (W 0) (W 1) (W 2) = ee at *
          have a1 := Int.mul_neg_of_pos_of_neg hD (show τ * U n < 0 by omega)
          have a2 := Int.mul_lt_mul_of_pos_left ht hE
          have a3 : E * (D * L) = D * (E * L) := by simp only [Int.mul_comm, Int.mul_left_comm, Int.mul_assoc]
          have a4 : 0 < -(D * (τ * U n)) := by omega
          have a5 : D * (E * L) - E * (τ * ee) < 0 := by omega
          have a6 := Int.mul_neg_of_pos_of_neg a4 a5
          have a7 : (E * 0 - D * U n) * (D * (τ * (E * L)) - E * ee) = -(D * (τ * U n)) * (D * (E * L) - E * (τ * ee)) := by
            rcases hτ with r | r <;> subst r <;> grind
          rw [a7]; exact a6
        have z : ∀ c, c < 3 → n + 1 ≤ c → E * W c - D * U c = 0 := fun c h1 h2 => by rw [hW0 c h1 (by omega), U0 c h1 h2]; simp
        have nn := hg.nn (x := E * W 0 - D * U 0) (y := E * W 1 - D * U 1) (z := E * W 2 - D * U 2) (fun w => z 0 (by omega) w) (fun w => z 1 (by omega) w) (fun w => z 2 (by omega) w)
        rw [Q] at nn
        match n, hn with
        | 0, _ =>
          have z1 := z 1 (by omega) (by omega); have z2 := z 2 (by omega) (by omega)
          rw [z1, z2] at nn; simp only [Int.zero_mul] at nn; omega
        | 1, _ =>
          have z2 := z 2 (by omega) (by omega); have t0 := t 0 (by omega)
          rw [z2] at nn; simp only [Int.zero_mul] at nn; omega
        | 2, _ =>
          have t0 := t 0 (by omega); have t1 := t 1 (by omega)
          omega
