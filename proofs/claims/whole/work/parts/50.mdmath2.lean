/-! the reference: solving, ranks, fits -/
theorem detM_congr {M N : Nat → Nat → Int} {n : Nat} (hn : n ≤ 3) (h : ∀ a b, a < n → b < n → M a b = N a b) : detM M n = detM N n := by
  unfold detM minM r1 r2
  match n, hn with
  | 0, _ => rfl
  | 1, _ => simp [h 0 0 (by omega) (by omega)]
  | 2, _ => simp [h 0 0 (by omega) (by omega), h 0 1 (by omega) (by omega), h 1 0 (by omega) (by omega), h 1 1 (by omega) (by omega)]
  | 3, _ => simp [h 0 0 (by omega) (by omega), h 0 1 (by omega) (by omega), h 0 2 (by omega) (by omega), h 1 0 (by omega) (by omega), h 1 1 (by omega) (by omega), h 1 2 (by omega) (by omega), h 2 0 (by omega) (by omega), h 2 1 (by omega) (by omega), h 2 2 (by omega) (by omega)]
theorem minM_congr {M N : Nat → Nat → Int} (h : ∀ a b, a < 3 → b < 3 → M a b = N a b) (r c : Nat) : minM M r c = minM N r c := by
  unfold minM
  rw [h _ _ (r1_lt r) (r1_lt c), h _ _ (r2_lt r) (r2_lt c), h _ _ (r1_lt r) (r2_lt c), h _ _ (r2_lt r) (r1_lt c)]
theorem cofM_congr {M N : Nat → Nat → Int} {n r c : Nat} (hn : n ≤ 3) (h : ∀ a b, a < n → b < n → M a b = N a b) (hr : r < n) (hc : c < n) : cofM M n r c = cofM N n r c := by
  unfold cofM
  match n, hn with
  | 1, _ => simp
  | 2, _ => simp [h (1 - r) (1 - c) (by omega) (by omega)]
  | 3, _ => simp [minM_congr h]
theorem crS_congr {M N : Nat → Nat → Int} {v u : Nat → Int} {n c : Nat} (hn : n ≤ 3) (h : ∀ a b, a < n → b < n → M a b = N a b) (hv : ∀ r, r < n → v r = u r) (hc : c < n) : ∀ r, r ≤ n → crS M v n c r = crS N u n c r
  | 0, _ => rfl
  | r + 1, hr => by
    show crS M v n c r + _ = crS N u n c r + _
    rw [crS_congr hn h hv hc r (by omega), cofM_congr hn h (by omega) hc, hv r (by omega)]
theorem SlR.congr {M N : Nat → Nat → Int} {v u W : Nat → Int} {n : Nat} {den : Int} (hs : SlR M v n W den) (hn : n ≤ 3) (h : ∀ a b, a < n → b < n → M a b = N a b) (hv : ∀ r, r < n → v r = u r) : SlR N u n W den := by
  obtain ⟨s, h0, h1, h2, h3⟩ := hs
  exact ⟨s, h0, by rw [← detM_congr hn h]; exact h1, h2, fun c hc => by rw [← crS_congr hn h hv hc n (Nat.le_refl _)]; exact h3 c hc⟩
theorem SmM.congr {M N : Nat → Nat → Int} {v u : Nat → Int} {n : Nat} (hs : SmM M v n) (h : ∀ a b, a < n → b < n → N a b = M a b) (hv : ∀ r, r < n → u r = v r) : SmM N u n :=
  ⟨fun r c hr hc => by rw [h r c hr hc]; exact hs.1 r c hr hc, fun r hr => by rw [hv r hr]; exact hs.2 r hr⟩
theorem cof_j2 {M : Nat → Nat → Int} {n r c : Nat} {j : Int}
    (h : (¬ ((n : Nat) : Int) = 1 ∧ ¬ ((n : Nat) : Int) = 2 ∧ ¬ (((r + c) % 2 : Nat) : Int) = 0 ∧ j = -minM M r c) ∨ (¬ ((n : Nat) : Int) = 1 ∧ ¬ ((n : Nat) : Int) = 2 ∧ (((r + c) % 2 : Nat) : Int) = 0 ∧ j = minM M r c) ∨ (¬ ((n : Nat) : Int) = 1 ∧ ((n : Nat) : Int) = 2 ∧ ¬ (((r + c) % 2 : Nat) : Int) = 0 ∧ j = -M (1 - r) (1 - c)) ∨ (¬ ((n : Nat) : Int) = 1 ∧ ((n : Nat) : Int) = 2 ∧ (((r + c) % 2 : Nat) : Int) = 0 ∧ j = M (1 - r) (1 - c)) ∨ (((n : Nat) : Int) = 1 ∧ j = 1)) : j = cofM M n r c := by
  unfold cofM
  rcases h with ⟨h1, h2, h3, e⟩ | ⟨h1, h2, h3, e⟩ | ⟨h1, h2, h3, e⟩ | ⟨h1, h2, h3, e⟩ | ⟨h1, e⟩
  · rw [if_neg (by omega), if_neg (by omega), if_neg (by omega), e]
  · rw [if_neg (by omega), if_neg (by omega), if_pos (by omega), e]
  · rw [if_neg (by omega), if_pos (by omega), if_neg (by omega), e]
  · rw [if_neg (by omega), if_pos (by omega), if_pos (by omega), e]
  · rw [if_pos (by omega), e]
def GcI (d f : Int) (w : Nat → Int) (c : Nat) : Prop := 0 < f ∧ f ≤ d ∧ f ∣ d ∧ ∀ j, j < c → f ∣ w j
theorem GcI.init {d : Int} {w : Nat → Int} (h : 0 < d) : GcI d d w 0 := ⟨h, Int.le_refl _, Int.dvd_refl _, fun j hj => absurd hj (Nat.not_lt_zero _)⟩
theorem GcI.step {d f : Int} {w : Nat → Int} {c : Nat} (h : GcI d f w c) : GcI d ((Int.gcd f (w c) : Nat) : Int) w (c + 1) := by
  obtain ⟨h1, h2, h3, h4⟩ := h
  have hd := Int.gcd_dvd_left f (w c)
  have hp : 0 < Int.gcd f (w c) := Int.gcd_pos_of_ne_zero_left _ (by omega)
  have hle : ((Int.gcd f (w c) : Nat) : Int) ≤ f := Int.le_of_dvd h1 hd
  refine ⟨by omega, by omega, Int.dvd_trans hd h3, fun j hj => ?_⟩
  by_cases e : j = c
  · subst e; exact Int.gcd_dvd_right f (w j)
  · exact Int.dvd_trans hd (h4 j (by omega))
theorem GcI.s {d f : Int} {w : Nat → Int} {c j : Nat} {s D : Int} (h : GcI d f w c) (hk : (0 ≤ D ∧ s = f) ∨ (¬ 0 ≤ D ∧ s = -f)) (hj : j < c) : s ∣ w j := by
  have := h.2.2.2 j hj
  rcases hk with ⟨-, e⟩ | ⟨-, e⟩ <;> rw [e]
  · exact this
  · exact Int.neg_dvd.mpr this
theorem sl_out {M : Nat → Nat → Int} {v W w9 : Nat → Int} {n : Nat} {d f s dn2 : Int} (h165 : (0 ≤ detM M n ∧ d = detM M n) ∨ (¬ 0 ≤ detM M n ∧ d = -detM M n)) (h215 : (0 ≤ detM M n ∧ s = f) ∨ (¬ 0 ≤ detM M n ∧ s = -f)) (hf : GcI d f w9 n) (e : dn2 = d.tdiv f) (hW : ∀ j, j < n → w9 j = s * W j) (hw : ∀ j, j < n → w9 j = crS M v n j n) (hd : detM M n ≠ 0) : SlR M v n W dn2 := by
  obtain ⟨h1, h2, h3, -⟩ := hf
  have hm := Int.mul_tdiv_cancel' h3
  rw [← e] at hm
  have hp : 0 < dn2 := by
    rcases Int.lt_or_le 0 dn2 with h | h
    · exact h
    · have := Int.mul_nonpos_of_nonneg_of_nonpos (Int.le_of_lt h1) h
      omega
  refine ⟨s, by omega, ?_, hp, fun c hc => by rw [← hw c hc]; exact hW c hc⟩
  rcases h165 with ⟨a, b⟩ | ⟨a, b⟩ <;> rcases h215 with ⟨c, g⟩ | ⟨c, g⟩
  · rw [g, hm, b]
  · omega
  · omega
  · rw [g, Int.neg_mul, hm, b, Int.neg_neg]
def DvI (w9 w8 : Nat → Int) (s : Int) (c : Nat) : Prop := (∀ j, j < c → w9 j = s * w8 j) ∧ ∀ j, c ≤ j → w8 j = w9 j
theorem DvI.init {w : Nat → Int} {s : Int} : DvI w w s 0 := ⟨fun j h => absurd h (Nat.not_lt_zero _), fun j _ => rfl⟩
theorem DvI.step {w9 w8 : Nat → Int} {s x : Int} {c : Nat} (h : DvI w9 w8 s c) (hd : s ∣ w9 c) (e : x = (w8 c).tdiv s) : DvI w9 (upZ w8 c x) s (c + 1) := by
  obtain ⟨h1, h2⟩ := h
  refine ⟨fun j hj => ?_, fun j hj => by rw [upZ_n _ _ (by omega)]; exact h2 j (by omega)⟩
  by_cases e2 : j = c
  · subst e2; rw [upZ_s, e, h2 j (Nat.le_refl _), Int.mul_tdiv_cancel' hd]
  · rw [upZ_n _ _ e2]; exact h1 j (by omega)
def crX (G : Nat → Nat → Int) (p q c : Nat) : Int := if c = 0 then G p 1 * G q 2 - G p 2 * G q 1 else if c = 1 then G p 2 * G q 0 - G p 0 * G q 2 else G p 0 * G q 1 - G p 1 * G q 0
def CrR (G : Nat → Nat → Int) (p q : Nat) (nr : Nat → Int) : Prop := (∃ f : Int, 0 < f ∧ ∀ c, c < 3 → crX G p q c = f * nr c) ∧ ∀ c, c < 3 → -7558272 ≤ nr c ∧ nr c ≤ 7558272
theorem crX_bd {G : Nat → Nat → Int} {p q c : Nat} (h : ∀ c, c < 3 → (-1944 ≤ G p c ∧ G p c ≤ 1944) ∧ (-1944 ≤ G q c ∧ G q c ≤ 1944)) : -7558272 ≤ crX G p q c ∧ crX G p q c ≤ 7558272 := by
  have a0 := h 0 (by omega); have a1 := h 1 (by omega); have a2 := h 2 (by omega)
  have b1 := mul_bd a1.1 a2.2; have b2 := mul_bd a2.1 a1.2; have b3 := mul_bd a2.1 a0.2; have b4 := mul_bd a0.1 a2.2; have b5 := mul_bd a0.1 a1.2; have b6 := mul_bd a1.1 a0.2
  unfold crX
  split
  · omega
  · split <;> omega
theorem crX_arr {G : Nat → Nat → Int} {p q : Nat} {nr : Nat → Int} {x0 x1 x2 : Int} (h0 : x0 = G p 1 * G q 2 - G p 2 * G q 1) (h1 : x1 = G p 2 * G q 0 - G p 0 * G q 2) (h2 : x2 = G p 0 * G q 1 - G p 1 * G q 0) : ∀ c, c < 3 → upZ (upZ (upZ nr 0 x0) 1 x1) 2 x2 c = crX G p q c := by
  intro c hc
  unfold crX
  match c, hc with
  | 0, _ => simp [upZ, h0]
  | 1, _ => simp [upZ, h1]
  | 2, _ => simp [upZ, h2]
theorem CrR.of {G : Nat → Nat → Int} {p q i : Nat} {n9 n8 : Nat → Int} {f : Int} (hb : ∀ c, c < 3 → -7558272 ≤ crX G p q c ∧ crX G p q c ≤ 7558272) (hn : ∀ c, c < 3 → n9 c = crX G p q c) (h : DvI n9 n8 f i) (hi : i = 0 ∨ 1 < f) (hx : 3 ≤ i ∨ f ≤ 1) : CrR G p q n8 := by
  by_cases e : i = 0
  · subst e
    refine ⟨⟨1, by decide, fun c hc => ?_⟩, fun c hc => ?_⟩
    · rw [h.2 c (Nat.zero_le _), hn c hc]; omega
    · rw [h.2 c (Nat.zero_le _), hn c hc]; exact hb c hc
  · have hf : 1 < f := by omega
    refine ⟨⟨f, by omega, fun c hc => ?_⟩, fun c hc => ?_⟩
    · rw [← hn c hc]; exact h.1 c (by omega)
    · have h1 := h.1 c (by omega)
      have h2 := hb c hc
      rw [hn c hc] at h1
      have h3 : ((n8 c).natAbs : Int) ≤ ((crX G p q c).natAbs : Int) := by
        rw [h1, Int.natAbs_mul]
        have : 1 * (n8 c).natAbs ≤ f.natAbs * (n8 c).natAbs := Nat.mul_le_mul_right _ (by omega)
        omega
      omega
def RkI (G : Nat → Nat → Int) (k a b rr : Nat) : Prop := (rr = 0 ∧ ∀ i j, i < k → j < k → (i < a ∨ (i = a ∧ j < b)) → G i j = 0) ∨ (rr = 1 ∧ ∃ i j, i < k ∧ j < k ∧ G i j ≠ 0)
theorem RkI.init {G : Nat → Nat → Int} {k : Nat} : RkI G k 0 0 0 := Or.inl ⟨rfl, fun i j _ _ h => by omega⟩
theorem RkI.next {G : Nat → Nat → Int} {k a b rr : Nat} (h : RkI G k a b rr) (hb : k ≤ b) : RkI G k (a + 1) 0 rr := by
  rcases h with ⟨e, h⟩ | h
  · exact Or.inl ⟨e, fun i j hi hj h2 => h i j hi hj (by omega)⟩
  · exact Or.inr h
theorem RkI.step {G : Nat → Nat → Int} {k a b rr r' : Nat} (h : RkI G k a b rr) (ha : a < k) (hb : b < k) (hj : (G a b = 0 ∧ r' = rr) ∨ (¬ G a b = 0 ∧ r' = 1)) : RkI G k a (b + 1) r' := by
  rcases hj with ⟨h1, rfl⟩ | ⟨h1, rfl⟩
  · rcases h with ⟨e, h⟩ | h
    · refine Or.inl ⟨e, fun i j hi hj h2 => ?_⟩
      by_cases e2 : i = a ∧ j = b
      · rw [e2.1, e2.2]; exact h1
      · exact h i j hi hj (by omega)
    · exact Or.inr h
  · exact Or.inr ⟨rfl, a, b, ha, hb, h1⟩
theorem RkI.le {G : Nat → Nat → Int} {k a b rr : Nat} (h : RkI G k a b rr) : rr ≤ 1 := by rcases h with h | h <;> omega
def RkR (G : Nat → Nat → Int) (k r : Nat) (on tw : Int) (nr : Nat → Int) : Prop :=
  (detM G k ≠ 0 ∧ r = k) ∨ (detM G k = 0 ∧ k = 3 ∧ r = 2 ∧ (∃ i, i < 3 ∧ on = ((r1 i : Nat) : Int) ∧ tw = ((r2 i : Nat) : Int) ∧ CrR G (r1 i) (r2 i) nr) ∧ ¬ (nr 0 = 0 ∧ nr 1 = 0 ∧ nr 2 = 0)) ∨
  (detM G k = 0 ∧ (k = 3 → ∀ i, i < 3 → ∀ c, c < 3 → crX G (r1 i) (r2 i) c = 0) ∧ ((r = 1 ∧ ∃ a b, a < k ∧ b < k ∧ G a b ≠ 0) ∨ (r = 0 ∧ ∀ a b, a < k → b < k → G a b = 0)))
theorem RkR.zero {G : Nat → Nat → Int} {k r a : Nat} {on tw : Int} {nr : Nat → Int} (hd : detM G k = 0) (hr : RkI G k a 0 r) (ha : k ≤ a) (hz : k = 3 → ∀ i, i < 3 → ∀ c, c < 3 → crX G (r1 i) (r2 i) c = 0) : RkR G k r on tw nr := by
  refine Or.inr (Or.inr ⟨hd, hz, ?_⟩)
  rcases hr with ⟨e, h⟩ | h
  · exact Or.inr ⟨e, fun a b ha hb => h a b ha hb (by omega)⟩
  · exact Or.inl h
theorem cr_zero {G : Nat → Nat → Int} {p q : Nat} {nr : Nat → Int} (h : CrR G p q nr) (h0 : nr 0 = 0) (h1 : nr 1 = 0) (h2 : nr 2 = 0) : ∀ c, c < 3 → crX G p q c = 0 := by
  obtain ⟨⟨f, -, hf⟩, -⟩ := h
  intro c hc
  rw [hf c hc]
  match c, hc with
  | 0, _ => rw [h0]; simp
  | 1, _ => rw [h1]; simp
  | 2, _ => rw [h2]; simp
theorem RkR.full {G : Nat → Nat → Int} {k r : Nat} {on tw : Int} {nr : Nat → Int} (h : RkR G k r on tw nr) (hk : k ≤ 3) (e : r = k) : detM G k ≠ 0 := by
  rcases h with h | h | ⟨h1, -, h3⟩
  · exact h.1
  · omega
  · intro h0
    rcases h3 with ⟨h4, a, b, ha, hb, h5⟩ | ⟨h4, -⟩
    · have : k = 1 := by omega
      subst this
      have ea : a = 0 := by omega
      have eb : b = 0 := by omega
      subst ea; subst eb
      exact h5 h0
    · have : k = 0 := by omega
      subst this
      simp [detM] at h0
theorem RkR.two {G : Nat → Nat → Int} {k r : Nat} {on tw : Int} {nr : Nat → Int} (h : RkR G k r on tw nr) (e : ¬ r = k) (e2 : r = 2) : detM G k = 0 ∧ k = 3 ∧ (∃ i, i < 3 ∧ on = ((r1 i : Nat) : Int) ∧ tw = ((r2 i : Nat) : Int) ∧ CrR G (r1 i) (r2 i) nr) ∧ ¬ (nr 0 = 0 ∧ nr 1 = 0 ∧ nr 2 = 0) := by
  rcases h with h | h | ⟨h1, -, h3⟩
  · exact absurd h.2 e
  · exact ⟨h.1, h.2.1, h.2.2.2⟩
  · omega
theorem RkR.low {G : Nat → Nat → Int} {k r : Nat} {on tw : Int} {nr : Nat → Int} (h : RkR G k r on tw nr) (e : ¬ r = k) (e2 : ¬ r = 2) : detM G k = 0 ∧ (k = 3 → ∀ i, i < 3 → ∀ c, c < 3 → crX G (r1 i) (r2 i) c = 0) ∧ ((r = 1 ∧ ∃ a b, a < k ∧ b < k ∧ G a b ≠ 0) ∨ (r = 0 ∧ ∀ a b, a < k → b < k → G a b = 0)) := by
  rcases h with h | h | h
  · exact absurd h.2 e
  · omega
  · exact h
theorem RkR.le {G : Nat → Nat → Int} {k r : Nat} {on tw : Int} {nr : Nat → Int} (h : RkR G k r on tw nr) (hk : k ≤ 3) : r ≤ 3 := by
  rcases h with h | h | ⟨-, -, h⟩ <;> omega
/-! along one row -/
def alD (G : Nat → Nat → Int) (a : Nat) (f : Int) (j : Nat) : Int := (G a j).tdiv f
def alT (d u : Nat → Int) : Nat → Int
  | 0 => 0
  | c + 1 => alT d u c + d c * u c
def alI (G : Nat → Nat → Int) (d : Nat → Int) (c : Nat) : Nat → Int
  | 0 => 0
  | b + 1 => alI G d c b + d c * G c b * d b
def alL (G : Nat → Nat → Int) (d : Nat → Int) (k : Nat) : Nat → Int
  | 0 => 0
  | c + 1 => alL G d k c + alI G d c k
def AlR (G : Nat → Nat → Int) (k : Nat) (u : Nat → Int) (r : Nat) (W : Nat → Int) (den : Int) : Prop := (r = 0 ∧ den = 1 ∧ ∀ c, c < k → W c = 0) ∨ (r = 1 ∧ ∃ (a : Nat) (f : Int), a < k ∧ G a a ≠ 0 ∧ 0 < f ∧ (∀ c, c < k → f ∣ G a c) ∧ den = alL G (alD G a f) k k ∧ ∀ c, c < k → W c = alT (alD G a f) u k * alD G a f c)
def AgI (G : Nat → Nat → Int) (a c : Nat) (f : Int) : Prop := (0 ≤ f ∧ f ≤ 1944) ∧ (f = 0 → ∀ j, j < c → G a j = 0) ∧ ∀ j, j < c → f ∣ G a j
theorem AgI.init {G : Nat → Nat → Int} {a : Nat} : AgI G a 0 0 := ⟨by decide, fun _ j h => absurd h (Nat.not_lt_zero _), fun j h => absurd h (Nat.not_lt_zero _)⟩
theorem AgI.step {G : Nat → Nat → Int} {a c : Nat} {f : Int} (h : AgI G a c f) (hb : -1944 ≤ G a c ∧ G a c ≤ 1944) : AgI G a (c + 1) ((Int.gcd f (G a c) : Nat) : Int) := by
  obtain ⟨h1, h2, h3⟩ := h
  have hd := Int.gcd_dvd_left f (G a c)
  have hd2 := Int.gcd_dvd_right f (G a c)
  refine ⟨⟨by omega, ?_⟩, fun h0 j hj => ?_, fun j hj => ?_⟩
  · by_cases e : f = 0
    · subst e; rw [Int.zero_gcd]; omega
    · have := Int.le_of_dvd (by omega) hd; omega
  · have h0' : Int.gcd f (G a c) = 0 := by omega
    have := Int.gcd_eq_zero_iff.mp h0'
    by_cases e : j = c
    · subst e; exact this.2
    · exact h2 this.1 j (by omega)
  · by_cases e : j = c
    · subst e; exact hd2
    · exact Int.dvd_trans hd (h3 j (by omega))
theorem AgI.pos {G : Nat → Nat → Int} {a c : Nat} {f : Int} (h : AgI G a c f) (ha : a < c) (h0 : ¬ G a a = 0) : 0 < f := by
  rcases Int.lt_or_le 0 f with h1 | h1
  · exact h1
  · exact absurd (h.2.1 (by have := h.1.1; omega) a ha) h0
/-! the fit -/
def rwM (G : Nat → Nat → Int) (i : Nat) (nr : Nat → Int) : Nat → Nat → Int := fun r c => if r = 0 then G (r1 i) c else if r = 1 then G (r2 i) c else nr c
def vcM (u : Nat → Int) (i : Nat) : Nat → Int := fun r => if r = 0 then u (r1 i) else if r = 1 then u (r2 i) else 0
def FitR (G : Nat → Nat → Int) (k : Nat) (u : Nat → Int) (W : Nat → Int) (den : Int) : Prop :=
  (detM G k ≠ 0 ∧ SlR G u k W den) ∨
  (detM G k = 0 ∧ k = 3 ∧ ∃ (i : Nat) (nr : Nat → Int), i < 3 ∧ CrR G (r1 i) (r2 i) nr ∧ ¬ (nr 0 = 0 ∧ nr 1 = 0 ∧ nr 2 = 0) ∧ SlR (rwM G i nr) (vcM u i) 3 W den) ∨
  (detM G k = 0 ∧ (k = 3 → ∀ i, i < 3 → ∀ c, c < 3 → crX G (r1 i) (r2 i) c = 0) ∧ ∃ r, ((r = 1 ∧ ∃ a b, a < k ∧ b < k ∧ G a b ≠ 0) ∨ (r = 0 ∧ ∀ a b, a < k → b < k → G a b = 0)) ∧ AlR G k u r W den)
theorem rw_det {G : Nat → Nat → Int} {i : Nat} {nr : Nat → Int} (h : CrR G (r1 i) (r2 i) nr) (hn : ¬ (nr 0 = 0 ∧ nr 1 = 0 ∧ nr 2 = 0)) : detM (rwM G i nr) 3 ≠ 0 := by
  obtain ⟨⟨f, hf, h1⟩, -⟩ := h
  have e0 := h1 0 (by omega); have e1 := h1 1 (by omega); have e2 := h1 2 (by omega)
  simp only [crX, if_true, if_false, Nat.one_ne_zero, (by decide : ¬ (2 : Nat) = 0), (by decide : ¬ (2 : Nat) = 1)] at e0 e1 e2
  have e : detM (rwM G i nr) 3 = f * (nr 0 * nr 0 + nr 1 * nr 1 + nr 2 * nr 2) := by
    simp [detM, minM, rwM, show r1 0 = 1 from rfl, show r2 0 = 2 from rfl, show r1 1 = 0 from rfl, show r2 1 = 2 from rfl, show r1 2 = 0 from rfl, show r2 2 = 1 from rfl]
    grind
  rw [e]
  intro h0
  have sq : ∀ x : Int, 0 ≤ x * x := fun x => by
    rcases Int.le_total 0 x with h | h
    · exact Int.mul_nonneg h h
    · exact Int.mul_nonneg_of_nonpos_of_nonpos h h
  have s0 := sq (nr 0); have s1 := sq (nr 1); have s2 := sq (nr 2)
  rcases Int.mul_eq_zero.mp h0 with h2 | h2
  · omega
  · have z0 : nr 0 * nr 0 = 0 := by omega
    have z1 : nr 1 * nr 1 = 0 := by omega
    have z2 : nr 2 * nr 2 = 0 := by omega
    refine hn ⟨?_, ?_, ?_⟩
    · rcases Int.mul_eq_zero.mp z0 with h | h <;> exact h
    · rcases Int.mul_eq_zero.mp z1 with h | h <;> exact h
    · rcases Int.mul_eq_zero.mp z2 with h | h <;> exact h
def mis (yy dn : Int) (h w : Nat → Int) : Nat → Int
  | 0 => yy * dn
  | c + 1 => mis yy dn h w c - h c * w c
theorem cpm_step {Gm M8 : Nat → Nat → Int} {nn i j : Nat} (h8 : ∀ a b, a < nn → b < nn → (a < i ∨ (a = i ∧ b < j)) → M8 a b = Gm a b) : ∀ a b, a < nn → b < nn → (a < i ∨ (a = i ∧ b < j + 1)) → up2 M8 i j (Gm i j) a b = Gm a b := by
  intro a b ha hb h
  by_cases e : a = i ∧ b = j
  · obtain ⟨rfl, rfl⟩ := e; rw [up2_s]
  · rw [up2_n _ _ e]; exact h8 a b ha hb (by omega)
theorem gcd_b (a b : Int) : 0 ≤ ((Int.gcd a b : Nat) : Int) ∧ ((Int.gcd a b : Nat) : Int) ≤ (a.natAbs : Int) + (b.natAbs : Int) := by
  refine ⟨by omega, ?_⟩
  by_cases e : a = 0
  · subst e; rw [Int.zero_gcd]; omega
  · have : Int.gcd a b ≤ a.natAbs := Nat.gcd_le_left _ (by omega)
    omega
theorem n3_b {n9 : Nat → Int} {i : Nat} (h0 : -7558272 ≤ n9 0 ∧ n9 0 ≤ 7558272) (h1 : -7558272 ≤ n9 1 ∧ n9 1 ≤ 7558272) (h2 : -7558272 ≤ n9 2 ∧ n9 2 ≤ 7558272) (hi : i < 3) : -7558272 ≤ n9 i ∧ n9 i ≤ 7558272 := by
  match i, hi with
  | 0, _ => exact h0
  | 1, _ => exact h1
  | 2, _ => exact h2
theorem g3_dvd {n9 : Nat → Int} {f9 : Int} (h : f9 = ((Int.gcd ((Int.gcd (n9 0) (n9 1) : Nat) : Int) (n9 2) : Nat) : Int)) {i : Nat} (hi : i < 3) : f9 ∣ n9 i := by
  have a := Int.gcd_dvd_left ((Int.gcd (n9 0) (n9 1) : Nat) : Int) (n9 2)
  have b := Int.gcd_dvd_right ((Int.gcd (n9 0) (n9 1) : Nat) : Int) (n9 2)
  rw [← h] at a b
  match i, hi with
  | 0, _ => exact Int.dvd_trans a (Int.gcd_dvd_left _ _)
  | 1, _ => exact Int.dvd_trans a (Int.gcd_dvd_right _ _)
  | 2, _ => exact b
theorem rwM_step {G M9 : Nat → Nat → Int} {nr : Nat → Int} {i8 c : Nat} {x y w : Int} (hM : ∀ r j, r < 3 → j < c → M9 r j = rwM G i8 nr r j) (hx : x = G (r1 i8) c) (hy : y = G (r2 i8) c) (hw : w = nr c) : ∀ r j, r < 3 → j < c + 1 → up2 (up2 (up2 M9 0 c x) 1 c y) 2 c w r j = rwM G i8 nr r j := by
  intro r j hr hj
  by_cases e : j = c
  · subst e
    match r, hr with
    | 0, _ => rw [up2_n _ _ (by omega), up2_n _ _ (by omega), up2_s, hx]; rfl
    | 1, _ => rw [up2_n _ _ (by omega), up2_s, hy]; rfl
    | 2, _ => rw [up2_s, hw]; rfl
  · rw [up2_n _ _ (by omega), up2_n _ _ (by omega), up2_n _ _ (by omega)]; exact hM r j hr (by omega)
theorem vcM_arr {vv u : Nat → Int} (i8 : Nat) : ∀ r, r < 3 → upZ (upZ (upZ vv 0 (u (r1 i8))) 1 (u (r2 i8))) 2 0 r = vcM u i8 r := by
  intro r hr
  match r, hr with
  | 0, _ => simp [upZ, vcM]
  | 1, _ => simp [upZ, vcM]
  | 2, _ => simp [upZ, vcM]
theorem rwM_sm {G : Nat → Nat → Int} {u nr : Nat → Int} {kk i8 : Nat} (hk : kk = 3) (hG : ∀ a b, a < kk → b < kk → -1944 ≤ G a b ∧ G a b ≤ 1944) (hu : ∀ j, j < kk → -21384 ≤ u j ∧ u j ≤ 21384) (hi : i8 < 3) (hcr : CrR G (r1 i8) (r2 i8) nr) : SmM (rwM G i8 nr) (vcM u i8) 3 := by
  subst hk
  refine ⟨fun r c hr hc => ?_, fun r hr => ?_⟩
  · match r, hr with
    | 0, _ => exact hG _ c (r1_lt i8) hc
    | 1, _ => exact hG _ c (r2_lt i8) hc
    | 2, _ => exact hcr.2 c hc
  · match r, hr with
    | 0, _ => exact hu _ (r1_lt i8)
    | 1, _ => exact hu _ (r2_lt i8)
    | 2, _ => show -21384 ≤ (0 : Int) ∧ (0 : Int) ≤ 21384; omega
