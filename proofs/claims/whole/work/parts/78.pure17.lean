/-! pure: corners: the same ends -/
def SdQ (P R : Nat → Int) (p : Nat) (T B sd : Int) : Prop := ∀ a b s, Cn P R p 3 a b s → OKc (bsV a b T B sd) s
theorem bsv_z {a b T B sd : Int} (h : a * B + b * T = 0) : bsV a b T B sd = b * sd := by unfold bsV; rw [if_pos h]
theorem bsv_n {a b T B sd : Int} (h : ¬ a * B + b * T = 0) : bsV a b T B sd = a * B + b * T := by unfold bsV; rw [if_neg h]
theorem okc_pos {v : Int} {s : Bool} (h : 0 < v) : OKc v s := ⟨by omega, fun e => by omega⟩
/-- beside the corner: a bar near enough -/
theorem okc_near {a b T B sd N : Int} {s : Bool} (hsd : sd = 1 ∨ sd = -1) (hb : -N < b ∧ b < N) : OKc (a * (B * N) + b * (T * N + sd)) s ↔ OKc (bsV a b T B sd) s := by
  have e : a * (B * N) + b * (T * N + sd) = N * (a * B + b * T) + b * sd := by grind
  rw [e]
  by_cases z : a * B + b * T = 0
  · rw [bsv_z z, z]; simp
  · rw [bsv_n z]
    have bs : -N < b * sd ∧ b * sd < N := by rcases hsd with q | q <;> subst q <;> omega
    have hN : 0 < N := by omega
    generalize a * B + b * T = v at *
    have up : 0 < v → 0 < N * v + b * sd := fun q => by
      have := Int.mul_le_mul_of_nonneg_left (show 1 ≤ v by omega) (Int.le_of_lt hN); omega
    have dn : v < 0 → N * v + b * sd < 0 := fun q => by
      have := Int.mul_le_mul_of_nonneg_left (show v ≤ -1 by omega) (Int.le_of_lt hN)
      have e2 : N * -1 = -N := by omega
      omega
    rcases Int.lt_or_le 0 v with q | q
    · exact ⟨fun _ => okc_pos q, fun _ => okc_pos (up q)⟩
    · have := dn (by omega)
      exact ⟨fun w => by have := w.1; omega, fun w => by have := w.1; omega⟩
theorem lt_of_ln {a b : Int} (h : a ≤ b) (k : a ≠ b) : a < b := by omega
theorem low_dpos {t b : Int} (hb : b ≠ 0) : 0 < lowD t b := by
  have gp : (0 : Int) < ((Int.gcd t b : Nat) : Int) := by have := gcd_pos_r (t := t) hb; omega
  unfold lowD
  obtain ⟨y, hy⟩ := Int.gcd_dvd_right t b
  generalize ((Int.gcd t b : Nat) : Int) = G at *
  subst hy
  by_cases hn : G * y < 0
  · rw [if_pos hn, ← Int.mul_neg, Int.mul_ediv_cancel_left _ (by omega)]
    have := (pos_mul gp).2.mp hn; omega
  · rw [if_neg hn, Int.mul_ediv_cancel_left _ (by omega)]
    exact (pos_mul gp).1.mp (by omega)
section CO
variable {g : M3} {h : Nat → Int} {m p : Nat} {T D sd : Int}
theorem Bar.side (B : Bar g h m) (hG : ∀ a b, a < 3 → b < 3 → -1944 ≤ g a b ∧ g a b ≤ 1944) (hh : ∀ c, c < 3 → -21384 ≤ h c ∧ h c ≤ 21384) (hT : 0 < T) (hsd : sd = 1 ∨ sd = -1) : ∃ p, p < 3 ^ m ∧ SdQ (Pf g) h p T D sd := by
  obtain ⟨p, hp, hr⟩ := B.ex (t := T * 1000000000000 + sd) (k := D * 1000000000000) (by omega)
  refine ⟨p, hp, fun a b s c => ?_⟩
  have hP : PB (Pf g) := fun k hk => hG _ _ (by omega) (by omega)
  have b1 := (cn_iff (Φ := fun a b _ => (-30000000000000000 ≤ a ∧ a ≤ 30000000000000000) ∧ (-700000000000 ≤ b ∧ b ≤ 700000000000))).mp (fun c hc => cd_b hP hh p hc) a b s c
  have r1 := cn_iff.mp hr a b s c
  exact (okc_near hsd (by have := b1.2; omega)).mp r1
/-- at the corner itself, where nothing strict is 0 -/
theorem SdQ.at {P R : Nat → Int} (h : SdQ P R p T D sd) (hz : ∀ a b, Cn P R p 3 a b true → ¬ a * D + b * T = 0) : RtQ P R p T D := cn_iff.mpr (fun a b s c => by
  have := h a b s c
  by_cases z : a * D + b * T = 0
  · cases s
    · rw [okc_f]; omega
    · exact absurd z (hz a b c)
  · rw [bsv_n z] at this; exact this)
theorem cts_pos {P R : Nat → Int} {c : Nat} (hs : CtS (sgP p c) (bsP P R p c) (slP P p c)) : 0 < tpP P R p c ∧ 0 < btP P R p c ∧ ∃ f : Int, f ≠ 0 ∧ f * tpP P R p c = bsP P R p c ∧ f * btP P R p c = slP P p c := by
  have sn : slP P p c ≠ 0 := by have := hs.2; omega
  obtain ⟨f, f0, f1, f2⟩ := low_f (t := bsP P R p c) sn
  have e1 := (tell01 (t := bsP P R p c) sn).1
  have e2 := (tell01 (t := bsP P R p c) sn).2
  have dp : 0 < lowD (bsP P R p c) (slP P p c) := low_dpos sn
  unfold tpP btP
  rw [e1, e2]
  refine ⟨?_, dp, f, f0, f1, f2⟩
  generalize lowD (bsP P R p c) (slP P p c) = d at *
  generalize lowN (bsP P R p c) (slP P p c) = n at *
  rcases Int.lt_or_le 0 n with q | q
  · exact q
  · exfalso
    rcases Int.lt_or_le 0 f with w | w
    · have := Int.mul_pos w dp; have := Int.mul_nonpos_of_nonneg_of_nonpos (Int.le_of_lt w) q; have := hs.2; omega
    · have w : f < 0 := by omega
      have := Int.mul_neg_of_neg_of_pos w dp
      have := Int.mul_nonneg_of_nonpos_of_nonpos (Int.le_of_lt w) q; have := hs.2; omega
theorem bsv_x {a b T D T' D' sd : Int} {s : Bool} (hD : 0 < D) (hD' : 0 < D') (e : T * D' = T' * D) : OKc (bsV a b T D sd) s ↔ OKc (bsV a b T' D' sd) s := by
  have k : D' * (a * D + b * T) = D * (a * D' + b * T') := by
    have : D' * (a * D + b * T) = a * D * D' + b * (T * D') := by grind
    rw [this, e]; grind
  have z : a * D + b * T = 0 ↔ a * D' + b * T' = 0 := ⟨fun q => by rw [q] at k; exact mz hD (by omega), fun q => by rw [q] at k; exact mz hD' (by omega)⟩
  by_cases q : a * D + b * T = 0
  · rw [bsv_z q, bsv_z (z.mp q)]
  · rw [bsv_n q, bsv_n (fun w => q (z.mpr w))]
    have p1 := pos_mul (b := a * D + b * T) hD'
    have p2 := pos_mul (b := a * D' + b * T') hD
    rw [k] at p1
    have q1 : 0 < a * D + b * T ↔ 0 < a * D' + b * T' := p1.1.symm.trans p2.1
    have q2 : a * D + b * T < 0 ↔ a * D' + b * T' < 0 := p1.2.symm.trans p2.2
    have q3 : ¬ a * D' + b * T' = 0 := fun w => q (z.mpr w)
    exact ⟨fun w => ⟨by have := w.1; omega, fun x => absurd x q3⟩, fun w => ⟨by have := w.1; omega, fun x => absurd x q⟩⟩
theorem turn_side {P R : Nat → Int} {c : Nat} (hc : c < 3) (ht : TurnC P R p c) : ∃ sd : Int, (sd = 1 ∨ sd = -1) ∧ SdQ P R p (tpP P R p c) (btP P R p c) sd ∧ ∃ a b s, Cn P R p 3 a b s ∧ a * btP P R p c + b * tpP P R p c = 0 ∧ 0 < b * sd := by
  obtain ⟨t1, t2, f, f0, f1, f2⟩ := cts_pos ht.2.1
  have dn : ¬ dig p c = 0 := sg_ne ht.2.1.1
  have cn : Cn P R p 3 (sgP p c * bsP P R p c) (-sgP p c * slP P p c) true := ⟨c, hc, by unfold CnC; rw [if_neg dn]; exact ⟨rfl, rfl, rfl⟩⟩
  have z : sgP p c * bsP P R p c * btP P R p c + -sgP p c * slP P p c * tpP P R p c = 0 := by rw [← f1, ← f2]; grind
  have fin : ∀ sd : Int, SdQ P R p (tpP P R p c) (btP P R p c) sd → ∃ a b s, Cn P R p 3 a b s ∧ a * btP P R p c + b * tpP P R p c = 0 ∧ 0 < b * sd := fun sd q => by
    have := q _ _ _ cn
    rw [bsv_z z, okc_t] at this
    exact ⟨_, _, _, cn, z, this⟩
  rcases ht.2.2 with q | q
  · have s : SdQ P R p (tpP P R p c) (btP P R p c) (-1) := cn_iff.mp q
    exact ⟨-1, Or.inr rfl, s, fin _ s⟩
  · have s : SdQ P R p (tpP P R p c) (btP P R p c) 1 := cn_iff.mp q
    exact ⟨1, Or.inl rfl, s, fin _ s⟩
/-- something strict is 0 at the end: a turn of the class -/
theorem side_turn {P R : Nat → Int} (hrk : rk0 (QP P p) = bcN (mskP p)) (hz : ∀ c, c < 3 → m ≤ c → dig p c = 0) (hT : 0 < T) (hD : 0 < D) (hsd : sd = 1 ∨ sd = -1) (h : SdQ P R p T D sd) {a b : Int} (hc : Cn P R p 3 a b true) (h0 : a * D + b * T = 0) : ∃ c, c < m ∧ TurnC P R p c ∧ tpP P R p c * D = T * btP P R p c := by
  have ok := h a b true hc
  rw [bsv_z h0, okc_t] at ok
  obtain ⟨c, hc3, q⟩ := hc
  unfold CnC at q
  split at q
  · rcases q with q | q <;> exact absurd q.2.2 (by decide)
  · rename_i dn
    have cm : c < m := by rcases Nat.lt_or_ge c m with w | w; exact w; exact absurd (hz c hc3 w) dn
    have sn : ¬ sgP p c = 0 := fun w => dn (sgP_z.mp w)
    obtain ⟨rfl, rfl, -⟩ := q
    have sb := sg_bd p c
    have e1 : bsP P R p c * D = slP P p c * T := by
      rcases (show sgP p c = 1 ∨ sgP p c = -1 by omega) with q | q <;> rw [q] at h0 <;> grind
    have s0 : ¬ slP P p c = 0 := fun w => by rw [w] at ok; simp at ok
    have cs : CtS (sgP p c) (bsP P R p c) (slP P p c) := by
      refine ⟨sn, ?_⟩
      rcases Int.lt_or_le 0 (slP P p c) with w | w
      · left
        have := Int.mul_pos w hT
        rw [← e1, Int.mul_comm] at this
        exact ⟨(pos_mul hD).1.mp this, w⟩
      · right
        have w : slP P p c < 0 := by omega
        have := Int.mul_neg_of_neg_of_pos w hT
        rw [← e1, Int.mul_comm] at this
        exact ⟨(pos_mul hD).2.mp this, w⟩
    obtain ⟨t1, t2, f, f0, f1, f2⟩ := cts_pos cs
    have e2 : tpP P R p c * D = T * btP P R p c := by
      have : f * (tpP P R p c * D) = f * (T * btP P R p c) := by
        have : f * (tpP P R p c * D) = bsP P R p c * D := by rw [← f1]; grind
        rw [this, e1, ← f2]; grind
      exact cancel f0 this
    have sq : SdQ P R p (tpP P R p c) (btP P R p c) sd := fun a b s cn => (bsv_x hD t2 e2.symm).mp (h a b s cn)
    refine ⟨c, cm, ⟨hrk, cs, ?_⟩, e2⟩
    rcases hsd with w | w <;> subst w
    · exact Or.inr (cn_iff.mpr sq)
    · exact Or.inl (cn_iff.mpr sq)
theorem rge_1 {q : Nat} : (rgE g h m q).1 = true ↔ (rgF g h m q m).1 = true ∧ ((rgF g h m q m).2.2.2.2 = 0 ∨ (rgF g h m q m).2.1 * (rgF g h m q m).2.2.2.2 - (rgF g h m q m).2.2.2.1 * (rgF g h m q m).2.2.1 < 0) := by
  unfold rgE; simp
theorem btw {a b t l T U : Int} (hl : 0 < l) (hU : 0 < U) (h : 0 ≤ a * U + b * T) (k : b < 0 ∧ t * U < T * l ∨ 0 < b ∧ T * l < t * U) : 0 < a * l + b * t := by
  have e : (a * l + b * t) * U = l * (a * U + b * T) + b * (t * U - T * l) := by grind
  have h1 := Int.mul_nonneg (Int.le_of_lt hl) h
  have h2 : 0 < b * (t * U - T * l) := by
    rcases k with ⟨k1, k2⟩ | ⟨k1, k2⟩
    · exact Int.mul_pos_of_neg_of_neg k1 (by omega)
    · exact Int.mul_pos k1 (by omega)
  rcases Int.lt_or_le 0 (a * l + b * t) with q | q
  · exact q
  · have := Int.mul_nonpos_of_nonpos_of_nonneg q (Int.le_of_lt hU); omega
theorem Bar.end_side (B : Bar g h m) (hp : p < 3 ^ m) (he : EndP g h m (cvP m p) T D) : (0 < T ∧ 0 < D) ∧ ∃ sd : Int, (sd = 1 ∨ sd = -1) ∧ SdQ (Pf g) h p T D sd ∧ ∃ a b s, Cn (Pf g) h p 3 a b s ∧ a * D + b * T = 0 ∧ 0 < b * sd := by
  obtain ⟨e1, e2, t0, d0⟩ := he
  rw [rge_1] at e1
  have e2 : (T = (rgF g h m (cvP m p) m).2.1 ∧ D = (rgF g h m (cvP m p) m).2.2.1) ∨ (T = (rgF g h m (cvP m p) m).2.2.2.1 ∧ D = (rgF g h m (cvP m p) m).2.2.2.2) := e2
  obtain ⟨f1, ⟨⟨l1, l2⟩, l3, l4⟩, h1, h2, h3⟩ := B.rg3 hp
  generalize hS : rgF g h m (cvP m p) m = S at *
  obtain ⟨fl, tl, ul, th, uh⟩ := S
  simp only at *
  have ok0 := f1.mp e1.1
  rcases e2 with ⟨rfl, rfl⟩ | ⟨rfl, rfl⟩
  · have tp : 0 < T := lt_of_ln l2 (Ne.symm t0)
    refine ⟨⟨tp, l1⟩, 1, Or.inl rfl, fun a b s c => ?_, ?_⟩
    · rcases Int.lt_trichotomy b 0 with w | w | w
      · have u0 : ¬ uh = 0 := fun q => h2 q a b s c w
        have k := (h3 u0).1 a b s c w
        have lt : T * uh < th * D := by rcases e1.2 with q | q; exact absurd q u0; omega
        have v := btw l1 (show 0 < uh by omega) k (Or.inl ⟨w, lt⟩)
        rw [bsv_n (by omega)]; exact okc_pos v
      · have k := ok0 a b s c w
        subst w
        by_cases z : a * D + 0 * T = 0
        · rw [bsv_z z]
          have a0 : a = 0 := mz l1 (by rw [Int.mul_comm]; omega)
          subst a0
          simpa using k
        · rw [bsv_n z]
          have a0 : 0 < a := by
            have := k.1
            rcases Int.lt_or_le 0 a with q | q
            · exact q
            · have : a = 0 := by omega
              subst this; exact absurd (by simp) z
          have := Int.mul_pos a0 l1
          exact okc_pos (by omega)
      · have k := l3 a b s c w
        by_cases z : a * D + b * T = 0
        · rw [bsv_z z]; exact okc_pos (by omega)
        · rw [bsv_n z]; exact okc_pos (by omega)
    · rcases l4 with q | ⟨a, b, s, c, w, z⟩
      · exact absurd q t0
      · exact ⟨a, b, s, c, z, by omega⟩
  · have u0 : ¬ D = 0 := d0
    have dp : 0 < D := by omega
    have lt : tl * D < T * ul := by rcases e1.2 with q | q; exact absurd q u0; omega
    have tp : 0 < T := by
      have := Int.mul_nonneg l2 (Int.le_of_lt dp)
      have : 0 < ul * T := by rw [Int.mul_comm]; omega
      exact (pos_mul l1).1.mp this
    refine ⟨⟨tp, dp⟩, -1, Or.inr rfl, fun a b s c => ?_, ?_⟩
    · rcases Int.lt_trichotomy b 0 with w | w | w
      · have k := (h3 u0).1 a b s c w
        by_cases z : a * D + b * T = 0
        · rw [bsv_z z]; exact okc_pos (by omega)
        · rw [bsv_n z]; exact okc_pos (by omega)
      · have k := ok0 a b s c w
        subst w
        by_cases z : a * D + 0 * T = 0
        · rw [bsv_z z]
          have a0 : a = 0 := mz dp (by rw [Int.mul_comm]; omega)
          subst a0
          simpa using k
        · rw [bsv_n z]
          have a0 : 0 < a := by
            have := k.1
            rcases Int.lt_or_le 0 a with q | q
            · exact q
            · have : a = 0 := by omega
              subst this; exact absurd (by simp) z
          have := Int.mul_pos a0 dp
          exact okc_pos (by omega)
      · have k := l3 a b s c w
        have v := btw dp l1 k (Or.inr ⟨w, lt⟩)
        rw [bsv_n (by omega)]; exact okc_pos v
    · obtain ⟨-, a, b, s, c, w, z⟩ := h3 u0
      exact ⟨a, b, s, c, z, by omega⟩
theorem Bar.side_end (B : Bar g h m) (hp : p < 3 ^ m) (hT : 0 < T) (hD : 0 < D) (hsd : sd = 1 ∨ sd = -1) (hs : SdQ (Pf g) h p T D sd) (hx : ∃ a b s, Cn (Pf g) h p 3 a b s ∧ a * D + b * T = 0 ∧ 0 < b * sd) : ∃ t d, EndP g h m (cvP m p) t d ∧ t * D = T * d := by
  obtain ⟨x, y, z, xc, xz, xs⟩ := hx
  obtain ⟨f1, ⟨⟨l1, l2⟩, l3, l4⟩, h1, h2, h3⟩ := B.rg3 hp
  have pos : ∀ a b s, Cn (Pf g) h p 3 a b s → 0 ≤ a * D + b * T ∧ (a * D + b * T = 0 → 0 ≤ b * sd) := fun a b s c => by
    have := (hs a b s c).1
    by_cases q : a * D + b * T = 0
    · rw [bsv_z q] at this; exact ⟨by omega, fun _ => this⟩
    · rw [bsv_n q] at this; exact ⟨this, fun w => absurd w q⟩
  have fl : (rgF g h m (cvP m p) m).1 = true := f1.mpr (fun a b s c w => by
    have k := hs a b s c
    subst w
    by_cases q : a * D + 0 * T = 0
    · rw [bsv_z q] at k
      have a0 : a = 0 := mz hD (by rw [Int.mul_comm]; omega)
      subst a0; simpa using k
    · rw [bsv_n q] at k
      have : 0 < a * D := by have := k.1; omega
      have : 0 < a := by rw [Int.mul_comm] at this; exact (pos_mul hD).1.mp this
      exact okc_pos this)
  unfold EndP
  rw [rge_1]
  show ∃ t d, (_ ∧ ((t = (rgF g h m (cvP m p) m).2.1 ∧ d = (rgF g h m (cvP m p) m).2.2.1) ∨ (t = (rgF g h m (cvP m p) m).2.2.2.1 ∧ d = (rgF g h m (cvP m p) m).2.2.2.2)) ∧ _) ∧ _
  generalize hS : rgF g h m (cvP m p) m = S at *
  obtain ⟨fl', tl, ul, th, uh⟩ := S
  simp only at *
  -- a lower bound is not above T / D, an upper one not below
  have lo_le : tl * D ≤ T * ul := by
    rcases l4 with q | ⟨a, b, s, c, w, q⟩
    · subst q; have := Int.mul_pos hT l1; omega
    · have k := (pos a b s c).1
      rcases Int.lt_or_le (T * ul) (tl * D) with v | v
      · have := btw (a := a) (b := b) (t := tl) (l := ul) (T := T) (U := D) l1 hD k (Or.inr ⟨w, v⟩); omega
      · exact v
  have hi_ge : ¬ uh = 0 → T * uh ≤ th * D := fun u0 => by
    obtain ⟨-, a, b, s, c, w, q⟩ := h3 u0
    have k := (pos a b s c).1
    rcases Int.lt_or_le (th * D) (T * uh) with v | v
    · have up : 0 < uh := lt_of_ln h1 (Ne.symm u0)
      have := btw (a := a) (b := b) (t := th) (l := uh) (T := T) (U := D) up hD k (Or.inl ⟨w, v⟩); omega
    · exact v
  rcases hsd with e | e <;> subst e
  · have yb : 0 < y := by omega
    have k := l3 x y z xc yb
    have eq : tl * D = T * ul := by
      rcases Int.lt_or_le (tl * D) (T * ul) with v | v
      · have := btw (a := x) (b := y) (t := T) (l := D) (T := tl) (U := ul) hD l1 k (Or.inr ⟨yb, v⟩); omega
      · exact Int.le_antisymm lo_le v
    have t0 : tl ≠ 0 := fun q => by subst q; have := Int.mul_pos hT l1; omega
    refine ⟨tl, ul, ⟨⟨fl, ?_⟩, Or.inl ⟨rfl, rfl⟩, t0, Ne.symm (Int.ne_of_lt l1)⟩, eq⟩
    by_cases u0 : uh = 0
    · exact Or.inl u0
    · right
      have up : 0 < uh := lt_of_ln h1 (Ne.symm u0)
      obtain ⟨-, a, b, s, c, w, q⟩ := h3 u0
      have k2 := pos a b s c
      have ge := hi_ge u0
      have ne : ¬ T * uh = th * D := fun v => by
        have : a * D + b * T = 0 := by
          have e2 : uh * (a * D + b * T) = D * (a * uh + b * th) := by
            have : uh * (a * D + b * T) = a * uh * D + b * (T * uh) := by grind
            rw [this, v]; grind
          rw [q] at e2; exact mz up (by omega)
        have := k2.2 this; omega
      have lt : T * uh < th * D := by omega
      have e3 : D * (tl * uh - th * ul) = ul * (T * uh - th * D) := by
        have : D * (tl * uh - th * ul) = (tl * D) * uh - th * ul * D := by grind
        rw [this, eq]; grind
      have := Int.mul_neg_of_pos_of_neg l1 (show T * uh - th * D < 0 by omega)
      rw [← e3] at this
      exact (pos_mul hD).2.mp this
  · have yb : y < 0 := by omega
    have u0 : ¬ uh = 0 := fun q => h2 q x y z xc yb
    have up : 0 < uh := lt_of_ln h1 (Ne.symm u0)
    have k := (h3 u0).1 x y z xc yb
    have ge := hi_ge u0
    have eq : th * D = T * uh := by
      rcases Int.lt_or_le (T * uh) (th * D) with v | v
      · have := btw (a := x) (b := y) (t := T) (l := D) (T := th) (U := uh) hD up k (Or.inl ⟨yb, v⟩); omega
      · exact Int.le_antisymm v ge
    have t0 : th ≠ 0 := fun q => by subst q; have := Int.mul_pos hT up; omega
    refine ⟨th, uh, ⟨⟨fl, Or.inr ?_⟩, Or.inr ⟨rfl, rfl⟩, t0, u0⟩, eq⟩
    have lt : tl * D < T * ul := by
      rcases l4 with q | ⟨a, b, s, c, w, q⟩
      · subst q; have := Int.mul_pos hT l1; omega
      · have k2 := pos a b s c
        have ne : ¬ tl * D = T * ul := fun v => by
          have : a * D + b * T = 0 := by
            have e2 : ul * (a * D + b * T) = D * (a * ul + b * tl) := by
              have : ul * (a * D + b * T) = a * ul * D + b * (T * ul) := by grind
              rw [this, ← v]; grind
            rw [q] at e2; exact mz l1 (by omega)
          have := k2.2 this; omega
        omega
    have e3 : D * (tl * uh - th * ul) = uh * (tl * D - T * ul) := by
      have : D * (tl * uh - th * ul) = tl * uh * D - (th * D) * ul := by grind
      rw [this, eq]; grind
    have := Int.mul_neg_of_pos_of_neg up (show tl * D - T * ul < 0 by omega)
    rw [← e3] at this
    exact (pos_mul hD).2.mp this
/-- every turn of the class is an end in the reference, and every end a turn -/
theorem Bar.turn_end (B : Bar g h m) (hp : p < 3 ^ m) {c : Nat} (hc : c < m) (ht : TurnC (Pf g) h p c) : ∃ t d, EndP g h m (cvP m p) t d ∧ t * btP (Pf g) h p c = tpP (Pf g) h p c * d := by
  have m3 := B.hm.2
  obtain ⟨t1, t2, -⟩ := cts_pos ht.2.1
  obtain ⟨sd, hsd, hs, hx⟩ := turn_side (by omega) ht
  exact B.side_end hp t1 t2 hsd hs hx
theorem Bar.end_turn (B : Bar g h m) (hG : ∀ a b, a < 3 → b < 3 → -1944 ≤ g a b ∧ g a b ≤ 1944) (hh : ∀ c, c < 3 → -21384 ≤ h c ∧ h c ≤ 21384) {q : Nat} (hq : q < 3 ^ m) (he : EndP g h m q T D) : ∃ p c, p < 3 ^ m ∧ c < m ∧ TurnC (Pf g) h p c ∧ tpP (Pf g) h p c * D = T * btP (Pf g) h p c := by
  have cq := cv_f B.hm.2 hq
  have eq : cvP m (vcP m q) = q := cq.2.2.1.2
  have hp := cq.2.1.2
  rw [← eq] at he
  generalize vcP m q = p at *
  obtain ⟨⟨hT, hD⟩, sd, hsd, hs, a, b, s, cn, z, pz⟩ := B.end_side hp he
  have dz : ∀ {p}, p < 3 ^ m → ∀ c, c < 3 → m ≤ c → dig p c = 0 := fun hp c hc w => sgP_z.mp (B.sz hp c hc w)
  have rk : ∀ {p}, p < 3 ^ m → rk0 (QP (Pf g) p) = bcN (mskP p) := fun hp => (cls_ac (h := h) B.gr B.pd B.hm.2 hp).1
  rcases Classical.em (∃ a b, Cn (Pf g) h p 3 a b true ∧ a * D + b * T = 0) with ⟨a', b', c', z'⟩ | hn
  · obtain ⟨c, h1, h2, h3⟩ := side_turn (rk hp) (dz hp) hT hD hsd hs c' z'
    exact ⟨p, c, hp, h1, h2, h3⟩
  · have at1 := hs.at (fun a b c w => hn ⟨a, b, c, w⟩)
    have hsd' : -sd = 1 ∨ -sd = -1 := by omega
    obtain ⟨p', hp', hs'⟩ := B.side (D := D) hG hh hT hsd'
    rcases Classical.em (∃ a b, Cn (Pf g) h p' 3 a b true ∧ a * D + b * T = 0) with ⟨a', b', c', z'⟩ | hn'
    · obtain ⟨c, h1, h2, h3⟩ := side_turn (rk hp') (dz hp') hT hD hsd' hs' c' z'
      exact ⟨p', c, hp', h1, h2, h3⟩
    · exfalso
      have at2 := hs'.at (fun a b c w => hn' ⟨a, b, c, w⟩)
      have := B.un hp hp' (Int.le_of_lt hT) at1 at2
      subst this
      have k := (hs' a b s cn).1
      rw [bsv_z z] at k
      have : b * -sd = -(b * sd) := Int.mul_neg _ _
      omega
end CO
/-! two falling rows of the same fractions are one row -/
theorem rows_le {n n' : Nat} {T B T' B' : Nat → Int} (hB : ∀ i, i < n → 0 < B i) (hB' : ∀ i, i < n' → 0 < B' i) (hd : ∀ i j, i < j → j < n → T j * B i < T i * B j) (hd' : ∀ i j, i < j → j < n' → T' j * B' i < T' i * B' j) (hm : ∀ i, i < n → ∃ j, j < n' ∧ T i * B' j = T' j * B i) : ∀ i, i < n → ∀ j, j < n' → T i * B' j = T' j * B i → i ≤ j := by
  intro i
  induction i with
  | zero => intro _ j _ _; omega
  | succ i ih =>
    intro hi j hj e
    obtain ⟨k, hk, ek⟩ := hm i (by omega)
    have ik := ih (by omega) k hk ek
    rcases Nat.lt_or_ge k j with w | w
    · omega
    · exfalso
      -- T' j / B' j < T' k / B' k, as T (i+1) / B (i+1) < T i / B i, so k < j
      have lt := hd i (i + 1) (by omega) hi
      have b1 := hB i (by omega); have b2 := hB (i + 1) hi; have b3 := hB' j hj; have b4 := hB' k hk
      have key : T' j * B' k < T' k * B' j := by
        have x1 : (T' j * B' k) * (B i * B (i + 1)) = (T (i + 1) * B i) * (B' j * B' k) := by
          calc (T' j * B' k) * (B i * B (i + 1)) = (T' j * B (i + 1)) * (B' k * B i) := by grind
            _ = (T (i + 1) * B i) * (B' j * B' k) := by rw [← e]; grind
        have x2 : (T' k * B' j) * (B i * B (i + 1)) = (T i * B (i + 1)) * (B' j * B' k) := by
          calc (T' k * B' j) * (B i * B (i + 1)) = (T' k * B i) * (B' j * B (i + 1)) := by grind
            _ = (T i * B (i + 1)) * (B' j * B' k) := by rw [← ek]; grind
        have p1 := Int.mul_lt_mul_of_pos_right lt (Int.mul_pos b3 b4)
        rw [← x1, ← x2] at p1
        exact Int.lt_of_mul_lt_mul_right p1 (Int.le_of_lt (Int.mul_pos b1 b2))
      rcases Nat.eq_or_lt_of_le w with v | v
      · subst v; omega
      · have := hd' j k v hk; omega
theorem rows_eq {n n' : Nat} {T B T' B' : Nat → Int} (hB : ∀ i, i < n → 0 < B i) (hB' : ∀ i, i < n' → 0 < B' i) (hd : ∀ i j, i < j → j < n → T j * B i < T i * B j) (hd' : ∀ i j, i < j → j < n' → T' j * B' i < T' i * B' j) (hm : ∀ i, i < n → ∃ j, j < n' ∧ T i * B' j = T' j * B i) (hm' : ∀ j, j < n' → ∃ i, i < n ∧ T i * B' j = T' j * B i) : n = n' ∧ ∀ i, i < n → T i * B' i = T' i * B i := by
  have a := rows_le hB hB' hd hd' hm
  have b := rows_le hB' hB hd' hd (fun j hj => by obtain ⟨i, hi, e⟩ := hm' j hj; exact ⟨i, hi, by rw [← e]⟩)
  have same : ∀ i, i < n → i < n' ∧ T i * B' i = T' i * B i := fun i hi => by
    obtain ⟨j, hj, e⟩ := hm i hi
    have h1 := a i hi j hj e
    have h2 := b j hj i hi e.symm
    have : i = j := by omega
    subst this; exact ⟨hj, e⟩
  refine ⟨?_, fun i hi => (same i hi).2⟩
  rcases Nat.lt_trichotomy n n' with w | w | w
  · obtain ⟨i, hi, e⟩ := hm' n w
    have := b n w i hi e.symm; omega
  · exact w
  · have := (same n' w).1; omega
