/-! pure: right patterns: in class and reference, one at every bar, and only one -/
theorem op_uniqN {n : Nat} (hn : n ≤ 3) {g : M3} {H W V : Nat → Int} {L D E : Int} (hg : PdN n g) (h : OpN n g H L W D) (k : OpN n g H L V E) : ∀ c, c < 3 → E * W c = D * V c := by
  have q := op_q g hg.1 H W V D E
  have z : ∀ c, c < 3 → n ≤ c → E * W c - D * V c = 0 := fun c hc w => by rw [h.2.1 c hc w, k.2.1 c hc w]; simp
  have t : ∀ c, c < 3 → (E * W c - D * V c) * (D * (E * H c - Dt (g c) (V 0) (V 1) (V 2)) - E * (D * H c - Dt (g c) (W 0) (W 1) (W 2))) ≤ 0 := fun c hc => by
    rcases Nat.lt_or_ge c n with w | w
    · exact kt_two h.1 k.1 (h.2.2 c w) (k.2.2 c w)
    · rw [z c hc w]; simp
  have t0 := t 0 (by omega); have t1 := t 1 (by omega); have t2 := t 2 (by omega)
  by_cases e : E * W 0 - D * V 0 = 0 ∧ E * W 1 - D * V 1 = 0 ∧ E * W 2 - D * V 2 = 0
  · exact lt3 (by omega) (by omega) (by omega)
  · have := hg.2 _ _ _ (fun q => z 0 (by omega) q) (fun q => z 1 (by omega) q) (fun q => z 2 (by omega) q) e
    omega
theorem pd_of {g : M3} {m : Nat} (hg : GrM g) (hm : 1 ≤ m ∧ m ≤ 3) (hd : ¬ detM g m = 0) : PdN m g := by
  refine ⟨hg.1, fun x y z a b c q => ?_⟩
  have nn := hg.2.1 x y z
  rcases Int.lt_or_le 0 (Qf g x y z) with w | w
  · exact w
  · exfalso
    have qz : Qf g x y z = 0 := by omega
    have r := hg.row qz
    apply q
    rcases (show m = 1 ∨ m = 2 ∨ m = 3 by omega) with e | e | e
    · subst e
      have hy := b (by omega); have hz := c (by omega)
      have r0 := r 0 (by omega)
      rw [hy, hz] at r0
      unfold Dt at r0
      have d1 : detM g 1 = g 0 0 := rfl
      rw [d1] at hd
      have : g 0 0 * x = 0 := by omega
      rcases Int.mul_eq_zero.mp this with k | k
      · exact absurd k hd
      · exact ⟨k, hy, hz⟩
    · subst e
      have hz := c (by omega)
      have r0 := r 0 (by omega); have r1 := r 1 (by omega)
      rw [det2_p hg.1] at hd
      rw [hz] at r0 r1
      have s := hg.1 1 0
      unfold Dt at r0 r1
      have e1 : p2 g * x = 0 := by
        have : p2 g * x = g 1 1 * (g 0 0 * x + g 0 1 * y + g 0 2 * 0) - g 0 1 * (g 1 0 * x + g 1 1 * y + g 1 2 * 0) := by unfold p2; rw [s]; grind
        rw [this, r0, r1]; simp
      have e2 : p2 g * y = 0 := by
        have : p2 g * y = g 0 0 * (g 1 0 * x + g 1 1 * y + g 1 2 * 0) - g 0 1 * (g 0 0 * x + g 0 1 * y + g 0 2 * 0) := by unfold p2; rw [s]; grind
        rw [this, r0, r1]; simp
      exact ⟨(Int.mul_eq_zero.mp e1).resolve_left hd, (Int.mul_eq_zero.mp e2).resolve_left hd, hz⟩
    · subst e
      rw [det3_q hg.1] at hd
      exact null3 hg.1 hd r
/-- right at the bar t / k -/
def RtA (g : M3) (h σ b s : Nat → Int) (d t k : Int) (m : Nat) : Prop := ∀ c, c < m → (σ c = 0 → -(d * t) ≤ k * (2 * h c * d - Dt (g c) (b 0) (b 1) (b 2)) + t * Dt (g c) (s 0) (s 1) (s 2) ∧ k * (2 * h c * d - Dt (g c) (b 0) (b 1) (b 2)) + t * Dt (g c) (s 0) (s 1) (s 2) ≤ d * t) ∧ (¬ σ c = 0 → 0 < σ c * (k * b c - t * s c))
theorem dt_lin (r : Nat → Int) (b s : Nat → Int) (k t : Int) : Dt r (k * b 0 - t * s 0) (k * b 1 - t * s 1) (k * b 2 - t * s 2) = k * Dt r (b 0) (b 1) (b 2) - t * Dt r (s 0) (s 1) (s 2) := by unfold Dt; grind
theorem RtA.op {g : M3} {h σ b s : Nat → Int} {d t k : Int} {m : Nat} (hm : m ≤ 3) (ht : 0 ≤ t) (hσ : ∀ c, c < 3 → m ≤ c → σ c = 0) (hσ1 : ∀ c, -1 ≤ σ c ∧ σ c ≤ 1) (ha : AcS g h σ b s d) (hr : RtA g h σ b s d t k m) : OpN m g (fun c => k * (2 * h c)) t (fun c => k * b c - t * s c) d := by
  refine ⟨ha.1, fun c hc q => ?_, fun c hc => ?_⟩
  · have := (ha.2 c hc).1 (hσ c hc q)
    show k * b c - t * s c = 0
    rw [this.1, this.2]; simp
  · show Kt (d * t) (k * b c - t * s c) (d * (k * (2 * h c)) - Dt (g c) (k * b 0 - t * s 0) (k * b 1 - t * s 1) (k * b 2 - t * s 2))
    rw [dt_lin]
    by_cases e : σ c = 0
    · have a := (ha.2 c (by omega)).1 e
      have r := (hr c hc).1 e
      rw [a.1, a.2]
      have e1 : d * (k * (2 * h c)) - (k * Dt (g c) (b 0) (b 1) (b 2) - t * Dt (g c) (s 0) (s 1) (s 2)) = k * (2 * h c * d - Dt (g c) (b 0) (b 1) (b 2)) + t * Dt (g c) (s 0) (s 1) (s 2) := by grind
      rw [e1]
      exact ⟨r, fun w => by simp at w, fun w => by simp at w⟩
    · have a := (ha.2 c (by omega)).2 e
      have r := (hr c hc).2 e
      rw [a.1, a.2]
      have e1 : d * (k * (2 * h c)) - (k * (d * (2 * h c)) - t * (d * σ c)) = σ c * (d * t) := by grind
      rw [e1]
      have hs := hσ1 c
      generalize k * b c - t * s c = w at *
      have hdt := Int.mul_nonneg (Int.le_of_lt ha.1) ht
      rcases (show σ c = 1 ∨ σ c = -1 by omega) with q | q <;> rw [q] at r ⊢
      · exact ⟨by omega, fun _ => by omega, fun _ => by omega⟩
      · exact ⟨by omega, fun _ => by omega, fun _ => by omega⟩
/-- a solution at the bar gives its signs' pattern right -/
theorem RtA.of {g : M3} {h σ b s W : Nat → Int} {d t k D : Int} {m : Nat} (hm : m ≤ 3) (hg : PdN m g) (hσ : ∀ c, c < 3 → σ c = sgnZ (W c)) (ha : AcS g h σ b s d) (ho : OpN m g (fun c => k * (2 * h c)) t W D) : RtA g h σ b s d t k m := by
  have hz : ∀ c, c < 3 → m ≤ c → σ c = 0 := fun c hc q => by rw [hσ c hc, ho.2.1 c hc q]; rfl
  have sg : ∀ c, c < 3 → (σ c = 0 → W c = 0) ∧ (¬ σ c = 0 → 0 < σ c * W c ∧ D * (k * (2 * h c)) - Dt (g c) (W 0) (W 1) (W 2) = σ c * (D * t)) := fun c hc => by
    rw [hσ c hc]
    rcases sgn_cases (W c) with ⟨q, e⟩ | ⟨q, e⟩ | ⟨q, e⟩ <;> rw [e]
    · refine ⟨fun w => by omega, fun _ => ⟨by omega, ?_⟩⟩
      have cm : c < m := by rcases Nat.lt_or_ge c m with w | w; exact w; have := ho.2.1 c hc w; omega
      have : D * (k * (2 * h c)) - Dt (g c) (W 0) (W 1) (W 2) = -(D * t) := (ho.2.2 c cm).2.2 q
      show D * (k * (2 * h c)) - _ = _
      omega
    · exact ⟨fun _ => q, fun w => absurd rfl w⟩
    · refine ⟨fun w => by omega, fun _ => ⟨by omega, ?_⟩⟩
      have cm : c < m := by rcases Nat.lt_or_ge c m with w | w; exact w; have := ho.2.1 c hc w; omega
      have : D * (k * (2 * h c)) - Dt (g c) (W 0) (W 1) (W 2) = D * t := (ho.2.2 c cm).2.1 q
      show D * (k * (2 * h c)) - _ = _
      omega
  have eq : ∀ c, c < 3 → D * (k * b c - t * s c) = d * W c := msk_uniq (σ := σ) hg hz (fun c => d * (D * (k * (2 * h c)) - σ c * (D * t))) (fun c => D * (k * b c - t * s c)) (fun c => d * W c) (fun c hc => ⟨fun e => ⟨by have := (ha.2 c hc).1 e; show D * (k * b c - t * s c) = 0; rw [this.1, this.2]; simp, by show d * W c = 0; rw [(sg c hc).1 e]; simp⟩, fun e => ⟨by
      have a := (ha.2 c hc).2 e
      have l := dt_lin (g c) b s k t
      rw [a.1, a.2] at l
      have l2 : ∀ x y z : Int, Dt (g c) (D * x) (D * y) (D * z) = D * Dt (g c) x y z := fun x y z => by unfold Dt; grind
      show Dt (g c) (D * (k * b 0 - t * s 0)) (D * (k * b 1 - t * s 1)) (D * (k * b 2 - t * s 2)) = _
      rw [l2, l]; grind, by
      have a := ((sg c hc).2 e).2
      have l2 : ∀ x y z : Int, Dt (g c) (d * x) (d * y) (d * z) = d * Dt (g c) x y z := fun x y z => by unfold Dt; grind
      show Dt (g c) (d * W 0) (d * W 1) (d * W 2) = _
      rw [l2]; congr 1; omega⟩⟩)
  have hD := ho.1
  have hd := ha.1
  intro c hc
  refine ⟨fun e => ?_, fun e => ?_⟩
  · have k1 := (ho.2.2 c hc).1
    have k1 : -(D * t) ≤ D * (k * (2 * h c)) - Dt (g c) (W 0) (W 1) (W 2) ∧ D * (k * (2 * h c)) - Dt (g c) (W 0) (W 1) (W 2) ≤ D * t := k1
    have e3 : D * (k * (2 * h c * d - Dt (g c) (b 0) (b 1) (b 2)) + t * Dt (g c) (s 0) (s 1) (s 2)) = d * (D * (k * (2 * h c)) - Dt (g c) (W 0) (W 1) (W 2)) := by
      have l2 : Dt (g c) (D * (k * b 0 - t * s 0)) (D * (k * b 1 - t * s 1)) (D * (k * b 2 - t * s 2)) = Dt (g c) (d * W 0) (d * W 1) (d * W 2) := by rw [eq 0 (by omega), eq 1 (by omega), eq 2 (by omega)]
      unfold Dt at l2 ⊢
      grind
    have f1 := Int.mul_le_mul_of_nonneg_left k1.1 (Int.le_of_lt hd)
    have f2 := Int.mul_le_mul_of_nonneg_left k1.2 (Int.le_of_lt hd)
    rw [← e3] at f1 f2
    have f3 : d * -(D * t) = D * -(d * t) := by grind
    have f4 : d * (D * t) = D * (d * t) := by grind
    rw [f3] at f1; rw [f4] at f2
    exact ⟨Int.le_of_mul_le_mul_left f1 hD, Int.le_of_mul_le_mul_left f2 hD⟩
  · have k1 := ((sg c (by omega)).2 e).1
    have e3 : D * (σ c * (k * b c - t * s c)) = d * (σ c * W c) := by
      have := eq c (by omega)
      calc D * (σ c * (k * b c - t * s c)) = σ c * (D * (k * b c - t * s c)) := by grind
        _ = d * (σ c * W c) := by rw [this]; grind
    have := Int.mul_pos hd k1
    rw [← e3] at this
    exact (pos_mul hD).1.mp this
theorem pat_sg {m : Nat} (hm : m ≤ 3) (σ : Nat → Int) (hσ : ∀ c, c < 3 → -1 ≤ σ c ∧ σ c ≤ 1) (hz : ∀ c, c < 3 → m ≤ c → σ c = 0) : ∃ p, p < 3 ^ m ∧ ∀ c, c < 3 → sgP p c = σ c := by
  have d : ∀ m : Fin 4, ∀ a b c : Fin 3, (m.val ≤ 0 → a.val = 0) → (m.val ≤ 1 → b.val = 0) → (m.val ≤ 2 → c.val = 0) → a.val + 3 * b.val + 9 * c.val < 3 ^ m.val ∧ dig (a.val + 3 * b.val + 9 * c.val) 0 = a.val ∧ dig (a.val + 3 * b.val + 9 * c.val) 1 = b.val ∧ dig (a.val + 3 * b.val + 9 * c.val) 2 = c.val := by decide +kernel
  have f : ∀ s : Int, -1 ≤ s ∧ s ≤ 1 → ∃ a : Fin 3, (s = 0 → a.val = 0) ∧ (if a.val = 2 then (-1 : Int) else (a.val : Int)) = s := fun s hs => by
    rcases (show s = -1 ∨ s = 0 ∨ s = 1 by omega) with e | e | e <;> subst e
    · exact ⟨2, by decide, by decide⟩
    · exact ⟨0, by decide, by decide⟩
    · exact ⟨1, by decide, by decide⟩
  obtain ⟨a, a0, a1⟩ := f (σ 0) (hσ 0 (by omega))
  obtain ⟨b, b0, b1⟩ := f (σ 1) (hσ 1 (by omega))
  obtain ⟨c, c0, c1⟩ := f (σ 2) (hσ 2 (by omega))
  have := d ⟨m, by omega⟩ a b c (fun w => a0 (hz 0 (by omega) w)) (fun w => b0 (hz 1 (by omega) w)) (fun w => c0 (hz 2 (by omega) w))
  refine ⟨_, this.1, lt3 ?_ ?_ ?_⟩ <;> unfold sgP
  · rw [this.2.1]; exact a1
  · rw [this.2.2.1]; exact b1
  · rw [this.2.2.2]; exact c1
theorem sg_inj {m p q : Nat} (hm : m ≤ 3) (hp : p < 3 ^ m) (hq : q < 3 ^ m) (h : ∀ c, c < 3 → sgP p c = sgP q c) : p = q := by
  have d : ∀ p q : Fin 27, (∀ c : Fin 3, sgP p.val c.val = sgP q.val c.val) → p.val = q.val := by decide +kernel
  have h3 := pow3_le hm
  exact d ⟨p, by omega⟩ ⟨q, by omega⟩ (fun c => h c.val c.isLt)
/-! the class's conditions -/
def RtQ (P R : Nat → Int) (p : Nat) (t k : Int) : Prop := ∀ c, c < 3 → cdC P R p (fun a b s => OKc (a * k + b * t) s) c
theorem okc_f {v : Int} : OKc v false ↔ 0 ≤ v := ⟨fun h => h.1, fun h => ⟨h, fun _ => rfl⟩⟩
theorem okc_t {v : Int} : OKc v true ↔ 0 < v := by
  unfold OKc
  refine ⟨fun h => ?_, fun h => ⟨by omega, fun e => by omega⟩⟩
  have : ¬ v = 0 := fun e => by cases h.2 e
  omega
def Bar (g : M3) (h : Nat → Int) (m : Nat) : Prop := GrM g ∧ PdN m g ∧ (1 ≤ m ∧ m ≤ 3) ∧ (∀ i j, i < 3 → j < 3 → (m ≤ i ∨ m ≤ j) → g i j = 0) ∧ ∀ i, m ≤ i → i < 3 → h i = 0
section BR
variable {g : M3} {h : Nat → Int} {m p : Nat} {t k : Int}
theorem Bar.gr (B : Bar g h m) : GrM g := B.1
theorem Bar.pd (B : Bar g h m) : PdN m g := B.2.1
theorem Bar.hm (B : Bar g h m) : 1 ≤ m ∧ m ≤ 3 := B.2.2.1
theorem Bar.gz (B : Bar g h m) : ∀ i j, i < 3 → j < 3 → (m ≤ i ∨ m ≤ j) → g i j = 0 := B.2.2.2.1
theorem Bar.hz (B : Bar g h m) : ∀ i, m ≤ i → i < 3 → h i = 0 := B.2.2.2.2
theorem Bar.ac (B : Bar g h m) (hp : p < 3 ^ m) : AcS g h (sgP p) (bsP (Pf g) h p) (slP (Pf g) p) (boP (Pf g) p) := (cls_ac B.gr B.pd B.hm.2 hp).2.2
theorem Bar.sz (B : Bar g h m) (hp : p < 3 ^ m) : ∀ c, c < 3 → m ≤ c → sgP p c = 0 := fun c hc q => sgP_z.mpr (((cv_f B.hm.2 hp).2.2.2.2 c hc).2.1 q)
theorem Bar.dr (B : Bar g h m) {c : Nat} (hc : c < 3) : drP (Pf g) h p c = 2 * h c * boP (Pf g) p - Dt (g c) (bsP (Pf g) h p 0) (bsP (Pf g) h p 1) (bsP (Pf g) h p 2) ∧ moP (Pf g) p c = Dt (g c) (slP (Pf g) p 0) (slP (Pf g) p 1) (slP (Pf g) p 2) := by
  unfold drP moP; rw [rp_q hc, rp_q hc]; exact ⟨rfl, rfl⟩
theorem Bar.dz (B : Bar g h m) {c : Nat} (hc : c < 3) (q : m ≤ c) : drP (Pf g) h p c = 0 ∧ moP (Pf g) p c = 0 := by
  have := B.dr (p := p) hc
  rw [this.1, this.2, B.hz c q hc]
  unfold Dt
  rw [B.gz c 0 hc (by omega) (Or.inl q), B.gz c 1 hc (by omega) (Or.inl q), B.gz c 2 hc (by omega) (Or.inl q)]; simp
theorem Bar.cd (B : Bar g h m) (hp : p < 3 ^ m) (ht : 0 ≤ t) : RtQ (Pf g) h p t k ↔ RtA g h (sgP p) (bsP (Pf g) h p) (slP (Pf g) p) (boP (Pf g) p) t k m := by
  have hb := (B.ac hp).1
  have one : ∀ c, c < 3 → (cdC (Pf g) h p (fun a b s => OKc (a * k + b * t) s) c ↔ ((sgP p c = 0 → -(boP (Pf g) p * t) ≤ k * drP (Pf g) h p c + t * moP (Pf g) p c ∧ k * drP (Pf g) h p c + t * moP (Pf g) p c ≤ boP (Pf g) p * t) ∧ (¬ sgP p c = 0 → 0 < sgP p c * (k * bsP (Pf g) h p c - t * slP (Pf g) p c)))) := fun c hc => by
    unfold cdC
    generalize drP (Pf g) h p c = dr; generalize moP (Pf g) p c = mo; generalize boP (Pf g) p = bo at *
    by_cases e : dig p c = 0
    · rw [if_pos e]
      show (OKc (-dr * k + (bo - mo) * t) false ∧ OKc (dr * k + (bo + mo) * t) false) ↔ _
      rw [okc_f, okc_f]
      have s := sgP_z.mpr e
      have e1 : -dr * k + (bo - mo) * t = bo * t - (k * dr + t * mo) := by grind
      have e2 : dr * k + (bo + mo) * t = bo * t + (k * dr + t * mo) := by grind
      rw [e1, e2]
      exact ⟨fun q => ⟨fun _ => by omega, fun w => absurd s w⟩, fun q => by have := q.1 s; omega⟩
    · rw [if_neg e]
      show OKc (sgP p c * bsP (Pf g) h p c * k + -sgP p c * slP (Pf g) p c * t) true ↔ _
      rw [okc_t]
      have s : ¬ sgP p c = 0 := fun w => e (sgP_z.mp w)
      have e1 : sgP p c * bsP (Pf g) h p c * k + -sgP p c * slP (Pf g) p c * t = sgP p c * (k * bsP (Pf g) h p c - t * slP (Pf g) p c) := by grind
      rw [e1]
      exact ⟨fun q => ⟨fun w => absurd w s, fun _ => q⟩, fun q => q.2 s⟩
  refine ⟨fun H c hc => ?_, fun H c hc => ?_⟩
  · have := (one c (by have := B.hm.2; omega)).mp (H c (by have := B.hm.2; omega))
    rw [(B.dr (by have := B.hm.2; omega)).1, (B.dr (by have := B.hm.2; omega)).2] at this
    exact this
  · rw [one c hc]
    rcases Nat.lt_or_ge c m with w | w
    · have := H c w
      rw [(B.dr hc).1, (B.dr hc).2]; exact this
    · have z := B.dz (p := p) hc w
      have s := B.sz hp c hc w
      have := Int.mul_nonneg (Int.le_of_lt hb) ht
      rw [z.1, z.2]
      exact ⟨fun _ => by simp only [Int.mul_zero]; omega, fun q => absurd s q⟩
theorem Bar.ex (B : Bar g h m) (ht : 0 ≤ t) : ∃ p, p < 3 ^ m ∧ RtQ (Pf g) h p t k := by
  obtain ⟨W, D, ho⟩ := op_ex m B.hm.2 g (fun c => k * (2 * h c)) t B.pd ht
  obtain ⟨p, hp, hs⟩ := pat_sg B.hm.2 (fun c => sgnZ (W c)) (fun c _ => by rcases sgn_cases (W c) with q | q | q <;> rw [q.2] <;> omega) (fun c hc q => by show sgnZ (W c) = 0; rw [ho.2.1 c hc q]; rfl)
  exact ⟨p, hp, (B.cd hp ht).mpr (RtA.of B.hm.2 B.pd hs (B.ac hp) ho)⟩
theorem Bar.un (B : Bar g h m) {q : Nat} (hp : p < 3 ^ m) (hq : q < 3 ^ m) (ht : 0 ≤ t) (h1 : RtQ (Pf g) h p t k) (h2 : RtQ (Pf g) h q t k) : p = q := by
  have r1 := (B.cd hp ht).mp h1
  have r2 := (B.cd hq ht).mp h2
  have o1 := RtA.op B.hm.2 ht (B.sz hp) (sg_bd p) (B.ac hp) r1
  have o2 := RtA.op B.hm.2 ht (B.sz hq) (sg_bd q) (B.ac hq) r2
  have u := op_uniqN B.hm.2 B.pd o1 o2
  have sg : ∀ {p}, p < 3 ^ m → RtA g h (sgP p) (bsP (Pf g) h p) (slP (Pf g) p) (boP (Pf g) p) t k m → ∀ c, c < 3 → sgP p c = sgnZ (k * bsP (Pf g) h p c - t * slP (Pf g) p c) := fun {p} hp r c hc => by
    by_cases e : sgP p c = 0
    · have a := ((B.ac hp).2 c hc).1 e
      rw [e, a.1, a.2]; simp; rfl
    · have cm : c < m := by rcases Nat.lt_or_ge c m with w | w; exact w; exact absurd (B.sz hp c hc w) e
      have := (r c cm).2 e
      have b := sg_bd p c
      generalize k * bsP (Pf g) h p c - t * slP (Pf g) p c = w at *
      rcases (show sgP p c = 1 ∨ sgP p c = -1 by omega) with q | q <;> rw [q] at this ⊢ <;> rcases sgn_cases w with v | v | v <;> rw [v.2] <;> omega
  refine sg_inj B.hm.2 hp hq (fun c hc => ?_)
  rw [sg hp r1 c hc, sg hq r2 c hc]
  have := u c hc
  have d1 := (B.ac hp).1
  have d2 := (B.ac hq).1
  show sgnZ (k * bsP (Pf g) h p c - t * slP (Pf g) p c) = sgnZ (k * bsP (Pf g) h q c - t * slP (Pf g) q c)
  have this : boP (Pf g) q * (k * bsP (Pf g) h p c - t * slP (Pf g) p c) = boP (Pf g) p * (k * bsP (Pf g) h q c - t * slP (Pf g) q c) := this
  generalize k * bsP (Pf g) h p c - t * slP (Pf g) p c = w at *
  generalize k * bsP (Pf g) h q c - t * slP (Pf g) q c = v at *
  have p1 := pos_mul (b := w) d2
  have p2 := pos_mul (b := v) d1
  rw [this] at p1
  have q1 : 0 < w ↔ 0 < v := p1.1.symm.trans p2.1
  have q2 : w < 0 ↔ v < 0 := p1.2.symm.trans p2.2
  rcases sgn_cases w with x | x | x <;> rcases sgn_cases v with y | y | y <;> rw [x.2, y.2] <;> omega
end BR
