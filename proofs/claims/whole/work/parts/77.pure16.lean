/-! pure: corners -/
def CnC (P R : Nat → Int) (p c : Nat) (a b : Int) (s : Bool) : Prop := if dig p c = 0 then ((a = -drP P R p c ∧ b = boP P p - moP P p c ∧ s = false) ∨ (a = drP P R p c ∧ b = boP P p + moP P p c ∧ s = false)) else (a = sgP p c * bsP P R p c ∧ b = -sgP p c * slP P p c ∧ s = true)
def Cn (P R : Nat → Int) (p k : Nat) (a b : Int) (s : Bool) : Prop := ∃ c, c < k ∧ CnC P R p c a b s
theorem cn_iff {P R : Nat → Int} {p k : Nat} {Φ : Int → Int → Bool → Prop} : (∀ c, c < k → cdC P R p Φ c) ↔ ∀ a b s, Cn P R p k a b s → Φ a b s := by
  refine ⟨fun H a b s ⟨c, hc, q⟩ => ?_, fun H c hc => ?_⟩
  · have := H c hc
    unfold cdC at this; unfold CnC at q
    split at q
    · rename_i e; rw [if_pos e] at this
      rcases q with ⟨rfl, rfl, rfl⟩ | ⟨rfl, rfl, rfl⟩
      · exact this.1
      · exact this.2
    · rename_i e; rw [if_neg e] at this
      obtain ⟨rfl, rfl, rfl⟩ := q; exact this
  · unfold cdC
    split
    · rename_i e
      exact ⟨H _ _ _ ⟨c, hc, by unfold CnC; rw [if_pos e]; exact Or.inl ⟨rfl, rfl, rfl⟩⟩, H _ _ _ ⟨c, hc, by unfold CnC; rw [if_pos e]; exact Or.inr ⟨rfl, rfl, rfl⟩⟩⟩
    · rename_i e
      exact H _ _ _ ⟨c, hc, by unfold CnC; rw [if_neg e]; exact ⟨rfl, rfl, rfl⟩⟩
def RgI (C : Int → Int → Bool → Prop) (s : RgS) : Prop :=
  (s.1 = true ↔ ∀ a b r, C a b r → b = 0 → OKc a r) ∧ ((0 < s.2.2.1 ∧ 0 ≤ s.2.1) ∧ (∀ a b r, C a b r → 0 < b → 0 ≤ a * s.2.2.1 + b * s.2.1) ∧ (s.2.1 = 0 ∨ ∃ a b r, C a b r ∧ 0 < b ∧ a * s.2.2.1 + b * s.2.1 = 0)) ∧
  (0 ≤ s.2.2.2.2 ∧ (s.2.2.2.2 = 0 → ∀ a b r, C a b r → ¬ b < 0) ∧ (¬ s.2.2.2.2 = 0 → (∀ a b r, C a b r → b < 0 → 0 ≤ a * s.2.2.2.2 + b * s.2.2.2.1) ∧ ∃ a b r, C a b r ∧ b < 0 ∧ a * s.2.2.2.2 + b * s.2.2.2.1 = 0))
theorem okA_iff {a : Int} {r : Bool} : okA r a = true ↔ OKc a r := by
  unfold okA
  cases r
  · rw [okc_f]; simp
  · rw [okc_t]; simp
theorem gcd_split {a b : Int} (hb : b ≠ 0) : ∃ f : Int, 0 < f ∧ f * a.tdiv ((Int.gcd a b : Nat) : Int) = a ∧ f * b.tdiv ((Int.gcd a b : Nat) : Int) = b ∧ (-a).tdiv ((Int.gcd a b : Nat) : Int) = -a.tdiv ((Int.gcd a b : Nat) : Int) ∧ (-b).tdiv ((Int.gcd a b : Nat) : Int) = -b.tdiv ((Int.gcd a b : Nat) : Int) := by
  have hf : 0 < ((Int.gcd a b : Nat) : Int) := by have := gcd_pos_r (t := a) hb; omega
  exact ⟨_, hf, (tdiv_g hf (Int.gcd_dvd_left a b)).1, (tdiv_g hf (Int.gcd_dvd_right a b)).1, Int.neg_tdiv _ _, Int.neg_tdiv _ _⟩
theorem lo_tr {a b t l T U : Int} (hU : 0 < U) (hl : 0 < l) (hb : 0 < b) (h : 0 ≤ a * U + b * T) (k : T * l < t * U) : 0 ≤ a * l + b * t := by
  have e : (a * l + b * t) * U = l * (a * U + b * T) + b * (t * U - T * l) := by grind
  have h1 := Int.mul_nonneg (Int.le_of_lt hl) h
  have h2 := Int.mul_nonneg (Int.le_of_lt hb) (show 0 ≤ t * U - T * l by omega)
  rcases Int.lt_or_le (a * l + b * t) 0 with q | q
  · have := Int.mul_neg_of_neg_of_pos q hU; omega
  · exact q
theorem hi_tr {a b t l T U : Int} (hU : 0 < U) (hl : 0 < l) (hb : b < 0) (h : 0 ≤ a * U + b * T) (k : t * U < T * l) : 0 ≤ a * l + b * t := by
  have e : (a * l + b * t) * U = l * (a * U + b * T) + -b * (T * l - t * U) := by grind
  have h1 := Int.mul_nonneg (Int.le_of_lt hl) h
  have h2 := Int.mul_nonneg (show 0 ≤ -b by omega) (show 0 ≤ T * l - t * U by omega)
  rcases Int.lt_or_le (a * l + b * t) 0 with q | q
  · have := Int.mul_neg_of_neg_of_pos q hU; omega
  · exact q
theorem RgI.step {C : Int → Int → Bool → Prop} {s : RgS} (hs : RgI C s) (a b : Int) (r : Bool) : RgI (fun a' b' r' => C a' b' r' ∨ (a' = a ∧ b' = b ∧ r' = r)) (bdF a b r s) := by
  obtain ⟨f1, ⟨⟨l1, l2⟩, l3, l4⟩, h1, h2, h3⟩ := hs
  unfold bdF
  by_cases e : b = 0
  · rw [if_pos e]
    refine ⟨?_, ⟨⟨l1, l2⟩, ?_, ?_⟩, h1, ?_, ?_⟩
    · show (s.1 && okA r a) = true ↔ _
      rw [Bool.and_eq_true, f1, okA_iff]
      exact ⟨fun q a' b' r' c z => by rcases c with c | ⟨rfl, rfl, rfl⟩; exact q.1 a' b' r' c z; exact q.2, fun q => ⟨fun a' b' r' c z => q a' b' r' (Or.inl c) z, q a b r (Or.inr ⟨rfl, rfl, rfl⟩) e⟩⟩
    · rintro a' b' r' (c | ⟨rfl, rfl, rfl⟩) z
      · exact l3 a' b' r' c z
      · omega
    · rcases l4 with q | ⟨a', b', r', c, z⟩
      · exact Or.inl q
      · exact Or.inr ⟨a', b', r', Or.inl c, z⟩
    · intro q a' b' r' c
      rcases c with c | ⟨rfl, rfl, rfl⟩
      · exact h2 q a' b' r' c
      · omega
    · intro q
      obtain ⟨x, a', b', r', c, z⟩ := h3 q
      refine ⟨?_, a', b', r', Or.inl c, z⟩
      rintro a'' b'' r'' (c' | ⟨rfl, rfl, rfl⟩) z'
      · exact x a'' b'' r'' c' z'
      · omega
  · rw [if_neg e]
    obtain ⟨f, hf, fa, fb, na, nb⟩ := gcd_split (a := a) e
    generalize ha' : a.tdiv ((Int.gcd a b : Nat) : Int) = A at *
    generalize hb' : b.tdiv ((Int.gcd a b : Nat) : Int) = D at *
    rw [na, nb]
    have flag : s.1 = true ↔ ∀ a' b' r', (C a' b' r' ∨ (a' = a ∧ b' = b ∧ r' = r)) → b' = 0 → OKc a' r' := by
      rw [f1]
      exact ⟨fun q a' b' r' c z => by rcases c with c | ⟨rfl, rfl, rfl⟩; exact q a' b' r' c z; exact absurd z e, fun q a' b' r' c z => q a' b' r' (Or.inl c) z⟩
    by_cases hp : 0 < b
    · rw [if_pos hp]
      have hD : 0 < D := by rw [← fb] at hp; exact (pos_mul hf).1.mp hp
      have up : (0 ≤ s.2.2.2.2 ∧ (s.2.2.2.2 = 0 → ∀ a' b' r', (C a' b' r' ∨ (a' = a ∧ b' = b ∧ r' = r)) → ¬ b' < 0) ∧ (¬ s.2.2.2.2 = 0 → (∀ a' b' r', (C a' b' r' ∨ (a' = a ∧ b' = b ∧ r' = r)) → b' < 0 → 0 ≤ a' * s.2.2.2.2 + b' * s.2.2.2.1) ∧ ∃ a' b' r', (C a' b' r' ∨ (a' = a ∧ b' = b ∧ r' = r)) ∧ b' < 0 ∧ a' * s.2.2.2.2 + b' * s.2.2.2.1 = 0)) := by
        refine ⟨h1, fun q a' b' r' c => ?_, fun q => ?_⟩
        · rcases c with c | ⟨rfl, rfl, rfl⟩
          · exact h2 q a' b' r' c
          · omega
        · obtain ⟨x, a', b', r', c, z⟩ := h3 q
          refine ⟨?_, a', b', r', Or.inl c, z⟩
          rintro a'' b'' r'' (c' | ⟨rfl, rfl, rfl⟩) z'
          · exact x a'' b'' r'' c' z'
          · omega
      by_cases k : 0 < -A * s.2.2.1 - s.2.1 * D
      · rw [if_pos k]
        have hA : 0 ≤ -A := by
          rcases Int.lt_or_le (-A) 0 with q | q
          · have := Int.mul_neg_of_neg_of_pos q l1
            have := Int.mul_nonneg l2 (Int.le_of_lt hD); omega
          · exact q
        refine ⟨flag, ⟨⟨hD, hA⟩, ?_, Or.inr ⟨a, b, r, Or.inr ⟨rfl, rfl, rfl⟩, hp, ?_⟩⟩, up⟩
        · rintro a' b' r' (c | ⟨rfl, rfl, rfl⟩) z
          · exact lo_tr l1 hD z (l3 a' b' r' c z) (show s.2.1 * D < -A * s.2.2.1 by omega)
          · show 0 ≤ a' * D + b' * -A; rw [← fa, ← fb]
            have : f * A * D + f * D * -A = 0 := by grind
            omega
        · show a * D + b * -A = 0; rw [← fa, ← fb]; grind
      · rw [if_neg k]
        refine ⟨flag, ⟨⟨l1, l2⟩, ?_, ?_⟩, up⟩
        · rintro a' b' r' (c | ⟨rfl, rfl, rfl⟩) z
          · exact l3 a' b' r' c z
          · have e2 : a' * s.2.2.1 + b' * s.2.1 = f * (A * s.2.2.1 + s.2.1 * D) := by
              rw [← fa, ← fb]; grind
            rw [e2]
            have e3 : -A * s.2.2.1 = -(A * s.2.2.1) := Int.neg_mul _ _
            exact Int.mul_nonneg (Int.le_of_lt hf) (by omega)
        · rcases l4 with q | ⟨a', b', r', c, z⟩
          · exact Or.inl q
          · exact Or.inr ⟨a', b', r', Or.inl c, z⟩
    · rw [if_neg hp]
      have hD : 0 < -D := by
        have : f * D < 0 := by rw [fb]; omega
        have := (pos_mul hf).2.mp this; omega
      have hn : b < 0 := by omega
      have lw : (0 < s.2.2.1 ∧ 0 ≤ s.2.1) ∧ (∀ a' b' r', (C a' b' r' ∨ (a' = a ∧ b' = b ∧ r' = r)) → 0 < b' → 0 ≤ a' * s.2.2.1 + b' * s.2.1) ∧ (s.2.1 = 0 ∨ ∃ a' b' r', (C a' b' r' ∨ (a' = a ∧ b' = b ∧ r' = r)) ∧ 0 < b' ∧ a' * s.2.2.1 + b' * s.2.1 = 0) := by
        refine ⟨⟨l1, l2⟩, ?_, ?_⟩
        · rintro a' b' r' (c | ⟨rfl, rfl, rfl⟩) z
          · exact l3 a' b' r' c z
          · omega
        · rcases l4 with q | ⟨a', b', r', c, z⟩
          · exact Or.inl q
          · exact Or.inr ⟨a', b', r', Or.inl c, z⟩
      have new : a * -D + b * A = 0 := by rw [← fa, ← fb]; grind
      by_cases k : s.2.2.2.2 = 0 ∨ A * s.2.2.2.2 - s.2.2.2.1 * -D < 0
      · rw [if_pos k]
        refine ⟨flag, lw, Int.le_of_lt hD, fun q => absurd q (show ¬ -D = 0 by omega), fun _ => ⟨?_, a, b, r, Or.inr ⟨rfl, rfl, rfl⟩, hn, new⟩⟩
        rintro a' b' r' (c | ⟨rfl, rfl, rfl⟩) z
        · by_cases u0 : s.2.2.2.2 = 0
          · exact absurd z (h2 u0 a' b' r' c)
          · exact hi_tr (show 0 < s.2.2.2.2 by omega) hD z ((h3 u0).1 a' b' r' c z) (show A * s.2.2.2.2 < s.2.2.2.1 * -D by rcases k with k | k; exact absurd k u0; omega)
        · show 0 ≤ a' * -D + b' * A; omega
      · rw [if_neg k]
        have u0 : ¬ s.2.2.2.2 = 0 := fun q => k (Or.inl q)
        obtain ⟨x, a', b', r', c, z⟩ := h3 u0
        refine ⟨flag, lw, h1, fun q => absurd q u0, fun _ => ⟨?_, a', b', r', Or.inl c, z⟩⟩
        rintro a'' b'' r'' (c' | ⟨rfl, rfl, rfl⟩) z'
        · exact x a'' b'' r'' c' z'
        · have e2 : a'' * s.2.2.2.2 + b'' * s.2.2.2.1 = f * (A * s.2.2.2.2 + s.2.2.2.1 * D) := by rw [← fa, ← fb]; grind
          rw [e2]
          have e3 : s.2.2.2.1 * -D = -(s.2.2.2.1 * D) := Int.mul_neg _ _
          have k2 : ¬ A * s.2.2.2.2 - s.2.2.2.1 * -D < 0 := fun q => k (Or.inr q)
          exact Int.mul_nonneg (Int.le_of_lt hf) (by omega)
theorem RgI.congr {C C' : Int → Int → Bool → Prop} {s : RgS} (hs : RgI C s) (h : ∀ a b r, C a b r ↔ C' a b r) : RgI C' s := by
  have : C = C' := by funext a b r; exact propext (h a b r)
  rw [← this]; exact hs
theorem RgI.more {C C' : Int → Int → Bool → Prop} {s : RgS} (hs : RgI C s) (h : ∀ a b r, C a b r → C' a b r) (k : ∀ a b r, C' a b r → C a b r ∨ (a = 0 ∧ 0 < b)) : RgI C' s := by
  obtain ⟨f1, ⟨⟨l1, l2⟩, l3, l4⟩, h1, h2, h3⟩ := hs
  refine ⟨?_, ⟨⟨l1, l2⟩, fun a b r c z => ?_, ?_⟩, h1, fun q a b r c => ?_, fun q => ?_⟩
  · rw [f1]
    exact ⟨fun q a b r c z => by rcases k a b r c with c | ⟨-, c⟩; exact q a b r c z; omega, fun q a b r c z => q a b r (h a b r c) z⟩
  · rcases k a b r c with c2 | ⟨c2, c3⟩
    · exact l3 a b r c2 z
    · have := Int.mul_nonneg (Int.le_of_lt c3) l2; rw [c2]; omega
  · rcases l4 with q | ⟨a', b', r', c, z⟩
    · exact Or.inl q
    · exact Or.inr ⟨a', b', r', h _ _ _ c, z⟩
  · rcases k a b r c with c | ⟨-, c⟩
    · exact h2 q a b r c
    · omega
  · obtain ⟨x, a', b', r', c, z⟩ := h3 q
    refine ⟨fun a b r c z => ?_, a', b', r', h _ _ _ c, z⟩
    rcases k a b r c with c | ⟨-, c⟩
    · exact x a b r c z
    · omega
section CO
variable {g : M3} {h : Nat → Int} {m p : Nat}
theorem Bar.rgf (B : Bar g h m) (hp : p < 3 ^ m) : ∀ c, c ≤ m → RgI (Cn (Pf g) h p c) (rgF g h m (cvP m p) c)
  | 0, _ => ⟨⟨fun _ a b r ⟨c, hc, _⟩ => absurd hc (Nat.not_lt_zero _), fun _ => rfl⟩, ⟨⟨by show (0 : Int) < 1; decide, Int.le_refl _⟩, fun a b r ⟨c, hc, _⟩ => absurd hc (Nat.not_lt_zero _), Or.inl rfl⟩, Int.le_refl _, fun _ a b r ⟨c, hc, _⟩ => absurd hc (Nat.not_lt_zero _), fun q => absurd rfl q⟩
  | c + 1, hc => by
    have ih := B.rgf hp c (by omega)
    obtain ⟨-, -, -, ⟨k1, -, k8⟩, kc⟩ := cv_f B.hm.2 hp
    have pe := pat_eq (h := h) B.gr B.pd B.hm.2 hp
    have en := (ref_eq (g := g) (h := h) B.hm.2 hp).2.1
    have m3 := B.hm.2
    have s1 := (kc c (by omega)).1 (by omega)
    have ab := ab_dt (g := g) (h := h) (m := m) (p := cvP m p) (c := c) _ k8 k1 en
    have nn : ∀ x y z : Int, Dt (g c) (-x) (-y) (-z) = -Dt (g c) x y z := fun x y z => by unfold Dt; grind
    rw [(B.mk hp (show 0 < 3 by omega)).1, (B.mk hp (show 1 < 3 by omega)).1, (B.mk hp (show 2 < 3 by omega)).1, (B.mk hp (show 0 < 3 by omega)).2, (B.mk hp (show 1 < 3 by omega)).2, (B.mk hp (show 2 < 3 by omega)).2, nn, Int.neg_neg, pe.1, ← (B.dr (p := p) (show c < 3 by omega)).1, ← (B.dr (p := p) (show c < 3 by omega)).2] at ab
    show RgI _ (rgC g h m (cvP m p) c (rgF g h m (cvP m p) c))
    unfold rgC
    rw [s1, en, ab.1, ab.2, pe.1, (pe.2 c (by omega)).1, (pe.2 c (by omega)).2]
    by_cases e : sgP p c = 0
    · rw [if_pos e]
      have d0 := sgP_z.mp e
      refine ((ih.step (-drP (Pf g) h p c) (boP (Pf g) p - moP (Pf g) p c) false).step (drP (Pf g) h p c) (boP (Pf g) p + moP (Pf g) p c) false).congr (fun a b r => ?_)
      refine ⟨fun q => ?_, fun ⟨c', hc', q⟩ => ?_⟩
      · rcases q with (⟨c', hc', q⟩ | q) | q
        · exact ⟨c', by omega, q⟩
        · exact ⟨c, by omega, by unfold CnC; rw [if_pos d0]; exact Or.inl q⟩
        · exact ⟨c, by omega, by unfold CnC; rw [if_pos d0]; exact Or.inr q⟩
      · rcases Nat.lt_or_ge c' c with w | w
        · exact Or.inl (Or.inl ⟨c', w, q⟩)
        · have : c' = c := by omega
          subst this
          unfold CnC at q; rw [if_pos d0] at q
          rcases q with q | q
          · exact Or.inl (Or.inr q)
          · exact Or.inr q
    · rw [if_neg e]
      have d0 : ¬ dig p c = 0 := sg_ne e
      have e2 : sgP p c * -slP (Pf g) p c = -sgP p c * slP (Pf g) p c := by grind
      rw [e2]
      refine (ih.step (sgP p c * bsP (Pf g) h p c) (-sgP p c * slP (Pf g) p c) true).congr (fun a b r => ?_)
      refine ⟨fun q => ?_, fun ⟨c', hc', q⟩ => ?_⟩
      · rcases q with ⟨c', hc', q⟩ | q
        · exact ⟨c', by omega, q⟩
        · exact ⟨c, by omega, by unfold CnC; rw [if_neg d0]; exact q⟩
      · rcases Nat.lt_or_ge c' c with w | w
        · exact Or.inl ⟨c', w, q⟩
        · have : c' = c := by omega
          subst this
          unfold CnC at q; rw [if_neg d0] at q
          exact Or.inr q
theorem Bar.rg3 (B : Bar g h m) (hp : p < 3 ^ m) : RgI (Cn (Pf g) h p 3) (rgF g h m (cvP m p) m) := by
  have m3 := B.hm.2
  refine (B.rgf hp m (Nat.le_refl _)).more (fun a b r ⟨c, hc, q⟩ => ⟨c, by omega, q⟩) (fun a b r ⟨c, hc, q⟩ => ?_)
  rcases Nat.lt_or_ge c m with w | w
  · exact Or.inl ⟨c, w, q⟩
  · right
    have z := B.dz (p := p) hc w
    have d0 := sgP_z.mp (B.sz hp c hc w)
    have bo := (B.ac hp).1
    unfold CnC at q; rw [if_pos d0, z.1, z.2] at q
    rcases q with q | q <;> omega
end CO
