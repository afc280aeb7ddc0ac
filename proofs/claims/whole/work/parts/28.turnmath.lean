def tpP (P R : Nat → Int) (p c : Nat) : Int := tellZ (bsP P R p c) (slP P p c) 0
def btP (P R : Nat → Int) (p c : Nat) : Int := tellZ (bsP P R p c) (slP P p c) 1
def TurnC (P R : Nat → Int) (p c : Nat) : Prop := rk0 (QP P p) = bcN (mskP p) ∧ CtS (sgP p c) (bsP P R p c) (slP P p c) ∧ ((∀ c', c' < 3 → cdC P R p (fun a b s => OKc (bsV a b (tpP P R p c) (btP P R p c) (-1)) s) c') ∨ ∀ c', c' < 3 → cdC P R p (fun a b s => OKc (bsV a b (tpP P R p c) (btP P R p c) 1) s) c')
/-- what keeps the walk of the corners inside a long -/
def BesB (P R : Nat → Int) (m : Nat) : Prop := (∀ p, p < 27 → ∀ c, c < 3 → bd62 (bsP P R p c) ∧ bd62 (slP P p c)) ∧ ∀ p c, p < 3 ^ m → c < m → rk0 (QP P p) = bcN (mskP p) → CtS (sgP p c) (bsP P R p c) (slP P p c) → ∀ c', c' < 3 → cdC P R p (fun a b _ => InL (a * btP P R p c + b * tpP P R p c) ∧ InL b ∧ InL (-b)) c'
def RtS (D : Nat → Nat → Prop) (P R T B : Nat → Int) (n : Nat) : Prop := (∀ i, i < n → (0 ≤ T i ∧ T i ≤ 9223372036854775807) ∧ (0 < B i ∧ B i ≤ 9223372036854775807)) ∧ (∀ i j, i < j → j < n → T j * B i < T i * B j) ∧ (∀ i, i < n → ∃ p c, D p c ∧ TurnC P R p c ∧ bd62 (bsP P R p c) ∧ bd62 (slP P p c) ∧ T i = tpP P R p c ∧ B i = btP P R p c) ∧ ∀ p c, D p c → TurnC P R p c → ∃ i, i < n ∧ T i = tpP P R p c ∧ B i = btP P R p c
def rwC (p : Nat) : Nat → Nat
  | 0 => 0
  | c + 1 => rwC p c + if dig p c = 0 then 0 else 1
def azC (m : Nat) : Nat → Nat
  | 0 => 0
  | p + 1 => azC m p + rwC p m
def RtI (m p c : Nat) (P R T B : Nat → Int) (n : Nat) : Prop := RtS (fun p' c' => c' < m ∧ (p' < p ∨ (p' = p ∧ c' < c))) P R T B n ∧ n ≤ azC m p + rwC p c ∧ n ≤ 54 ∧ (∀ p, p < 27 → ∀ c, c < 3 → bd62 (bsP P R p c) ∧ bd62 (slP P p c))
theorem low_red {t b t' b' : Int} (hb : b ≠ 0) (hb' : b' ≠ 0) (h : lowN t b * lowD t' b' = lowN t' b' * lowD t b) : t * b' = t' * b := by
  have key : ∀ {t b : Int}, b ≠ 0 → t * lowD t b = lowN t b * b ∧ lowD t b ≠ 0 := by
    intro t b hb
    have gp : (0 : Int) < ((Int.gcd t b : Nat) : Int) := by have := gcd_pos_r (t := t) hb; omega
    unfold lowN lowD
    obtain ⟨x, hx⟩ := Int.gcd_dvd_left t b
    obtain ⟨y, hy⟩ := Int.gcd_dvd_right t b
    generalize ((Int.gcd t b : Nat) : Int) = g at *
    subst hx; subst hy
    by_cases hn : g * y < 0
    · rw [if_pos hn, if_pos hn, ← Int.mul_neg, ← Int.mul_neg, Int.mul_ediv_cancel_left _ (by omega), Int.mul_ediv_cancel_left _ (by omega)]
      refine ⟨by simp only [Int.mul_neg, Int.neg_mul, Int.mul_assoc, Int.mul_comm, Int.mul_left_comm], ?_⟩
      intro e; apply hb; rw [show y = 0 by omega, Int.mul_zero]
    · rw [if_neg hn, if_neg hn, Int.mul_ediv_cancel_left _ (by omega), Int.mul_ediv_cancel_left _ (by omega)]
      refine ⟨by simp only [Int.mul_assoc, Int.mul_comm, Int.mul_left_comm], ?_⟩
      intro e; apply hb; rw [e, Int.mul_zero]
  obtain ⟨k1, k2⟩ := key (t := t) hb
  obtain ⟨k3, k4⟩ := key (t := t') hb'
  generalize lowN t b = n at *
  generalize lowD t b = d at *
  generalize lowN t' b' = n' at *
  generalize lowD t' b' = d' at *
  -- t d = n b, t' d' = n' b', n d' = n' d
  have e : (d * d') * (t * b') = (d * d') * (t' * b) := by
    calc (d * d') * (t * b') = (t * d) * d' * b' := by simp only [Int.mul_assoc, Int.mul_comm, Int.mul_left_comm]
      _ = (n * d') * b * b' := by rw [k1]; simp only [Int.mul_assoc, Int.mul_comm, Int.mul_left_comm]
      _ = (n' * b') * d * b := by rw [h]; simp only [Int.mul_assoc, Int.mul_comm, Int.mul_left_comm]
      _ = (d * d') * (t' * b) := by rw [← k3]; simp only [Int.mul_assoc, Int.mul_comm, Int.mul_left_comm]
  exact Int.eq_of_mul_eq_mul_left (Int.mul_ne_zero k2 k4) e
theorem tell01 {t b : Int} (hb : b ≠ 0) : tellZ t b 0 = lowN t b ∧ tellZ t b 1 = lowD t b := by
  unfold tellZ
  constructor
  · rw [if_neg (show ¬ (b = 0 ∨ (0 : Int) < 0 ∨ (1 : Int) < 0) by omega), if_pos rfl]
  · rw [if_neg (show ¬ (b = 0 ∨ (1 : Int) < 0 ∨ (1 : Int) < 1) by omega), if_neg (by decide)]
theorem turn_eq {P R : Nat → Int} {p c p' c' : Nat} (h : TurnC P R p c) (h' : TurnC P R p' c') (he : tpP P R p c * btP P R p' c' = tpP P R p' c' * btP P R p c) : tpP P R p c = tpP P R p' c' ∧ btP P R p c = btP P R p' c' := by
  have n1 : slP P p c ≠ 0 := by have := h.2.1.2; omega
  have n2 : slP P p' c' ≠ 0 := by have := h'.2.1.2; omega
  unfold tpP btP at *
  rw [(tell01 n1).1, (tell01 n1).2, (tell01 n2).1, (tell01 n2).2] at *
  exact low_eq n1 n2 (low_red n1 n2 he)
theorem fr_trans {a b c d e f : Int} (hb : 0 < b) (hd : 0 < d) (hf : 0 < f) (h1 : a * d ≤ c * b) (h2 : c * f < e * d) : a * f < e * b := by
  have x1 : a * d * f ≤ c * b * f := Int.mul_le_mul_of_nonneg_right h1 (by omega)
  have x2 : c * f * b < e * d * b := Int.mul_lt_mul_of_pos_right h2 hb
  have e1 : a * d * f = (a * f) * d := by simp only [Int.mul_assoc, Int.mul_comm d]
  have e2 : c * b * f = c * f * b := by simp only [Int.mul_assoc, Int.mul_comm b]
  have e3 : e * d * b = (e * b) * d := by simp only [Int.mul_assoc, Int.mul_comm d]
  rw [e1, e2] at x1
  rw [e3] at x2
  exact Int.lt_of_mul_lt_mul_right (Int.lt_of_le_of_lt x1 x2) (by omega)
theorem RtS.ins {D : Nat → Nat → Prop} {P R T B T2 B2 : Nat → Int} {n n2 p c : Nat} (h : RtS D P R T B n) (ht : TurnC P R p c) (hb : bd62 (bsP P R p c) ∧ bd62 (slP P p c)) (hi : InsR T B n (tpP P R p c) (btP P R p c) T2 B2 n2) (hn : n < 54) : RtS (fun p' c' => D p' c' ∨ (p' = p ∧ c' = c)) P R T2 B2 n2 ∧ n2 ≤ n + 1 := by
  obtain ⟨h1, h2, h3, h4⟩ := h
  have hq := cts_tell ht.2.1 hb.1 hb.2
  rw [show tellZ (bsP P R p c) (slP P p c) 0 = tpP P R p c from rfl, show tellZ (bsP P R p c) (slP P p c) 1 = btP P R p c from rfl] at hq
  obtain ⟨s, hs, hlo, hhi, hc⟩ := hi
  rcases hc with ⟨hc, rfl, rfl, rfl⟩ | ⟨hc, -, rfl, g1, g2, g3⟩
  · have hc : s < n2 ∧ T2 s = tpP P R p c ∧ B2 s = btP P R p c := by rcases hc with hc | hc; exact hc; omega
    refine ⟨⟨h1, h2, fun i hi => ?_, fun p' c' hd ht' => ?_⟩, by omega⟩
    · obtain ⟨p', c', hd, r⟩ := h3 i hi; exact ⟨p', c', Or.inl hd, r⟩
    · rcases hd with hd | ⟨rfl, rfl⟩
      · exact h4 p' c' hd ht'
      · exact ⟨s, hc⟩
  · -- strict at s
    have hst : s < n → T s * btP P R p c - tpP P R p c * B s < 0 := by
      intro hl
      have := hhi hl
      rcases Int.lt_or_le (T s * btP P R p c - tpP P R p c * B s) 0 with q | q
      · exact q
      · obtain ⟨p', c', hd, ht', -, -, e1, e2⟩ := h3 s hl
        have hz : tpP P R p' c' * btP P R p c = tpP P R p c * btP P R p' c' := by rw [← e1, ← e2]; omega
        obtain ⟨f1, f2⟩ := turn_eq ht' ht hz
        exact absurd ⟨hl, by rw [e1, f1], by rw [e2, f2]⟩ hc
    have aft : ∀ j, s ≤ j → j < n → T j * btP P R p c < tpP P R p c * B j := by
      intro j hj hl
      have hs0 := hst (by omega)
      rcases Nat.eq_or_lt_of_le hj with e | e
      · subst e; omega
      · have hj2 := h2 s j e hl
        have bj := (h1 j hl).2.1
        have bs := (h1 s (by omega)).2.1
        exact fr_trans (a := T j) (b := B j) (c := T s) (d := B s) (e := tpP P R p c) (f := btP P R p c) bj bs hq.2.1 (by omega) (by omega)
    have at2 : ∀ i, i < n + 1 → (i < s ∧ T2 i = T i ∧ B2 i = B i) ∨ (i = s ∧ T2 i = tpP P R p c ∧ B2 i = btP P R p c) ∨ (s < i ∧ T2 i = T (i - 1) ∧ B2 i = B (i - 1)) := by
      intro i hi
      rcases Nat.lt_trichotomy i s with e | e | e
      · exact Or.inl ⟨e, g1 i e⟩
      · subst e; exact Or.inr (Or.inl ⟨rfl, g2⟩)
      · exact Or.inr (Or.inr ⟨e, g3 i e (by omega)⟩)
    refine ⟨⟨fun i hi => ?_, fun i j hij hj => ?_, fun i hi => ?_, fun p' c' hd ht' => ?_⟩, Nat.le_refl _⟩
    · rcases at2 i hi with ⟨e, f1, f2⟩ | ⟨e, f1, f2⟩ | ⟨e, f1, f2⟩ <;> rw [f1, f2]
      · exact h1 i (by omega)
      · exact hq
      · exact h1 (i - 1) (by omega)
    · rcases at2 i (by omega) with ⟨e, f1, f2⟩ | ⟨e, f1, f2⟩ | ⟨e, f1, f2⟩ <;> rcases at2 j hj with ⟨e', f1', f2'⟩ | ⟨e', f1', f2'⟩ | ⟨e', f1', f2'⟩ <;> rw [f1, f2, f1', f2']
      · exact h2 i j hij (by omega)
      · have := hlo i e; omega
      · exact h2 i (j - 1) (by omega) (by omega)
      · omega
      · omega
      · exact aft (j - 1) (by omega) (by omega)
      · omega
      · omega
      · exact h2 (i - 1) (j - 1) (by omega) (by omega)
    · rcases at2 i hi with ⟨e, f1, f2⟩ | ⟨e, f1, f2⟩ | ⟨e, f1, f2⟩ <;> rw [f1, f2]
      · obtain ⟨p', c', hd, r⟩ := h3 i (by omega); exact ⟨p', c', Or.inl hd, r⟩
      · exact ⟨p, c, Or.inr ⟨rfl, rfl⟩, ht, hb.1, hb.2, rfl, rfl⟩
      · obtain ⟨p', c', hd, r⟩ := h3 (i - 1) (by omega); exact ⟨p', c', Or.inl hd, r⟩
    · rcases hd with hd | ⟨rfl, rfl⟩
      · obtain ⟨i, hi, e1, e2⟩ := h4 p' c' hd ht'
        rcases Nat.lt_or_ge i s with e | e
        · exact ⟨i, by omega, by rw [(g1 i e).1, e1], by rw [(g1 i e).2, e2]⟩
        · exact ⟨i + 1, by omega, by rw [(g3 (i + 1) (by omega) (by omega)).1]; exact e1, by rw [(g3 (i + 1) (by omega) (by omega)).2]; exact e2⟩
      · exact ⟨s, by omega, g2⟩
theorem RtS.congr {D D' : Nat → Nat → Prop} {P R T B : Nat → Int} {n : Nat} (h : RtS D P R T B n) (he : ∀ p c, D' p c → D p c ∨ ¬ TurnC P R p c) (he2 : ∀ p c, D p c → D' p c) : RtS D' P R T B n := by
  obtain ⟨h1, h2, h3, h4⟩ := h
  refine ⟨h1, h2, fun i hi => ?_, fun p c hd ht => ?_⟩
  · obtain ⟨p, c, hd, r⟩ := h3 i hi; exact ⟨p, c, he2 p c hd, r⟩
  · rcases he p c hd with h | h
    · exact h4 p c h ht
    · exact absurd ht h
theorem az_lt {m p c : Nat} (hm : m ≤ 3) (hp : p < 3 ^ m) (hc : c < m) (hd : ¬ dig p c = 0) : azC m p + rwC p c < 54 := by
  have : ∀ m : Fin 4, ∀ p : Fin 27, ∀ c : Fin 3, p.val < 3 ^ m.val → c.val < m.val → ¬ dig p.val c.val = 0 → azC m.val p.val + rwC p.val c.val < 54 := by decide +kernel
  have h27 := pow3_le hm
  exact this ⟨m, by omega⟩ ⟨p, by omega⟩ ⟨c, by omega⟩ hp hc hd
section RI
variable {m p c n : Nat} {P R T B T2 B2 : Nat → Int} {n2 : Nat}
theorem RtI.le54 (h : RtI m p c P R T B n) : n ≤ 54 := h.2.2.1
theorem RtI.step (h : RtI m p c P R T B n) (hm : m ≤ 3) (hp : p < 3 ^ m) (hc : c < m) (hr : rk0 (QP P p) = bcN (mskP p))
    (hi : (TurnC P R p c ∧ InsR T B n (tpP P R p c) (btP P R p c) T2 B2 n2) ∨ (¬ TurnC P R p c ∧ T2 = T ∧ B2 = B ∧ n2 = n)) : RtI m p (c + 1) P R T2 B2 n2 := by
  obtain ⟨h1, h2, h3, h4⟩ := h
  have hr1 : rwC p (c + 1) = rwC p c + if dig p c = 0 then 0 else 1 := rfl
  have h27 := pow3_le hm
  rcases hi with ⟨ht, hi⟩ | ⟨ht, rfl, rfl, rfl⟩
  · have hd : ¬ dig p c = 0 := sg_ne ht.2.1.1
    have haz := az_lt hm hp hc hd
    obtain ⟨g1, g2⟩ := h1.ins ht (h4 p (by omega) c (by omega)) hi (by omega)
    rw [if_neg hd] at hr1
    refine ⟨g1.congr (fun p' c' h => ?_) (fun p' c' h => ?_), by omega, by omega, h4⟩
    · left; by_cases e : p' = p ∧ c' = c
      · exact Or.inr e
      · exact Or.inl (by omega)
    · rcases h with h | h <;> omega
  · refine ⟨h1.congr (fun p' c' h => ?_) (fun p' c' h => by omega), by omega, h3, h4⟩
    by_cases e : p' = p ∧ c' = c
    · obtain ⟨rfl, rfl⟩ := e; exact Or.inr ht
    · exact Or.inl (by omega)
theorem RtI.row (h : RtI m p c P R T B n) (hc : c = m) : RtI m (p + 1) 0 P R T B n := by
  subst hc
  obtain ⟨h1, h2, h3, h4⟩ := h
  have e : azC c (p + 1) = azC c p + rwC p c := rfl
  have e2 : rwC (p + 1) 0 = 0 := rfl
  exact ⟨h1.congr (fun p' c' h => Or.inl (by omega)) (fun p' c' h => by omega), by omega, h3, h4⟩
theorem RtI.skip (h : RtI m p 0 P R T B n) (hr : ¬ rk0 (QP P p) = bcN (mskP p)) : RtI m (p + 1) 0 P R T B n := by
  obtain ⟨h1, h2, h3, h4⟩ := h
  have e : azC m (p + 1) = azC m p + rwC p m := rfl
  have e2 : rwC (p + 1) 0 = 0 := rfl
  have e3 : rwC p 0 = 0 := rfl
  refine ⟨h1.congr (fun p' c' h => ?_) (fun p' c' h => by omega), by omega, h3, h4⟩
  by_cases e : p' = p
  · subst e; exact Or.inr (fun ht => hr ht.1)
  · exact Or.inl (by omega)
theorem RtI.init (hb : ∀ p, p < 27 → ∀ c, c < 3 → bd62 (bsP P R p c) ∧ bd62 (slP P p c)) : RtI m 0 0 P R T B 0 :=
  ⟨⟨fun i h => absurd h (Nat.not_lt_zero _), fun i j _ h => absurd h (Nat.not_lt_zero _), fun i h => absurd h (Nat.not_lt_zero _), fun p c h => by omega⟩, Nat.zero_le _, by decide, hb⟩
theorem RtI.out (h : RtI m p 0 P R T B n) (hp : 3 ^ m ≤ p) (hp2 : p ≤ 3 ^ m) : RtS (fun p c => p < 3 ^ m ∧ c < m) P R T B n := h.1.congr (fun p' c' h => Or.inl (by omega)) (fun p' c' h => by omega)
end RI
theorem sg_62 (p c : Nat) : bd62 (sgP p c) := by have := sg_bd p c; unfold bd62; omega
section LZ
variable {P R S2 sg2 db2 bs2 sl2 fx2 rs2 T B T2 B2 : Nat → Int} {ts9 ts2 cn2 : Int} {p n c k k2 r2 : Nat} {st2 : Nat → Bool} {v : Bool}
theorem LayR.not2 (h : LayR P R ts9 p v cn2 ts2 r2 S2 sg2 db2 bs2 sl2 fx2 rs2 st2) (hv : v = false) : ¬ rk0 (QP P p) = bcN (mskP p) := by
  obtain ⟨-, -, -, -, -, h6, -⟩ := h
  rw [hv] at h6
  exact of_decide_eq_false h6.symm
theorem ct_pure (hL : ts2 = ts9 ∧ ((r2 : Nat) : Int) = ((rk0 (QP P p) : Nat) : Int) ∧ (∀ k, k ≤ 3 → S2 k = symF (QP P p) k) ∧ (∀ c, c < 3 → sg2 c = sgP p c) ∧ (∀ c, c < 3 → db2 c = dbP R p c) ∧ (∀ i, i < 3 → bs2 i = bsP P R p i) ∧ ∀ i, i < 3 → sl2 i = slP P p i) (hC : CdR P R p n fx2 rs2 st2) (hc : c < 3) (hr : rk0 (QP P p) = bcN (mskP p)) (h : CtR n fx2 rs2 st2 (sg2 c) (bs2 c) (sl2 c) T B k T2 B2 k2) : (TurnC P R p c ∧ InsR T B k (tpP P R p c) (btP P R p c) T2 B2 k2) ∨ (¬ TurnC P R p c ∧ T2 = T ∧ B2 = B ∧ k2 = k) := by
  obtain ⟨-, -, -, a4, -, a6, a7⟩ := hL
  unfold CtR at h
  rw [a4 c hc, a6 c hc, a7 c hc, hbB_iff, hbB_iff] at h
  have w : ∀ sd, (∀ q, q < n → OKc (bsV (fx2 q) (rs2 q) (tellZ (bsP P R p c) (slP P p c) 0) (tellZ (bsP P R p c) (slP P p c) 1) sd) (st2 q)) ↔ ∀ c', c' < 3 → cdC P R p (fun a b s => OKc (bsV a b (tpP P R p c) (btP P R p c) sd) s) c' := fun sd => hC (fun a b s => OKc (bsV a b (tpP P R p c) (btP P R p c) sd) s)
  rw [w, w] at h
  rcases h with ⟨h1, h2⟩ | ⟨h1, h2⟩
  · exact Or.inl ⟨⟨hr, h1.1, h1.2⟩, h2⟩
  · exact Or.inr ⟨fun ht => h1 ⟨ht.2.1, ht.2.2⟩, h2⟩
theorem bes_hf (hL : ts2 = ts9 ∧ ((r2 : Nat) : Int) = ((rk0 (QP P p) : Nat) : Int) ∧ (∀ k, k ≤ 3 → S2 k = symF (QP P p) k) ∧ (∀ c, c < 3 → sg2 c = sgP p c) ∧ (∀ c, c < 3 → db2 c = dbP R p c) ∧ (∀ i, i < 3 → bs2 i = bsP P R p i) ∧ ∀ i, i < 3 → sl2 i = slP P p i) (hC : CdR P R p n fx2 rs2 st2) (hc : c < 3) (h : CtS (sgP p c) (bsP P R p c) (slP P p c) → ∀ c', c' < 3 → cdC P R p (fun a b _ => InL (a * btP P R p c + b * tpP P R p c) ∧ InL b ∧ InL (-b)) c') :
    CtS (sg2 c) (bs2 c) (sl2 c) → ∀ q, q < n → InL (fx2 q * (tellZ (bs2 c) (sl2 c) 1) + rs2 q * (tellZ (bs2 c) (sl2 c) 0)) ∧ InL (rs2 q) ∧ InL (-rs2 q) := by
  obtain ⟨-, -, -, a4, -, a6, a7⟩ := hL
  rw [a4 c hc, a6 c hc, a7 c hc]
  intro hs
  exact (hC (fun a b _ => InL (a * btP P R p c + b * tpP P R p c) ∧ InL b ∧ InL (-b))).mpr (h hs)
end LZ
