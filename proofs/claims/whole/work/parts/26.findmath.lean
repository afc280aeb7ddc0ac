def okB (v : Int) (s : Bool) : Bool := decide (0 ≤ v) && (decide (v ≠ 0) || !s)
theorem okB_iff {v : Int} {s : Bool} : okB v s = true ↔ OKc v s := by
  unfold okB OKc
  cases s <;> simp <;> omega
def bsV (a b tp bt sd : Int) : Int := if a * bt + b * tp = 0 then b * sd else a * bt + b * tp
def hbB (n : Nat) (fx rs : Nat → Int) (st : Nat → Bool) (tp bt sd : Int) : Bool := (List.range n).all (fun q => okB (bsV (fx q) (rs q) tp bt sd) (st q))
theorem hbB_iff {n : Nat} {fx rs : Nat → Int} {st : Nat → Bool} {tp bt sd : Int} : hbB n fx rs st tp bt sd = true ↔ ∀ q, q < n → OKc (bsV (fx q) (rs q) tp bt sd) (st q) := by
  unfold hbB
  rw [List.all_eq_true]
  constructor
  · intro h q hq; exact okB_iff.mp (h q (List.mem_range.mpr hq))
  · intro h q hq; exact okB_iff.mpr (h q (List.mem_range.mp hq))
theorem hb_val {b sd x v : Int} (h : (¬ x = 0 ∧ v = x) ∨ (x = 0 ∧ v = b * sd)) : v = if x = 0 then b * sd else x := by
  rcases h with ⟨h, rfl⟩ | ⟨h, rfl⟩
  · rw [if_neg h]
  · rw [if_pos h]
theorem hb_in {sd b : Int} (hs : sd = 1 ∨ sd = -1) (h1 : InL b) (h2 : InL (-b)) : InL (b * sd) := by
  rcases hs with rfl | rfl
  · rw [Int.mul_one]; exact h1
  · rw [Int.mul_neg, Int.mul_one]; exact h2
theorem okb_t {v : Int} {s : Bool} (h : ¬ v < 0) (k : ¬ v = 0 ∨ (v = 0 ∧ s = false)) : OKc v s := okc_of2 h k
theorem okb_f {v : Int} {s : Bool} (h : v < 0 ∨ (¬ v < 0 ∧ v = 0 ∧ s = true)) : ¬ OKc v s := okc_no h
theorem hb_step {q : Nat} {fx rs : Nat → Int} {st : Nat → Bool} {tp bt sd v : Int} (h : hbB q fx rs st tp bt sd = true) (hv : v = bsV (fx q) (rs q) tp bt sd) (ho : OKc v (st q)) : hbB (q + 1) fx rs st tp bt sd = true := by
  rw [hbB_iff] at h ⊢
  exact okc_step h (by rw [← hv]; exact ho)
theorem hb_no {q n : Nat} {fx rs : Nat → Int} {st : Nat → Bool} {tp bt sd v : Int} (hq : q < n) (hv : v = bsV (fx q) (rs q) tp bt sd) (ho : ¬ OKc v (st q)) : hbB n fx rs st tp bt sd = false := by
  cases h : hbB n fx rs st tp bt sd with
  | false => rfl
  | true => rw [hbB_iff] at h; exact absurd (h q hq) (by rw [← hv]; exact ho)
/-- the pattern p is the right one at a bar -/
def Right (P R : Nat → Int) (p bar : Nat) : Prop := rk0 (QP P p) = bcN (mskP p) ∧ ∀ c, c < 3 → cdC P R p (fun a b s => OKc (a + b * ((bar : Nat) : Int)) s) c
def FindR (P R : Nat → Int) (ts9 : Int) (m bar : Nat) (v : Bool) (cn2 ts2 r2 : Int) (S2 sg2 db2 bs2 sl2 : Nat → Int) : Prop :=
  (v = true ∧ ∃ p, p < 3 ^ m ∧ Right P R p bar ∧ (ts2 = ts9 ∧ r2 = ((rk0 (QP P p) : Nat) : Int) ∧ (∀ k, k ≤ 3 → S2 k = symF (QP P p) k) ∧ (∀ c, c < 3 → sg2 c = sgP p c) ∧ (∀ c, c < 3 → db2 c = dbP R p c) ∧ (∀ i, i < 3 → bs2 i = bsP P R p i) ∧ ∀ i, i < 3 → sl2 i = slP P p i)) ∨ (v = false ∧ ∀ p, p < 3 ^ m → ¬ Right P R p bar)
section LY
variable {P R S2 sg2 db2 bs2 sl2 fx2 rs2 : Nat → Int} {ts9 cn2 ts2 : Int} {p r2 : Nat} {v : Bool} {st2 : Nat → Bool}
theorem LayR.not {bar : Nat} (h : LayR P R ts9 p v cn2 ts2 r2 S2 sg2 db2 bs2 sl2 fx2 rs2 st2) (hv : v = false) : ¬ Right P R p bar := by
  obtain ⟨-, -, -, -, -, h6, -⟩ := h
  rw [hv] at h6
  intro hr
  exact absurd hr.1 (of_decide_eq_false h6.symm)
theorem LayR.ok (h : LayR P R ts9 p v cn2 ts2 r2 S2 sg2 db2 bs2 sl2 fx2 rs2 st2) (hv : v = true) : rk0 (QP P p) = bcN (mskP p) := by
  obtain ⟨-, -, -, -, -, h6, -⟩ := h
  rw [hv] at h6
  exact of_decide_eq_true h6.symm
theorem LayR.yes' (h : LayR P R ts9 p v cn2 ts2 r2 S2 sg2 db2 bs2 sl2 fx2 rs2 st2) (hv : v = true) : ∃ n : Nat, cn2 = n ∧ n ≤ 6 ∧ CdR P R p n fx2 rs2 st2 := (h.2.2.2.2.2.2 hv).2.2
theorem CdR.inl {n : Nat} {bar : Nat} (h : CdR P R p n fx2 rs2 st2) (ha : ∀ c, c < 3 → cdC P R p (fun a b _ => InL (a + b * ((bar : Nat) : Int))) c) : ∀ q, q < n → InL (fx2 q + rs2 q * ((bar : Nat) : Int)) := (h (fun a b _ => InL (a + b * ((bar : Nat) : Int)))).mpr ha
theorem CdR.right {n bar : Nat} {u : Bool} (h : CdR P R p n fx2 rs2 st2) (hu : u = true ↔ ∀ q, q < n → OKc (fx2 q + rs2 q * ((bar : Nat) : Int)) (st2 q)) (h0 : u = false) : ¬ Right P R p bar := by
  intro hr
  have := hu.mpr ((h (fun a b s => OKc (a + b * ((bar : Nat) : Int)) s)).mpr hr.2)
  rw [h0] at this; cases this
theorem LayR.right {n bar : Nat} {u : Bool} (hL : LayR P R ts9 p v cn2 ts2 r2 S2 sg2 db2 bs2 sl2 fx2 rs2 st2) (hv : v = true) (h : CdR P R p n fx2 rs2 st2) (hu : u = true ↔ ∀ q, q < n → OKc (fx2 q + rs2 q * ((bar : Nat) : Int)) (st2 q)) (h1 : u = true) : Right P R p bar :=
  ⟨hL.ok hv, (h (fun a b s => OKc (a + b * ((bar : Nat) : Int)) s)).mp (hu.mp h1)⟩
theorem LayR.fin (hL : LayR P R ts9 p v cn2 ts2 r2 S2 sg2 db2 bs2 sl2 fx2 rs2 st2) (hv : v = true) : ts2 = ts9 ∧ ((r2 : Nat) : Int) = ((rk0 (QP P p) : Nat) : Int) ∧ (∀ k, k ≤ 3 → S2 k = symF (QP P p) k) ∧ (∀ c, c < 3 → sg2 c = sgP p c) ∧ (∀ c, c < 3 → db2 c = dbP R p c) ∧ (∀ i, i < 3 → bs2 i = bsP P R p i) ∧ ∀ i, i < 3 → sl2 i = slP P p i := by
  obtain ⟨h1, h2, h3, h4, h5, h6, h7⟩ := hL
  exact ⟨h1, by rw [h2], h3, h4, h5, (h7 hv).1, (h7 hv).2.1⟩
end LY
theorem pow3_le {m : Nat} (h : m ≤ 3) : 3 ^ m ≤ 27 := by
  have : ∀ m : Fin 4, 3 ^ m.val ≤ 27 := by decide
  exact this ⟨m, by omega⟩
theorem hb_val2 {a b tp bt sd x v : Int} (hx : x = a * bt + b * tp) (h : (¬ x = 0 ∧ v = x) ∨ (x = 0 ∧ v = b * sd)) : v = bsV a b tp bt sd := by
  unfold bsV
  rw [← hx]
  rcases h with ⟨h, rfl⟩ | ⟨h, rfl⟩
  · rw [if_neg h]
  · rw [if_pos h]
def bd62 (x : Int) : Prop := -4611686018427387904 ≤ x ∧ x ≤ 4611686018427387904
def CtS (sg bs sl : Int) : Prop := ¬ sg = 0 ∧ ((0 < bs ∧ 0 < sl) ∨ (bs < 0 ∧ sl < 0))
def CtR (n : Nat) (fx rs : Nat → Int) (st : Nat → Bool) (sg bs sl : Int) (T B : Nat → Int) (k : Nat) (T2 B2 : Nat → Int) (k2 : Nat) : Prop :=
  ((CtS sg bs sl ∧ (hbB n fx rs st (tellZ bs sl 0) (tellZ bs sl 1) (-1) = true ∨ hbB n fx rs st (tellZ bs sl 0) (tellZ bs sl 1) 1 = true)) ∧ InsR T B k (tellZ bs sl 0) (tellZ bs sl 1) T2 B2 k2) ∨ (¬ (CtS sg bs sl ∧ (hbB n fx rs st (tellZ bs sl 0) (tellZ bs sl 1) (-1) = true ∨ hbB n fx rs st (tellZ bs sl 0) (tellZ bs sl 1) 1 = true)) ∧ T2 = T ∧ B2 = B ∧ k2 = k)
theorem ediv_pos_dvd {a g : Int} (ha : 0 < a) (hg : 0 < g) (hd : g ∣ a) : 0 < a / g ∧ a / g ≤ a := by
  obtain ⟨q, rfl⟩ := hd
  rw [Int.mul_ediv_cancel_left _ (by omega)]
  have hq : 0 < q := by
    rcases Int.lt_or_le 0 q with h | h
    · exact h
    · have := Int.mul_nonpos_of_nonneg_of_nonpos (Int.le_of_lt hg) h; omega
  refine ⟨hq, ?_⟩
  have : 1 * q ≤ g * q := Int.mul_le_mul_of_nonneg_right (by omega) (by omega)
  omega
theorem cts_tell {sg bs sl : Int} (h : CtS sg bs sl) (hb : bd62 bs) (hs : bd62 sl) : (0 ≤ tellZ bs sl 0 ∧ tellZ bs sl 0 ≤ 9223372036854775807) ∧ (0 < tellZ bs sl 1 ∧ tellZ bs sl 1 ≤ 9223372036854775807) := by
  obtain ⟨-, h⟩ := h
  have hne : sl ≠ 0 := by omega
  have gp : (0 : Int) < ((Int.gcd bs sl : Nat) : Int) := by have := gcd_pos_r (t := bs) hne; omega
  have d1 := Int.gcd_dvd_left bs sl
  have d2 := Int.gcd_dvd_right bs sl
  unfold bd62 at hb hs
  have e0 : tellZ bs sl 0 = lowN bs sl := by unfold tellZ; rw [if_neg (show ¬ (sl = 0 ∨ (0 : Int) < 0 ∨ (1 : Int) < 0) by omega), if_pos rfl]
  have e1 : tellZ bs sl 1 = lowD bs sl := by unfold tellZ; rw [if_neg (show ¬ (sl = 0 ∨ (1 : Int) < 0 ∨ (1 : Int) < 1) by omega), if_neg (by decide)]
  rw [e0, e1]
  unfold lowN lowD
  rcases h with h | h
  · rw [if_neg (show ¬ sl < 0 by omega), if_neg (show ¬ sl < 0 by omega)]
    have a := ediv_pos_dvd h.1 gp d1
    have b := ediv_pos_dvd h.2 gp d2
    omega
  · rw [if_pos h.2, if_pos h.2]
    have a := ediv_pos_dvd (show 0 < -bs by omega) gp (Int.dvd_neg.mpr d1)
    have b := ediv_pos_dvd (show 0 < -sl by omega) gp (Int.dvd_neg.mpr d2)
    omega
