/-! the reference: right patterns, ranges, corners -/
theorem rt_n {G : Nat → Nat → Int} {h : Nat → Int} {m p c : Nat} {bar : Int} (h0 : ¬ sgM p c = 0) (h1 : sgnZ (baM G h p m c + bar * slM G p m c) = sgM p c) : RtM G h m p bar c := by unfold RtM; rw [if_neg h0]; exact h1
theorem rt_z {G : Nat → Nat → Int} {h : Nat → Int} {m p c : Nat} {bar : Int} (h0 : sgM p c = 0) : RtM G h m p bar c ↔ ((eM G h (baM G h p m) (slM G p m) (clF (stM p m)) (dtM G p m) bar c (naM p m)).natAbs : Int) ≤ bar * dtM G p m := by unfold RtM; rw [if_pos h0]
def PaB1 (G : Nat → Nat → Int) (h : Nat → Int) (m p : Nat) : Prop := (0 < dtM G p m ∧ dtM G p m ≤ 100000000000) ∧ ∀ c, c < m → (-1000000000000 ≤ baM G h p m c ∧ baM G h p m c ≤ 1000000000000) ∧ (-100000000 ≤ slM G p m c ∧ slM G p m c ≤ 100000000)
section CG
variable {G H : Nat → Nat → Int} {h g : Nat → Int} {m p : Nat}
theorem gsM_congr (hp : p < 27) (hm : m ≤ 3) (hG : ∀ a b, a < m → b < m → G a b = H a b) : ∀ a b, a < naM p m → b < naM p m → gsM G p m a b = gsM H p m a b := fun a b ha hb => by
  have h1 := cl_bit (stM_lt hp hm) hm ha; have h2 := cl_bit (stM_lt hp hm) hm hb
  exact hG _ _ h1.2.1 h2.2.1
theorem na_le (hm : m ≤ 3) : naM p m ≤ 3 := by have := cb_le (stM p m) m; unfold naM; omega
theorem dtM_congr (hp : p < 27) (hm : m ≤ 3) (hG : ∀ a b, a < m → b < m → G a b = H a b) : dtM G p m = dtM H p m := detM_congr (na_le hm) (gsM_congr hp hm hG)
theorem baM_congr (hp : p < 27) (hm : m ≤ 3) (hG : ∀ a b, a < m → b < m → G a b = H a b) (hh : ∀ j, j < m → h j = g j) {c : Nat} (hc : c < m) : baM G h p m c = baM H g p m c := by
  unfold baM
  by_cases e : dig p c = 1
  · rw [if_pos e, if_pos e]
  · rw [if_neg e, if_neg e]
    have hb : (stM p m).testBit c = true := by rw [stM_bit hp hm hc]; exact decide_eq_true e
    exact crS_congr (na_le hm) (gsM_congr hp hm hG) (fun r hr => by unfold bvM; rw [hh _ (cl_bit (stM_lt hp hm) hm hr).2.1]) (cb_lt hc hb) _ (Nat.le_refl _)
theorem slM_congr (hp : p < 27) (hm : m ≤ 3) (hG : ∀ a b, a < m → b < m → G a b = H a b) {c : Nat} (hc : c < m) : slM G p m c = slM H p m c := by
  unfold slM
  by_cases e : dig p c = 1
  · rw [if_pos e, if_pos e]
  · rw [if_neg e, if_neg e]
    have hb : (stM p m).testBit c = true := by rw [stM_bit hp hm hc]; exact decide_eq_true e
    rw [crS_congr (na_le hm) (gsM_congr hp hm hG) (fun r hr => rfl) (cb_lt hc hb) _ (Nat.le_refl _)]
theorem eM_congr2 {ba ba' sl sl' : Nat → Int} {ac : Nat → Nat} {dt bar : Int} {c na : Nat} (hG : ∀ a b, a < m → b < m → G a b = H a b) (hh : ∀ j, j < m → h j = g j) (hc : c < m) (hac : ∀ a, a < na → ac a < m) (hb : ∀ j, j < m → ba j = ba' j) (hs : ∀ j, j < m → sl j = sl' j) : ∀ a, a ≤ na → eM G h ba sl ac dt bar c a = eM H g ba' sl' ac dt bar c a
  | 0, _ => by show 2 * h c * dt = 2 * g c * dt; rw [hh c hc]
  | a + 1, ha => by
    show eM G h ba sl ac dt bar c a - _ = eM H g ba' sl' ac dt bar c a - _
    rw [eM_congr2 hG hh hc hac hb hs a (by omega), hb _ (hac a (by omega)), hs _ (hac a (by omega)), hG c _ hc (hac a (by omega))]
theorem RightM_congr (hp : p < 27) (hm : m ≤ 3) (hG : ∀ a b, a < m → b < m → G a b = H a b) (hh : ∀ j, j < m → h j = g j) (bar : Int) : RightM G h m p bar ↔ RightM H g m p bar := by
  have hac : ∀ a, a < naM p m → clF (stM p m) a < m := fun a ha => (cl_bit (stM_lt hp hm) hm ha).2.1
  have key : ∀ c, c < m → (RtM G h m p bar c ↔ RtM H g m p bar c) := fun c hc => by
    unfold RtM
    rw [dtM_congr hp hm hG, eM_congr2 hG hh hc hac (fun j hj => baM_congr hp hm hG hh hj) (fun j hj => slM_congr hp hm hG hj) _ (Nat.le_refl _), baM_congr hp hm hG hh hc, slM_congr hp hm hG hc]
  exact ⟨fun q c hc => (key c hc).mp (q c hc), fun q c hc => (key c hc).mpr (q c hc)⟩
theorem PaB_congr (hm : m ≤ 3) (hG : ∀ a b, a < m → b < m → G a b = H a b) (hh : ∀ j, j < m → h j = g j) (hb : PaB H g m) : ∀ p, p < 3 ^ m → PaB1 G h m p := fun p hp => by
  have h3 := pow3_le hm
  have hp2 : p < 27 := by omega
  have := hb p hp
  exact ⟨by rw [dtM_congr hp2 hm hG]; exact this.1, fun c hc => by rw [baM_congr hp2 hm hG hh hc, slM_congr hp2 hm hG hc]; exact this.2 c hc⟩
end CG
def ctM (G : Nat → Nat → Int) (h : Nat → Int) (m p : Nat) (yy bar : Int) : Nat → Int
  | 0 => 4 * dtM G p m * yy
  | c + 1 => ctM G h m p yy bar c + (-2 * h c * (baM G h p m c + bar * slM G p m c) + bar * ((baM G h p m c + bar * slM G p m c).natAbs : Int))
theorem ctM_congr {G H : Nat → Nat → Int} {h g : Nat → Int} {m p : Nat} {yy bar : Int} (hp : p < 27) (hm : m ≤ 3) (hG : ∀ a b, a < m → b < m → G a b = H a b) (hh : ∀ j, j < m → h j = g j) : ∀ c, c ≤ m → ctM G h m p yy bar c = ctM H g m p yy bar c
  | 0, _ => by show 4 * dtM G p m * yy = 4 * dtM H p m * yy; rw [dtM_congr hp hm hG]
  | c + 1, hc => by
    show ctM G h m p yy bar c + _ = ctM H g m p yy bar c + _
    rw [ctM_congr hp hm hG hh c (by omega), hh c (by omega), baM_congr hp hm hG hh (by omega), slM_congr hp hm hG (by omega)]
theorem ctM_b {G : Nat → Nat → Int} {h : Nat → Int} {m p : Nat} {yy bar : Int} (hb : PaB1 G h m p) (hh : ∀ j, j < m → -21384 ≤ h j ∧ h j ≤ 21384) (hy : 0 ≤ yy ∧ yy ≤ 235224) (hbar : 0 ≤ bar ∧ bar ≤ 50000) : ∀ c, c ≤ m → -(100000000000000000 + 1000000000000000000 * (c : Int)) ≤ ctM G h m p yy bar c ∧ ctM G h m p yy bar c ≤ 100000000000000000 + 1000000000000000000 * (c : Int)
  | 0, _ => by
    have h1 := hb.1
    have := mul_bd (a := 4 * dtM G p m) (A := 400000000000) (b := yy) (B := 235224) (by omega) (by omega)
    show _ ≤ 4 * dtM G p m * yy ∧ 4 * dtM G p m * yy ≤ _
    omega
  | c + 1, hc => by
    have ih := ctM_b hb hh hy hbar c (by omega)
    have h1 := hh c (by omega)
    have h2 := hb.2 c (by omega)
    have h3 := mul_bd (a := bar) (A := 50000) (by omega) h2.2
    have h4 := mul_bd (a := -2 * h c) (A := 42768) (b := baM G h p m c + bar * slM G p m c) (B := 6000000000000) (by omega) (by omega)
    have h5 := mul_bd (a := bar) (A := 50000) (b := ((baM G h p m c + bar * slM G p m c).natAbs : Int)) (B := 6000000000000) (by omega) (by omega)
    show _ ≤ ctM G h m p yy bar c + _ ∧ ctM G h m p yy bar c + _ ≤ _
    omega
/-! ranges -/
abbrev RgS : Type := Bool × Int × Int × Int × Int
def okA (sr : Bool) (a : Int) : Bool := if sr = true then decide (0 < a) else decide (0 ≤ a)
def bdF (a b : Int) (sr : Bool) (s : RgS) : RgS :=
  if b = 0 then (s.1 && okA sr a, s.2) else
  if 0 < b then (if 0 < (-a).tdiv ((Int.gcd a b : Nat) : Int) * s.2.2.1 - s.2.1 * b.tdiv ((Int.gcd a b : Nat) : Int) then (s.1, (-a).tdiv ((Int.gcd a b : Nat) : Int), b.tdiv ((Int.gcd a b : Nat) : Int), s.2.2.2.1, s.2.2.2.2) else s)
  else if s.2.2.2.2 = 0 ∨ a.tdiv ((Int.gcd a b : Nat) : Int) * s.2.2.2.2 - s.2.2.2.1 * (-b).tdiv ((Int.gcd a b : Nat) : Int) < 0 then (s.1, s.2.1, s.2.2.1, a.tdiv ((Int.gcd a b : Nat) : Int), (-b).tdiv ((Int.gcd a b : Nat) : Int)) else s
def RgB (s : RgS) : Prop := B63 s.2.1 ∧ (0 < s.2.2.1 ∧ s.2.2.1 ≤ 9223372036854775807) ∧ B63 s.2.2.2.1 ∧ (0 ≤ s.2.2.2.2 ∧ s.2.2.2.2 ≤ 9223372036854775807)
theorem tdiv_g {a f : Int} (hf : 0 < f) (h : f ∣ a) : f * a.tdiv f = a ∧ ((a.tdiv f).natAbs : Int) ≤ (a.natAbs : Int) := by
  have h1 := Int.mul_tdiv_cancel' h
  refine ⟨h1, ?_⟩
  have h2 : a.natAbs = f.natAbs * (a.tdiv f).natAbs := by rw [← Int.natAbs_mul, h1]
  have h3 : 1 * (a.tdiv f).natAbs ≤ f.natAbs * (a.tdiv f).natAbs := Nat.mul_le_mul_right _ (by omega)
  omega
theorem tdiv_p {a f : Int} (hf : 0 < f) (h : f ∣ a) (ha : 0 < a) : 0 < a.tdiv f := by
  have h1 := (tdiv_g hf h).1
  rcases Int.lt_or_le 0 (a.tdiv f) with h2 | h2
  · exact h2
  · have := Int.mul_nonpos_of_nonneg_of_nonpos (Int.le_of_lt hf) h2; omega
theorem bd_f {a b : Int} (hb : ¬ b = 0) (ha : B63 a) (hbb : B63 b) : 0 < ((Int.gcd a b : Nat) : Int) ∧ B63 (a.tdiv ((Int.gcd a b : Nat) : Int)) ∧ B63 ((-a).tdiv ((Int.gcd a b : Nat) : Int)) ∧ (0 < b → 0 < b.tdiv ((Int.gcd a b : Nat) : Int) ∧ b.tdiv ((Int.gcd a b : Nat) : Int) ≤ 9223372036854775807) ∧ (b < 0 → 0 < (-b).tdiv ((Int.gcd a b : Nat) : Int) ∧ (-b).tdiv ((Int.gcd a b : Nat) : Int) ≤ 9223372036854775807) := by
  have hf : 0 < ((Int.gcd a b : Nat) : Int) := by have := gcd_pos_r (t := a) hb; omega
  have d1 := Int.gcd_dvd_left a b
  have d2 := Int.gcd_dvd_right a b
  have e1 := tdiv_g hf d1
  have e2 := tdiv_g hf (Int.dvd_neg.mpr d1)
  have e3 := tdiv_g hf d2
  have e4 := tdiv_g hf (Int.dvd_neg.mpr d2)
  unfold B63 at *
  refine ⟨hf, by omega, by omega, fun h => ⟨tdiv_p hf d2 h, by omega⟩, fun h => ⟨tdiv_p hf (Int.dvd_neg.mpr d2) (by omega), by omega⟩⟩
theorem bdF_b {a b : Int} {sr : Bool} {s : RgS} (hs : RgB s) (ha : B63 a) (hb : B63 b) : RgB (bdF a b sr s) := by
  unfold bdF
  by_cases e : b = 0
  · rw [if_pos e]; exact hs
  · rw [if_neg e]
    have h := bd_f e ha hb
    obtain ⟨h1, h2, h3, h4⟩ := hs
    by_cases hp : 0 < b
    · rw [if_pos hp]
      split
      · exact ⟨h.2.2.1, h.2.2.2.1 hp, h3, h4⟩
      · exact ⟨h1, h2, h3, h4⟩
    · rw [if_neg hp]
      split
      · exact ⟨h1, h2, h.2.1, by have := h.2.2.2.2 (by omega); exact ⟨Int.le_of_lt this.1, this.2⟩⟩
      · exact ⟨h1, h2, h3, h4⟩
def aaM (G : Nat → Nat → Int) (h : Nat → Int) (m p c : Nat) : Nat → Int
  | 0 => 2 * h c * dtM G p m
  | i + 1 => aaM G h m p c i - G c (clF (stM p m) i) * baM G h p m (clF (stM p m) i)
def bbM (G : Nat → Nat → Int) (m p c : Nat) : Nat → Int
  | 0 => 0
  | i + 1 => bbM G m p c i - G c (clF (stM p m) i) * slM G p m (clF (stM p m) i)
def rgC (G : Nat → Nat → Int) (h : Nat → Int) (m p c : Nat) (s : RgS) : RgS := if sgM p c = 0 then bdF (aaM G h m p c (naM p m)) (dtM G p m + bbM G m p c (naM p m)) false (bdF (-aaM G h m p c (naM p m)) (dtM G p m - bbM G m p c (naM p m)) false s) else bdF (sgM p c * baM G h p m c) (sgM p c * slM G p m c) true s
def rgF (G : Nat → Nat → Int) (h : Nat → Int) (m p : Nat) : Nat → RgS
  | 0 => (true, 0, 1, 0, 0)
  | c + 1 => rgC G h m p c (rgF G h m p c)
def rgE (G : Nat → Nat → Int) (h : Nat → Int) (m p : Nat) : RgS := ((rgF G h m p m).1 && decide ((rgF G h m p m).2.2.2.2 = 0 ∨ (rgF G h m p m).2.1 * (rgF G h m p m).2.2.2.2 - (rgF G h m p m).2.2.2.1 * (rgF G h m p m).2.2.1 < 0), (rgF G h m p m).2)
theorem ab_b {G : Nat → Nat → Int} {h : Nat → Int} {m p c : Nat} (hp : p < 27) (hm : m ≤ 3) (hc : c < m) (hb : PaB1 G h m p) (hG : ∀ a b, a < m → b < m → -1944 ≤ G a b ∧ G a b ≤ 1944) (hh : ∀ j, j < m → -21384 ≤ h j ∧ h j ≤ 21384) : ∀ i, i ≤ naM p m → (-(5000000000000000 + 2000000000000000 * (i : Int)) ≤ aaM G h m p c i ∧ aaM G h m p c i ≤ 5000000000000000 + 2000000000000000 * (i : Int)) ∧ (-(200000000000 * (i : Int)) ≤ bbM G m p c i ∧ bbM G m p c i ≤ 200000000000 * (i : Int))
  | 0, _ => by
    have h1 := hh c hc
    have h2 := hb.1
    have := mul_bd (a := 2 * h c) (A := 42768) (b := dtM G p m) (B := 100000000000) (by omega) (by omega)
    refine ⟨?_, by simp [bbM]⟩
    show _ ≤ 2 * h c * dtM G p m ∧ 2 * h c * dtM G p m ≤ _
    omega
  | i + 1, hi => by
    have ih := ab_b hp hm hc hb hG hh i (by omega)
    have hk := (cl_bit (stM_lt hp hm) hm (show i < naM p m by omega)).2.1
    have h1 := mul_bd (hG c _ hc hk) (hb.2 _ hk).1
    have h2 := mul_bd (hG c _ hc hk) (hb.2 _ hk).2
    refine ⟨?_, ?_⟩
    · show _ ≤ aaM G h m p c i - _ ∧ aaM G h m p c i - _ ≤ _; omega
    · show _ ≤ bbM G m p c i - _ ∧ bbM G m p c i - _ ≤ _; omega
theorem ab_63 {G : Nat → Nat → Int} {h : Nat → Int} {m p c : Nat} (hp : p < 27) (hm : m ≤ 3) (hc : c < m) (hb : PaB1 G h m p) (hG : ∀ a b, a < m → b < m → -1944 ≤ G a b ∧ G a b ≤ 1944) (hh : ∀ j, j < m → -21384 ≤ h j ∧ h j ≤ 21384) : B63 (aaM G h m p c (naM p m)) ∧ B63 (-aaM G h m p c (naM p m)) ∧ B63 (dtM G p m + bbM G m p c (naM p m)) ∧ B63 (dtM G p m - bbM G m p c (naM p m)) ∧ B63 (sgM p c * baM G h p m c) ∧ B63 (sgM p c * slM G p m c) := by
  have h1 := ab_b hp hm hc hb hG hh (naM p m) (Nat.le_refl _)
  have h2 := na_le (p := p) hm
  have h3 := hb.1
  have h4 := hb.2 c hc
  have h5 := sgM_bd p c
  have h6 := mul_bd (a := sgM p c) (A := 1) h5 h4.1
  have h7 := mul_bd (a := sgM p c) (A := 1) h5 h4.2
  unfold B63; omega
theorem rgF_b {G : Nat → Nat → Int} {h : Nat → Int} {m p : Nat} (hp : p < 27) (hm : m ≤ 3) (hb : PaB1 G h m p) (hG : ∀ a b, a < m → b < m → -1944 ≤ G a b ∧ G a b ≤ 1944) (hh : ∀ j, j < m → -21384 ≤ h j ∧ h j ≤ 21384) : ∀ c, c ≤ m → RgB (rgF G h m p c)
  | 0, _ => by unfold RgB rgF B63; decide
  | c + 1, hc => by
    have ih := rgF_b hp hm hb hG hh c (by omega)
    have k := ab_63 hp hm (show c < m by omega) hb hG hh
    show RgB (rgC G h m p c (rgF G h m p c))
    unfold rgC
    split
    · exact bdF_b (bdF_b ih k.2.1 k.2.2.2.1) k.1 k.2.2.1
    · exact bdF_b ih k.2.2.2.2.1 k.2.2.2.2.2
/-! corners -/
def InsM (T B : Nat → Int) (n : Nat) (t b : Int) (T2 B2 : Nat → Int) (n2 : Nat) : Prop := ∃ p, p ≤ n ∧ (∀ i, i < p → 0 < T i * b - t * B i) ∧ (p < n → T p * b - t * B p ≤ 0) ∧
  (((p < n ∧ T p * b - t * B p = 0) ∧ T2 = T ∧ B2 = B ∧ n2 = n) ∨ (¬ (p < n ∧ T p * b - t * B p = 0) ∧ n2 = n + 1 ∧ (∀ i, i < p → T2 i = T i ∧ B2 i = B i) ∧ (T2 p = t ∧ B2 p = b) ∧ ∀ i, p < i → i ≤ n → T2 i = T (i - 1) ∧ B2 i = B (i - 1)))
def CrI (T B : Nat → Int) (n : Nat) : Prop := (∀ i, i < n → B63 (T i) ∧ (0 < B i ∧ B i ≤ 9223372036854775807)) ∧ ∀ i, i + 1 < n → 0 < T i * B (i + 1) - T (i + 1) * B i
def CnI (E : Nat → Int → Int → Prop) (q : Nat) (T B : Nat → Int) (n : Nat) : Prop := CrI T B n ∧ (∀ i, i < n → ∃ p, p < q ∧ E p (T i) (B i)) ∧ ∀ p, p < q → ∀ t b, E p t b → ∃ i, i < n ∧ T i * b = t * B i
def EndP (G : Nat → Nat → Int) (h : Nat → Int) (m p : Nat) (t b : Int) : Prop := (rgE G h m p).1 = true ∧ ((t = (rgE G h m p).2.1 ∧ b = (rgE G h m p).2.2.1) ∨ (t = (rgE G h m p).2.2.2.1 ∧ b = (rgE G h m p).2.2.2.2)) ∧ t ≠ 0 ∧ b ≠ 0
theorem frac_tr {a b c d e f : Int} (hb : 0 < b) (hd : 0 < d) (hf : 0 < f) (h1 : 0 ≤ a * d - c * b) (h2 : 0 < c * f - e * d) : 0 < a * f - e * b := by
  have e1 : (a * f - e * b) * d = (a * d - c * b) * f + (c * f - e * d) * b := by grind
  have h3 := Int.mul_nonneg h1 (Int.le_of_lt hf)
  have h4 := Int.mul_pos h2 hb
  rcases Int.lt_or_le 0 (a * f - e * b) with h | h
  · exact h
  · have := Int.mul_nonpos_of_nonpos_of_nonneg h (Int.le_of_lt hd); omega
theorem CrI.ins {T B T2 B2 : Nat → Int} {n n2 : Nat} {t b : Int} (h : CrI T B n) (ht : B63 t) (hb : 0 < b ∧ b ≤ 9223372036854775807) (hi : InsM T B n t b T2 B2 n2) : CrI T2 B2 n2 ∧ (∃ i, i < n2 ∧ T2 i * b = t * B2 i) ∧ (∀ i, i < n → ∃ j, j < n2 ∧ T2 j = T i ∧ B2 j = B i) ∧ (∀ j, j < n2 → (T2 j = t ∧ B2 j = b) ∨ ∃ i, i < n ∧ T2 j = T i ∧ B2 j = B i) ∧ n2 ≤ n + 1 := by
  obtain ⟨p, hp, hl, hle, hk⟩ := hi
  rcases hk with ⟨⟨hpn, h0⟩, rfl, rfl, rfl⟩ | ⟨hne, rfl, h1, ⟨h2, h2'⟩, h3⟩
  · exact ⟨h, ⟨p, hpn, by omega⟩, fun i hi => ⟨i, hi, rfl, rfl⟩, fun j hj => Or.inr ⟨j, hj, rfl, rfl⟩, by omega⟩
  · have val : ∀ j, j < n + 1 → (j < p ∧ T2 j = T j ∧ B2 j = B j) ∨ (j = p ∧ T2 j = t ∧ B2 j = b) ∨ (p < j ∧ T2 j = T (j - 1) ∧ B2 j = B (j - 1)) := by
      intro j hj
      rcases Nat.lt_trichotomy j p with h4 | h4 | h4
      · exact Or.inl ⟨h4, h1 j h4⟩
      · subst h4; exact Or.inr (Or.inl ⟨rfl, h2, h2'⟩)
      · exact Or.inr (Or.inr ⟨h4, h3 j h4 (by omega)⟩)
    refine ⟨⟨fun i hi => ?_, fun i hi => ?_⟩, ⟨p, by omega, by rw [h2, h2']⟩, fun i hi => ?_, fun j hj => ?_, by omega⟩
    · rcases val i hi with ⟨h4, e1, e2⟩ | ⟨h4, e1, e2⟩ | ⟨h4, e1, e2⟩ <;> rw [e1, e2]
      · exact h.1 i (by omega)
      · exact ⟨ht, hb⟩
      · exact h.1 (i - 1) (by omega)
    · rcases val i (by omega) with ⟨h4, e1, e2⟩ | ⟨h4, e1, e2⟩ | ⟨h4, e1, e2⟩ <;> rcases val (i + 1) hi with ⟨h5, f1, f2⟩ | ⟨h5, f1, f2⟩ | ⟨h5, f1, f2⟩ <;> rw [e1, e2, f1, f2]
      · exact h.2 i (by omega)
      · have := hl i (by omega); omega
      · omega
      · omega
      · omega
      · have h6 : i + 1 - 1 = i := by omega
        rw [h6]; subst h4
        have h7 := hle (by omega)
        have h8 : ¬ T i * b - t * B i = 0 := fun q => hne ⟨by omega, q⟩
        omega
      · omega
      · omega
      · have h6 : i + 1 - 1 = (i - 1) + 1 := by omega
        rw [h6]; exact h.2 (i - 1) (by omega)
    · rcases Nat.lt_or_ge i p with h4 | h4
      · exact ⟨i, by omega, h1 i h4⟩
      · have := h3 (i + 1) (by omega) (by omega)
        rw [show i + 1 - 1 = i by omega] at this
        exact ⟨i + 1, by omega, this⟩
    · rcases val j hj with ⟨h4, e1, e2⟩ | ⟨h4, e1, e2⟩ | ⟨h4, e1, e2⟩
      · exact Or.inr ⟨j, by omega, e1, e2⟩
      · exact Or.inl ⟨e1, e2⟩
      · exact Or.inr ⟨j - 1, by omega, e1, e2⟩
/-- while the two ends of a pattern are laid -/
def CnJ (E : Nat → Int → Int → Prop) (q : Nat) (S : Int → Int → Prop) (T B : Nat → Int) (n : Nat) : Prop := CrI T B n ∧ (∀ i, i < n → (∃ p, p < q ∧ E p (T i) (B i)) ∨ S (T i) (B i)) ∧ (∀ p, p < q → ∀ t b, E p t b → ∃ i, i < n ∧ T i * b = t * B i) ∧ ∀ t b, S t b → ∃ i, i < n ∧ T i * b = t * B i
theorem CnJ.of {E : Nat → Int → Int → Prop} {q n : Nat} {T B : Nat → Int} (h : CnI E q T B n) : CnJ E q (fun _ _ => False) T B n := ⟨h.1, fun i hi => Or.inl (h.2.1 i hi), h.2.2, fun _ _ q => q.elim⟩
theorem CnJ.add {E : Nat → Int → Int → Prop} {q n n2 : Nat} {S S2 : Int → Int → Prop} {T B T2 B2 : Nat → Int} {t b : Int} (h : CnJ E q S T B n) (ht : B63 t) (hb : 0 < b ∧ b ≤ 9223372036854775807) (hi : InsM T B n t b T2 B2 n2) (h1 : S2 t b) (h2 : ∀ t b, S t b → S2 t b) (h3 : ∀ t' b', S2 t' b' → S t' b' ∨ (t' = t ∧ b' = b)) : CnJ E q S2 T2 B2 n2 := by
  obtain ⟨a1, a2, a3, a4⟩ := h
  obtain ⟨b1, ⟨i0, hi0, hv0⟩, b3, b4, -⟩ := a1.ins ht hb hi
  refine ⟨b1, fun j hj => ?_, fun p hp t' b' he => ?_, fun t' b' hs => ?_⟩
  · rcases b4 j hj with ⟨e1, e2⟩ | ⟨i, hi2, e1, e2⟩
    · rw [e1, e2]; exact Or.inr h1
    · rw [e1, e2]
      rcases a2 i hi2 with h5 | h5
      · exact Or.inl h5
      · exact Or.inr (h2 _ _ h5)
  · obtain ⟨i, h5, h6⟩ := a3 p hp t' b' he
    obtain ⟨j, h7, h8, h9⟩ := b3 i h5
    exact ⟨j, h7, by rw [h8, h9]; exact h6⟩
  · rcases h3 t' b' hs with h5 | ⟨rfl, rfl⟩
    · obtain ⟨i, h5, h6⟩ := a4 t' b' h5
      obtain ⟨j, h7, h8, h9⟩ := b3 i h5
      exact ⟨j, h7, by rw [h8, h9]; exact h6⟩
    · exact ⟨i0, hi0, hv0⟩
theorem CnJ.done {E : Nat → Int → Int → Prop} {q n : Nat} {S : Int → Int → Prop} {T B : Nat → Int} (h : CnJ E q S T B n) (hs : ∀ t b, S t b ↔ E q t b) : CnI E (q + 1) T B n := by
  obtain ⟨a1, a2, a3, a4⟩ := h
  refine ⟨a1, fun i hi => ?_, fun p hp t b he => ?_⟩
  · rcases a2 i hi with ⟨p, h1, h2⟩ | h1
    · exact ⟨p, by omega, h2⟩
    · exact ⟨q, by omega, (hs _ _).mp h1⟩
  · rcases Nat.lt_or_ge p q with h1 | h1
    · exact a3 p h1 t b he
    · rw [show p = q by omega] at he; exact a4 t b ((hs _ _).mpr he)
theorem CnI.init {E : Nat → Int → Int → Prop} {T B : Nat → Int} : CnI E 0 T B 0 := ⟨⟨fun i h => absurd h (Nat.not_lt_zero _), fun i h => absurd h (Nat.not_lt_zero _)⟩, fun i h => absurd h (Nat.not_lt_zero _), fun p h => absurd h (Nat.not_lt_zero _)⟩
theorem insM_yes {T B T9 B9 : Nat → Int} {n p j : Nat} {t b : Int} (hp : p ≤ n) (hl : ∀ i, i < p → 0 < T i * b - t * B i) (hle : p < n → T p * b - t * B p ≤ 0) (hne : ¬ (p < n ∧ T p * b - t * B p = 0)) (h9 : ShR T B n j T9 B9) (hj : j = p) : InsM T B n t b (upZ T9 p t) (upZ B9 p b) (n + 1) := by
  subst hj
  refine ⟨j, hp, hl, hle, Or.inr ⟨hne, rfl, fun i hi => ?_, ⟨upZ_s .., upZ_s ..⟩, fun i h1 h2 => ?_⟩⟩
  · rw [upZ_n _ _ (by omega), upZ_n _ _ (by omega)]; exact h9.1 i (by omega)
  · rw [upZ_n _ _ (by omega), upZ_n _ _ (by omega)]; exact h9.2 i h1 h2
theorem AllR.gb {X : Nat → Nat → Int} {Y : Nat → Int} {K : Nat → Bool} {m n k2 : Nat} {yy2 : Int} {G2 : Nat → Nat → Int} {h2 : Nat → Int} (h : AllR X Y K m n k2 yy2 G2 h2) (hm : m ≤ 3) (hB : MbB X Y n) : (∀ a b, a < m → b < m → -1944 ≤ G2 a b ∧ G2 a b ≤ 1944) ∧ (∀ j, j < m → -21384 ≤ h2 j ∧ h2 j ≤ 21384) ∧ (0 ≤ yy2 ∧ yy2 ≤ 235224) := by
  have hg := h.hg hm hB
  obtain ⟨rfl, hy, -, -⟩ := h
  refine ⟨hg.2.1, hg.2.2.1, ?_⟩
  have yb : ∀ r, r ≤ n → 0 ≤ yyF Y K r ∧ yyF Y K r ≤ 9801 * (r : Int) := by
    intro r
    induction r with
    | zero => intro _; simp [yyF]
    | succ r ih =>
      intro hr
      have a := ih (by omega)
      have b := (hB.2 r (by omega)).2
      have c := mul_bd b b
      have d := sq_nn (Y r)
      show 0 ≤ yyF Y K r + _ ∧ yyF Y K r + _ ≤ _
      split <;> omega
  have := yb n (Nat.le_refl _); have := hB.1; rw [hy]; omega
section RC
variable {G H : Nat → Nat → Int} {h g : Nat → Int} {m p : Nat}
theorem aaM_congr (hp : p < 27) (hm : m ≤ 3) (hG : ∀ a b, a < m → b < m → G a b = H a b) (hh : ∀ j, j < m → h j = g j) {c : Nat} (hc : c < m) : ∀ i, i ≤ naM p m → aaM G h m p c i = aaM H g m p c i ∧ bbM G m p c i = bbM H m p c i
  | 0, _ => ⟨by show 2 * h c * dtM G p m = 2 * g c * dtM H p m; rw [hh c hc, dtM_congr hp hm hG], rfl⟩
  | i + 1, hi => by
    have ih := aaM_congr hp hm hG hh hc i (by omega)
    have hk := (cl_bit (stM_lt hp hm) hm (show i < naM p m by omega)).2.1
    refine ⟨?_, ?_⟩
    · show aaM G h m p c i - _ = aaM H g m p c i - _
      rw [ih.1, hG c _ hc hk, baM_congr hp hm hG hh hk]
    · show bbM G m p c i - _ = bbM H m p c i - _
      rw [ih.2, hG c _ hc hk, slM_congr hp hm hG hk]
theorem rgF_congr (hp : p < 27) (hm : m ≤ 3) (hG : ∀ a b, a < m → b < m → G a b = H a b) (hh : ∀ j, j < m → h j = g j) : ∀ c, c ≤ m → rgF G h m p c = rgF H g m p c
  | 0, _ => rfl
  | c + 1, hc => by
    have k := aaM_congr hp hm hG hh (show c < m by omega) (naM p m) (Nat.le_refl _)
    show rgC G h m p c (rgF G h m p c) = rgC H g m p c (rgF H g m p c)
    rw [rgF_congr hp hm hG hh c (by omega)]
    unfold rgC
    rw [k.1, k.2, dtM_congr hp hm hG, baM_congr hp hm hG hh (by omega), slM_congr hp hm hG (by omega)]
theorem EndP_congr (hp : p < 27) (hm : m ≤ 3) (hG : ∀ a b, a < m → b < m → G a b = H a b) (hh : ∀ j, j < m → h j = g j) (t b : Int) : EndP G h m p t b ↔ EndP H g m p t b := by
  unfold EndP rgE; rw [rgF_congr hp hm hG hh m (Nat.le_refl _)]
theorem CnI.congr {T B : Nat → Int} {n : Nat} (hc : CnI (EndP G h m) (3 ^ m) T B n) (hm : m ≤ 3) (hG : ∀ a b, a < m → b < m → G a b = H a b) (hh : ∀ j, j < m → h j = g j) : CnI (EndP H g m) (3 ^ m) T B n := by
  have h3 := pow3_le hm
  exact ⟨hc.1, fun i hi => by obtain ⟨p, h1, h2⟩ := hc.2.1 i hi; exact ⟨p, h1, (EndP_congr (by omega) hm hG hh _ _).mp h2⟩, fun p hp t b he => hc.2.2 p hp t b ((EndP_congr (by omega) hm hG hh _ _).mpr he)⟩
end RC
theorem bd_out {a b tl ul th uh top low : Int} {sr hd : Bool} (hb : ¬ b = 0) (hT : top = if 0 < b then (-a).tdiv ((Int.gcd a b : Nat) : Int) else a.tdiv ((Int.gcd a b : Nat) : Int)) (hL : low = if 0 < b then b.tdiv ((Int.gcd a b : Nat) : Int) else (-b).tdiv ((Int.gcd a b : Nat) : Int)) {tl2 ul2 th2 uh2 : Int}
    (h : (¬ b ≤ 0 ∧ sgnZ (top * ul - tl * low) ≤ 0 ∧ (tl2, ul2, th2, uh2) = (tl, ul, th, uh)) ∨ (¬ b ≤ 0 ∧ ¬ sgnZ (top * ul - tl * low) ≤ 0 ∧ (tl2, ul2, th2, uh2) = (top, low, th, uh)) ∨ (b ≤ 0 ∧ (uh = 0 ∨ (¬ uh = 0 ∧ ¬ 0 ≤ sgnZ (top * uh - th * low))) ∧ (tl2, ul2, th2, uh2) = (tl, ul, top, low)) ∨ (b ≤ 0 ∧ (¬ uh = 0 ∧ 0 ≤ sgnZ (top * uh - th * low)) ∧ (tl2, ul2, th2, uh2) = (tl, ul, th, uh))) : (hd, tl2, ul2, th2, uh2) = bdF a b sr (hd, tl, ul, th, uh) := by
  unfold bdF
  rw [if_neg hb]
  rcases h with ⟨h1, h2, e⟩ | ⟨h1, h2, e⟩ | ⟨h1, h2, e⟩ | ⟨h1, h2, e⟩
  · have hp : 0 < b := by omega
    rw [if_pos hp] at hT hL
    have := sgn_le h2
    rw [if_pos hp, ← hT, ← hL, e]
    exact (if_neg (show ¬ 0 < top * ul - tl * low by omega)).symm
  · have hp : 0 < b := by omega
    rw [if_pos hp] at hT hL
    have := sgn_gt h2
    rw [if_pos hp, ← hT, ← hL, e]
    exact (if_pos (show 0 < top * ul - tl * low by omega)).symm
  · have hp : ¬ 0 < b := by omega
    rw [if_neg hp] at hT hL
    rw [if_neg hp, ← hT, ← hL, e]
    exact (if_pos (show uh = 0 ∨ top * uh - th * low < 0 by rcases h2 with q | q; exact Or.inl q; exact Or.inr (sgn_lt q.2))).symm
  · have hp : ¬ 0 < b := by omega
    rw [if_neg hp] at hT hL
    have := sgn_ge h2.2
    rw [if_neg hp, ← hT, ← hL, e]
    exact (if_neg (show ¬ (uh = 0 ∨ top * uh - th * low < 0) by rintro (q | q); exact h2.1 q; omega)).symm
def CrR2 (T B : Nat → Int) (n : Nat) (t b : Int) (T2 B2 : Nat → Int) (n2 : Nat) : Prop := ((t = 0 ∨ b = 0) ∧ T2 = T ∧ B2 = B ∧ n2 = n) ∨ ((t ≠ 0 ∧ b ≠ 0) ∧ InsM T B n t b T2 B2 n2)
theorem CrR2.le {T B T2 B2 : Nat → Int} {n n2 : Nat} {t b : Int} (h : CrR2 T B n t b T2 B2 n2) : n2 ≤ n + 1 := by
  rcases h with h | ⟨-, p, -, -, -, h | h⟩ <;> omega
theorem CrR2.cr {T B T2 B2 : Nat → Int} {n n2 : Nat} {t b : Int} (h : CrR2 T B n t b T2 B2 n2) (hc : CrI T B n) (ht : B63 t) (hb : 0 ≤ b ∧ b ≤ 9223372036854775807) : CrI T2 B2 n2 := by
  rcases h with ⟨-, rfl, rfl, rfl⟩ | ⟨h1, h2⟩
  · exact hc
  · exact (hc.ins ht (by omega) h2).1
theorem cn_step {G : Nat → Nat → Int} {h : Nat → Int} {m p n n1 n2 : Nat} {T B T1 B1 T2 B2 : Nat → Int} {tl ul th uh : Int} (hc : CnI (EndP G h m) p T B n) (hr : (true, tl, ul, th, uh) = rgE G h m p) (hb : RgB (true, tl, ul, th, uh)) (h1 : CrR2 T B n tl ul T1 B1 n1) (h2 : CrR2 T1 B1 n1 th uh T2 B2 n2) : CnI (EndP G h m) (p + 1) T2 B2 n2 := by
  obtain ⟨b1, b2, b3, b4⟩ := hb
  simp only at b1 b2 b3 b4
  have hE : ∀ t b, EndP G h m p t b ↔ ((t = tl ∧ b = ul) ∨ (t = th ∧ b = uh)) ∧ t ≠ 0 ∧ b ≠ 0 := fun t b => by
    unfold EndP; rw [← hr]; simp
  have c0 := CnJ.of hc
  have c1 : CnJ (EndP G h m) p (fun t b => (t = tl ∧ b = ul) ∧ t ≠ 0 ∧ b ≠ 0) T1 B1 n1 := by
    rcases h1 with ⟨q, rfl, rfl, rfl⟩ | ⟨q, hi⟩
    · exact ⟨c0.1, fun i hi => by rcases c0.2.1 i hi with r | r; exact Or.inl r; exact r.elim, c0.2.2.1, fun t b r => by obtain ⟨⟨rfl, rfl⟩, r1, r2⟩ := r; rcases q with q | q; exact absurd q r1; exact absurd q r2⟩
    · exact c0.add b1 b2 hi ⟨⟨rfl, rfl⟩, q⟩ (fun _ _ r => r.elim) (fun t b r => Or.inr r.1)
  have c2 : CnJ (EndP G h m) p (fun t b => ((t = tl ∧ b = ul) ∨ (t = th ∧ b = uh)) ∧ t ≠ 0 ∧ b ≠ 0) T2 B2 n2 := by
    rcases h2 with ⟨q, rfl, rfl, rfl⟩ | ⟨q, hi⟩
    · refine ⟨c1.1, fun i hi => by rcases c1.2.1 i hi with r | r; exact Or.inl r; exact Or.inr ⟨Or.inl r.1, r.2⟩, c1.2.2.1, fun t b r => ?_⟩
      obtain ⟨r1 | ⟨rfl, rfl⟩, r2, r3⟩ := r
      · exact c1.2.2.2 t b ⟨r1, r2, r3⟩
      · rcases q with q | q
        · exact absurd q r2
        · exact absurd q r3
    · exact c1.add b3 (by have := q.2; omega) hi ⟨Or.inr ⟨rfl, rfl⟩, q⟩ (fun _ _ r => ⟨Or.inl r.1, r.2⟩) (fun t b r => by rcases r.1 with r1 | r1; exact Or.inl ⟨r1, r.2⟩; exact Or.inr r1)
  exact c2.done (fun t b => (hE t b).symm)
theorem cn_skip {G : Nat → Nat → Int} {h : Nat → Int} {m p n : Nat} {T B : Nat → Int} {hd : Bool} {tl ul th uh : Int} (hc : CnI (EndP G h m) p T B n) (hr : (hd, tl, ul, th, uh) = rgE G h m p) (hh : hd = false) : CnI (EndP G h m) (p + 1) T B n := by
  refine (CnJ.of hc).done (fun t b => ⟨fun q => q.elim, fun q => ?_⟩)
  have := q.1
  rw [← hr, hh] at this
  cases this
theorem sgn_z {z : Int} (h : sgnZ z = 0) : z = 0 := by rcases sgn_cases z with q | q | q <;> omega
theorem rg_out {G : Nat → Nat → Int} {h : Nat → Int} {m p : Nat} {hd j : Bool} {tl ul th uh : Int} (hr : (hd, tl, ul, th, uh) = rgF G h m p m)
    (hk : (hd = false ∧ j = false) ∨ (hd = true ∧ uh = 0 ∧ j = true) ∨ (hd = true ∧ ¬ uh = 0 ∧ 0 ≤ sgnZ (tl * uh - th * ul) ∧ j = false) ∨ (hd = true ∧ ¬ uh = 0 ∧ ¬ 0 ≤ sgnZ (tl * uh - th * ul) ∧ j = true)) : (j, tl, ul, th, uh) = rgE G h m p := by
  unfold rgE; rw [← hr]
  rcases hk with ⟨h1, rfl⟩ | ⟨h1, h2, rfl⟩ | ⟨h1, h2, h3, rfl⟩ | ⟨h1, h2, h3, rfl⟩
  · rw [h1]; rfl
  · simp [h1, h2]
  · have := sgn_ge h3; simp [h1, h2]; omega
  · have := sgn_lt h3; simp [h1, h2]; omega
