/-! the numbers: ints and longs as whole numbers, wrapped -/
def lI (z : Int) : Int64 := Int64.ofInt z
def iI (z : Int) : Int32 := Int32.ofInt z
def bI (b : Bool) : Int32 := if b = true then 1 else 0
def upZ (f : Nat → Int) (k : Nat) (v : Int) : Nat → Int := fun j => if j = k then v else f j
def upB (f : Nat → Bool) (k : Nat) (v : Bool) : Nat → Bool := fun j => if j = k then v else f j
abbrev InI (z : Int) : Prop := -2147483648 ≤ z ∧ z < 2147483648
abbrev InL (z : Int) : Prop := -9223372036854775808 ≤ z ∧ z < 9223372036854775808
theorem lI_add (a b : Int) : lI a + lI b = lI (a + b) := by simp [lI, Int64.ofInt_add]
theorem lI_sub (a b : Int) : lI a - lI b = lI (a - b) := by simp [lI, Int64.ofInt_sub]
theorem lI_mul (a b : Int) : lI a * lI b = lI (a * b) := by simp [lI, Int64.ofInt_mul]
theorem lI_neg (a : Int) : -lI a = lI (-a) := by simp [lI, Int64.ofInt_neg]
theorem iI_add (a b : Int) : iI a + iI b = iI (a + b) := by simp [iI, Int32.ofInt_add]
theorem iI_sub (a b : Int) : iI a - iI b = iI (a - b) := by simp [iI, Int32.ofInt_sub]
theorem iI_mul (a b : Int) : iI a * iI b = iI (a * b) := by simp [iI, Int32.ofInt_mul]
theorem iI_neg (a : Int) : -iI a = iI (-a) := by simp [iI, Int32.ofInt_neg]
theorem iI_toInt {a : Int} (h : InI a) : (iI a).toInt = a := by
  unfold iI; rw [Int32.toInt_ofInt, show Int32.size = 4294967296 from rfl]; exact Int.bmod_eq_of_le (by omega) (by omega)
theorem lI_toInt {a : Int} (h : InL a) : (lI a).toInt = a := by
  unfold lI; rw [Int64.toInt_ofInt, show Int64.size = 18446744073709551616 from rfl]; exact Int.bmod_eq_of_le (by omega) (by omega)
theorem iI_self (x : Int32) : iI x.toInt = x := by simp [iI]
theorem lI_self (x : Int64) : lI x.toInt = x := by simp [lI]
theorem iI_in (x : Int32) : InI x.toInt := ⟨Int32.le_toInt x, Int32.toInt_lt x⟩
theorem iI_lt {a b : Int} (ha : InI a) (hb : InI b) : iI a < iI b ↔ a < b := by rw [Int32.lt_iff_toInt_lt, iI_toInt ha, iI_toInt hb]
theorem iI_le {a b : Int} (ha : InI a) (hb : InI b) : iI a ≤ iI b ↔ a ≤ b := by rw [Int32.le_iff_toInt_le, iI_toInt ha, iI_toInt hb]
theorem iI_eq {a b : Int} (ha : InI a) (hb : InI b) : iI a = iI b ↔ a = b := ⟨fun h => by have := congrArg Int32.toInt h; rwa [iI_toInt ha, iI_toInt hb] at this, fun h => by rw [h]⟩
theorem lI_lt {a b : Int} (ha : InL a) (hb : InL b) : lI a < lI b ↔ a < b := by rw [Int64.lt_iff_toInt_lt, lI_toInt ha, lI_toInt hb]
theorem lI_le {a b : Int} (ha : InL a) (hb : InL b) : lI a ≤ lI b ↔ a ≤ b := by rw [Int64.le_iff_toInt_le, lI_toInt ha, lI_toInt hb]
theorem lI_eq {a b : Int} (ha : InL a) (hb : InL b) : lI a = lI b ↔ a = b := ⟨fun h => by have := congrArg Int64.toInt h; rwa [lI_toInt ha, lI_toInt hb] at this, fun h => by rw [h]⟩
theorem iI_0 : iI 0 = 0 := rfl
theorem lI_0 : lI 0 = 0 := rfl
theorem iI_lt0 {a : Int} (ha : InI a) : iI a < 0 ↔ a < 0 := by rw [← iI_0]; exact iI_lt ha (by decide)
theorem iI_le0 {a : Int} (ha : InI a) : iI a ≤ 0 ↔ a ≤ 0 := by rw [← iI_0]; exact iI_le ha (by decide)
theorem iI_ge0 {a : Int} (ha : InI a) : 0 ≤ iI a ↔ 0 ≤ a := by rw [← iI_0]; exact iI_le (by decide) ha
theorem iI_gt0 {a : Int} (ha : InI a) : 0 < iI a ↔ 0 < a := by rw [← iI_0]; exact iI_lt (by decide) ha
theorem iI_eq0 {a : Int} (ha : InI a) : iI a = 0 ↔ a = 0 := by rw [← iI_0]; exact iI_eq ha (by decide)
theorem lI_eq0 {a : Int} (ha : InL a) : lI a = 0 ↔ a = 0 := by rw [← lI_0]; exact lI_eq ha (by decide)
theorem iI_l {a : Int} (h : InI a) : (iI a).toInt64 = lI a := by
  have h1 : ((iI a).toInt64).toInt = (lI a).toInt := by rw [Int32.toInt_toInt64, iI_toInt h, lI_toInt (by omega)]
  exact Int64.toInt_inj.mp h1
theorem iI_clamp {z : Int} {k : Nat} (h : z = (k : Int)) (hk : k < 2147483648) : (iI z).toNatClampNeg = k := by
  have h1 := iI_toInt (a := z) (by omega)
  show ((iI z).toInt).toNat = k
  rw [h1, h]; simp
theorem iI_vin {z : Int} {k n : Nat} (h : z = (k : Int)) (hk : k < n) (hn : n < 2147483648) : vp_in (iI z) n := by
  unfold vp_in
  rw [iI_clamp h (by omega), iI_lt0 (by omega)]
  omega
theorem lI_ldiv {a b : Int} (ha : InL a) (hb : InL b) (hne : b ≠ 0) (hm : ¬ (a = -9223372036854775808 ∧ b = -1)) : lI a / lI b = lI (a.tdiv b) := by
  apply Int64.toInt_inj.mp
  rw [Int64.toInt_div, lI_toInt ha, lI_toInt hb]
  unfold lI; rw [Int64.toInt_ofInt]
theorem lI_lrem {a b : Int} (ha : InL a) (hb : InL b) (hne : b ≠ 0) : lI a - lI a / lI b * lI b = lI (a.tmod b) := by
  have h0 : lI a / lI b = lI (a.tdiv b) := by
    apply Int64.toInt_inj.mp
    rw [Int64.toInt_div, lI_toInt ha, lI_toInt hb]
    unfold lI; rw [Int64.toInt_ofInt]
  rw [h0, lI_mul, lI_sub]
  congr 1
  rw [Int.tmod_def, Int.mul_comm]
theorem iI_idiv {a b : Int} (ha : InI a) (hb : InI b) : iI a / iI b = iI (a.tdiv b) := by
  apply Int32.toInt_inj.mp
  rw [Int32.toInt_div, iI_toInt ha, iI_toInt hb]
  unfold iI; rw [Int32.toInt_ofInt]
theorem iI_irem {a b : Int} (ha : InI a) (hb : InI b) : iI a - iI a / iI b * iI b = iI (a.tmod b) := by
  rw [iI_idiv ha hb, iI_mul, iI_sub]
  congr 1
  rw [Int.tmod_def, Int.mul_comm]
theorem bI_eq0 (b : Bool) : bI b = 0 ↔ b = false := by cases b <;> decide
theorem bI_eq (a b : Bool) : bI a = bI b ↔ a = b := by cases a <;> cases b <;> decide
theorem bI_t : bI true = 1 := rfl
theorem bI_f : bI false = 0 := rfl
theorem upZ_s (f : Nat → Int) (k : Nat) (v : Int) : upZ f k v k = v := by simp [upZ]
theorem upZ_n (f : Nat → Int) {k j : Nat} (v : Int) (h : j ≠ k) : upZ f k v j = f j := by simp [upZ, h]
theorem upB_s (f : Nat → Bool) (k : Nat) (v : Bool) : upB f k v k = v := by simp [upB]
theorem upB_n (f : Nat → Bool) {k j : Nat} (v : Bool) (h : j ≠ k) : upB f k v j = f j := by simp [upB, h]
theorem upZ_l (f : Nat → Int) (k : Nat) (v : Int) : vp_updL (fun j => lI (f j)) k (lI v) = fun j => lI (upZ f k v j) := by
  funext j; by_cases h : j = k <;> simp [vp_updL, upZ, h]
theorem upZ_i (f : Nat → Int) (k : Nat) (v : Int) : upd (fun j => iI (f j)) k (iI v) = fun j => iI (upZ f k v j) := by
  funext j; by_cases h : j = k <;> simp [upd, upZ, h]
theorem upB_i (f : Nat → Bool) (k : Nat) (v : Bool) : upd (fun j => bI (f j)) k (bI v) = fun j => bI (upB f k v j) := by
  funext j; by_cases h : j = k <;> simp [upd, upB, h]
theorem bI_nar (b : Bool) : vp_nar .boolean (bI b) = bI b := by cases b <;> rfl
