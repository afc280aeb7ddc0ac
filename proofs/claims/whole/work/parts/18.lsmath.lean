def PlB (A B C T : Nat → Int) (z : Nat) : Prop := ∀ j, j < z + 2 → (-9 ≤ A j ∧ A j ≤ 9) ∧ (-9 ≤ B j ∧ B j ≤ 9) ∧ (-9 ≤ C j ∧ C j ≤ 9) ∧ (-99 ≤ T j ∧ T j ≤ 99)
theorem cr_bd {a b c d : Int} (ha : -9 ≤ a ∧ a ≤ 9) (hb : -9 ≤ b ∧ b ≤ 9) (hc : -9 ≤ c ∧ c ≤ 9) (hd : -9 ≤ d ∧ d ≤ 9) : -162 ≤ a * b - c * d ∧ a * b - c * d ≤ 162 := by
  have h1 := mul_bd ha hb
  have h2 := mul_bd hc hd
  omega
theorem cr_in {a b c d : Int} (ha : -9 ≤ a ∧ a ≤ 9) (hb : -9 ≤ b ∧ b ≤ 9) (hc : -9 ≤ c ∧ c ≤ 9) (hd : -9 ≤ d ∧ d ≤ 9) : InI (a * b - c * d) := by
  have := cr_bd ha hb hc hd
  omega
def dvZ (A B C : Nat → Int) (i j k : Nat) : Int := A i * (B j * C k - C j * B k) + B i * (C j * A k - A j * C k) + C i * (A j * B k - B j * A k)
def nuA (A B C T : Nat → Int) (i j k : Nat) : Int := T i * (B j * C k - C j * B k) + T j * (B k * C i - C k * B i) + T k * (B i * C j - C i * B j)
def nuB (A B C T : Nat → Int) (i j k : Nat) : Int := T i * (C j * A k - A j * C k) + T j * (C k * A i - A k * C i) + T k * (C i * A j - A i * C j)
def nuC (A B C T : Nat → Int) (i j k : Nat) : Int := T i * (A j * B k - B j * A k) + T j * (A k * B i - B k * A i) + T k * (A i * B j - B i * A j)
theorem dv_bd {A B C T : Nat → Int} {z i j k : Nat} (h : PlB A B C T z) (hi : i < z + 2) (hj : j < z + 2) (hk : k < z + 2) : -4374 ≤ dvZ A B C i j k ∧ dvZ A B C i j k ≤ 4374 := by
  obtain ⟨i1, i2, i3, -⟩ := h i hi
  obtain ⟨j1, j2, j3, -⟩ := h j hj
  obtain ⟨k1, k2, k3, -⟩ := h k hk
  have a := mul_bd i1 (cr_bd j2 k3 j3 k2)
  have b := mul_bd i2 (cr_bd j3 k1 j1 k3)
  have c := mul_bd i3 (cr_bd j1 k2 j2 k1)
  unfold dvZ
  omega
def SzB (x y w d : Int) : Prop := (-48114 ≤ x ∧ x ≤ 48114) ∧ (-48114 ≤ y ∧ y ≤ 48114) ∧ (-48114 ≤ w ∧ w ≤ 48114) ∧ (-4374 ≤ d ∧ d ≤ 4374)
theorem nu_SzB {A B C T : Nat → Int} {z i j k : Nat} {x y w d : Int} (h : PlB A B C T z) (hi : i < z + 2) (hj : j < z + 2) (hk : k < z + 2) (hd : d = dvZ A B C i j k) (hx : x = nuA A B C T i j k ∧ y = nuB A B C T i j k ∧ w = nuC A B C T i j k) : SzB x y w d := by
  have hdb := dv_bd h hi hj hk
  obtain ⟨i1, i2, i3, i4⟩ := h i hi
  obtain ⟨j1, j2, j3, j4⟩ := h j hj
  obtain ⟨k1, k2, k3, k4⟩ := h k hk
  obtain ⟨rfl, rfl, rfl⟩ := hx
  subst hd
  unfold SzB nuA nuB nuC
  have a1 := mul_bd i4 (cr_bd j2 k3 j3 k2); have a2 := mul_bd j4 (cr_bd k2 i3 k3 i2); have a3 := mul_bd k4 (cr_bd i2 j3 i3 j2)
  have b1 := mul_bd i4 (cr_bd j3 k1 j1 k3); have b2 := mul_bd j4 (cr_bd k3 i1 k1 i3); have b3 := mul_bd k4 (cr_bd i3 j1 i1 j3)
  have c1 := mul_bd i4 (cr_bd j1 k2 j2 k1); have c2 := mul_bd j4 (cr_bd k1 i2 k2 i1); have c3 := mul_bd k4 (cr_bd i1 j2 i2 j1)
  refine ⟨by omega, by omega, by omega, hdb⟩
def sumA (A B C T : Nat → Int) (x y w d : Int) : Nat → Int
  | 0 => 0
  | r + 1 => sumA A B C T x y w d r + ((T r * d - A r * x - B r * y - C r * w).natAbs : Int)
theorem ms_bd {A B C T : Nat → Int} {z r : Nat} {x y w d : Int} (h : PlB A B C T z) (hS : SzB x y w d) (hr : r < z + 2) : -1732104 ≤ T r * d - A r * x - B r * y - C r * w ∧ T r * d - A r * x - B r * y - C r * w ≤ 1732104 := by
  obtain ⟨r1, r2, r3, r4⟩ := h r hr
  obtain ⟨sx, sy, sw, sd⟩ := hS
  have a := mul_bd r4 sd; have b := mul_bd r1 sx; have c := mul_bd r2 sy; have e := mul_bd r3 sw
  omega
theorem sum_bd' {A B C T : Nat → Int} {z : Nat} {x y w d : Int} (h : PlB A B C T z) (hS : SzB x y w d) : ∀ r, r ≤ z + 2 → 0 ≤ sumA A B C T x y w d r ∧ sumA A B C T x y w d r ≤ 1732104 * r
  | 0, _ => by simp [sumA]
  | r + 1, hr => by
    have h1 := sum_bd' h hS r (by omega)
    have h2 := ms_bd h hS (r := r) (by omega)
    show 0 ≤ sumA A B C T x y w d r + _ ∧ sumA A B C T x y w d r + _ ≤ _
    omega
theorem sum_bd {A B C T : Nat → Int} {z r : Nat} {x y w d : Int} (h : PlB A B C T z) (hS : SzB x y w d) (hr : r ≤ z + 2) (hz : z ≤ 24 := by omega) : 0 ≤ sumA A B C T x y w d r ∧ sumA A B C T x y w d r ≤ 50000000 := by
  have := sum_bd' h hS r hr
  omega
theorem sum_mono {A B C T : Nat → Int} {x y w d : Int} {a : Nat} : ∀ {b}, a ≤ b → sumA A B C T x y w d a ≤ sumA A B C T x y w d b
  | 0, h => by have : a = 0 := by omega
               subst this; exact Int.le_refl _
  | b + 1, h => by
    rcases Nat.lt_or_ge b a with h2 | h2
    · have : a = b + 1 := by omega
      subst this; exact Int.le_refl _
    · have := sum_mono (A := A) (B := B) (C := C) (T := T) (x := x) (y := y) (w := w) (d := d) (a := a) (b := b) h2
      show _ ≤ sumA A B C T x y w d b + _
      omega
def sbZ (A B C T : Nat → Int) (x y w d b bd : Int) (z : Nat) : Int := if b ≠ 0 ∧ 0 < z ∧ bd ≤ sumA A B C T x y w d z * b then -1 else sumA A B C T x y w d z
theorem sb_no {A B C T : Nat → Int} {x y w d b bd q : Int} {z r : Nat} (hb : 0 ≤ b ∧ b ≤ 4374) (hr : r < z) (hq : q = sumA A B C T x y w d (r + 1)) (h0 : ¬ b = 0) (hl : bd ≤ q * b) (_ : PlB A B C T z) (_ : SzB x y w d) : -1 = sbZ A B C T x y w d b bd z := by
  unfold sbZ
  have := sum_mono (A := A) (B := B) (C := C) (T := T) (x := x) (y := y) (w := w) (d := d) (show r + 1 ≤ z by omega)
  rw [← hq] at this
  have h2 := Int.mul_le_mul_of_nonneg_right this hb.1
  rw [if_pos ⟨h0, by omega, by omega⟩]
theorem sb_yes {A B C T : Nat → Int} {x y w d b bd q : Int} {z r : Nat} (hq : q = sumA A B C T x y w d r) (hr : r = z) (hl : r = 0 ∨ b = 0 ∨ q * b < bd) : q = sbZ A B C T x y w d b bd z := by
  subst hr
  unfold sbZ
  rw [← hq, if_neg (by intro h; omega)]
theorem sb_bd {A B C T : Nat → Int} {x y w d b bd : Int} {z : Nat} (h : PlB A B C T z) (hS : SzB x y w d) (hz : z ≤ 24) : -1 ≤ sbZ A B C T x y w d b bd z ∧ sbZ A B C T x y w d b bd z ≤ 50000000 := by
  have := sum_bd h hS (show z ≤ z + 2 by omega)
  unfold sbZ
  split <;> omega
def sgD (d : Int) : Int := if d < 0 then -1 else 1
def TkR (A B C T : Nat → Int) (z : Nat) (x y w d t b : Int) (f : Nat → Int) (t2 b2 : Int) (f2 : Nat → Int) : Prop :=
  ((b = 0 ∨ sumA A B C T x y w d z * b < t * (d.natAbs : Int)) ∧ t2 = sumA A B C T x y w d z ∧ b2 = (d.natAbs : Int) ∧ f2 0 = sgD d * x ∧ f2 1 = sgD d * y ∧ f2 2 = sgD d * w) ∨ (¬ (b = 0 ∨ sumA A B C T x y w d z * b < t * (d.natAbs : Int)) ∧ t2 = t ∧ b2 = b ∧ f2 = f)
theorem TkR.of {A B C T : Nat → Int} {z : Nat} {x y w d t b : Int} {f : Nat → Int} {t2 b2 : Int} {f2 : Nat → Int} {sg nb q : Int} (hd : d ≠ 0) (hz : 1 ≤ z) (hb : 0 ≤ b ∧ b ≤ 4374) (hsg : (0 ≤ d ∧ sg = 1) ∨ (¬ 0 ≤ d ∧ sg = -1)) (hnb : nb = sg * d) (hB : PlB A B C T z) (hS : SzB x y w d) (hq : q = sbZ A B C T x y w d b (t * nb) z)
    (hk : (q = -1 ∧ t2 = t ∧ b2 = b ∧ f2 = f) ∨ (¬ q = -1 ∧ t2 = q ∧ b2 = nb ∧ f2 = upZ (upZ (upZ f 0 (sg * x)) 1 (sg * y)) 2 (sg * w))) (hz2 : z ≤ 24) : TkR A B C T z x y w d t b f t2 b2 f2 := by
  have hn : nb = (d.natAbs : Int) := by rcases hsg with h | h <;> rw [hnb, h.2] <;> omega
  have hs : sg = sgD d := by unfold sgD; rcases hsg with h | h; rw [if_neg (by omega), h.2]; rw [if_pos (by omega), h.2]
  have hsb := sum_bd hB hS (show z ≤ z + 2 by omega)
  rw [hn] at hq hk
  unfold sbZ at hq
  by_cases hc : b ≠ 0 ∧ 0 < z ∧ t * (d.natAbs : Int) ≤ sumA A B C T x y w d z * b
  · rw [if_pos hc] at hq
    rcases hk with ⟨-, h1, h2, h3⟩ | ⟨h, -⟩
    · exact Or.inr ⟨by omega, h1, h2, h3⟩
    · exact absurd hq h
  · rw [if_neg hc] at hq
    rcases hk with ⟨h, -⟩ | ⟨-, h1, h2, h3⟩
    · omega
    · refine Or.inl ⟨by omega, by rw [h1, hq], h2, ?_, ?_, ?_⟩ <;> rw [h3, hs] <;> simp [upZ]
/-! choices, rising, in the order of their first difference -/
def adv (z : Nat) : List Nat → Option (List Nat)
  | [] => none
  | x :: xs => match adv z xs with
    | some ys => some (x :: ys)
    | none => if x + (xs.length + 1) < z then some (List.range' (x + 1) (xs.length + 1)) else none
theorem adv_none {z : Nat} : ∀ (p : List Nat), (∀ i, i < p.length → ¬ p.getD i 0 + (p.length - i) < z) → adv z p = none
  | [], _ => rfl
  | x :: xs, h => by
    have ih := adv_none xs (fun i hi => by have := h (i + 1) (by simp; omega); simp at this ⊢; omega)
    have h0 := h 0 (by simp)
    simp at h0
    show (match adv z xs with | some ys => some (x :: ys) | none => if x + (xs.length + 1) < z then some (List.range' (x + 1) (xs.length + 1)) else none) = none
    rw [ih]
    exact if_neg (by omega)
theorem adv_some {z : Nat} : ∀ (p : List Nat) (i : Nat), i < p.length → p.getD i 0 + (p.length - i) < z → (∀ j, i < j → j < p.length → ¬ p.getD j 0 + (p.length - j) < z) → adv z p = some (p.take i ++ List.range' (p.getD i 0 + 1) (p.length - i))
  | [], i, h, _, _ => by simp at h
  | x :: xs, 0, _, h1, h2 => by
    have ih := adv_none (z := z) xs (fun i hi => by have := h2 (i + 1) (by omega) (by simp; omega); simp at this ⊢; omega)
    simp at h1
    show (match adv z xs with | some ys => some (x :: ys) | none => if x + (xs.length + 1) < z then some (List.range' (x + 1) (xs.length + 1)) else none) = _
    rw [ih]
    show (if x + (xs.length + 1) < z then _ else _) = _
    rw [if_pos (by omega)]
    simp
  | x :: xs, i + 1, h0, h1, h2 => by
    have ih := adv_some (z := z) xs i (by simp at h0; omega) (by simp at h1 ⊢; omega) (fun j a b => by have := h2 (j + 1) (by omega) (by simp; omega); simp at this ⊢; omega)
    show (match adv z xs with | some ys => some (x :: ys) | none => if x + (xs.length + 1) < z then some (List.range' (x + 1) (xs.length + 1)) else none) = _
    rw [ih]
    simp
def PkL (k z : Nat) (P : Nat → Int) (p : List Nat) : Prop := p.length = k ∧ (∀ i, i < k → P i = ((p.getD i 0 : Nat) : Int)) ∧ ∀ i, i < k → p.getD i 0 + (k - i) ≤ z
theorem PkL.adv {k z : Nat} {P P2 : Nat → Int} {p : List Nat} {v : Bool} (h : PkL k z P p) (ha : AdvR k z P v P2) : (v = false ∧ adv z p = none) ∨ (v = true ∧ ∃ p', adv z p = some p' ∧ PkL k z P2 p') := by
  obtain ⟨hk, hP, hb⟩ := h
  subst hk
  rcases ha with ⟨hv, h1, -⟩ | ⟨hv, i, hi, h1, h2, h3, h4⟩
  · refine Or.inl ⟨hv, adv_none p fun i hi => ?_⟩
    have := h1 i hi; rw [hP i hi] at this; have := hb i hi; omega
  · have hbi := hb i hi
    have e := adv_some (z := z) p i hi (by rw [hP i hi] at h1; omega) (fun j a b => by have := h2 j a b; rw [hP j b] at this; have := hb j b; omega)
    refine Or.inr ⟨hv, _, e, ?_⟩
    have hlen : (p.take i ++ List.range' (p.getD i 0 + 1) (p.length - i)).length = p.length := by simp; omega
    have at1 : ∀ j, j < i → (p.take i ++ List.range' (p.getD i 0 + 1) (p.length - i)).getD j 0 = p.getD j 0 := by
      intro j hj
      have hj2 : j < p.length := by omega
      have hmin : min i p.length = i := by omega
      simp [List.getD_eq_getElem?_getD, List.getElem?_append, hj, hj2, hmin, List.getElem?_take]
    have at2 : ∀ j, i ≤ j → j < p.length → (p.take i ++ List.range' (p.getD i 0 + 1) (p.length - i)).getD j 0 = p.getD i 0 + 1 + (j - i) := by
      intro j h5 h6
      have hmin : min i p.length = i := by omega
      have h7 : ¬ j < i := by omega
      have h8 : j - i < p.length - i := by omega
      simp [List.getD_eq_getElem?_getD, List.getElem?_append, h7, hmin, List.getElem?_range', h8]
    refine ⟨hlen, fun j hj => ?_, fun j hj => ?_⟩
    · rcases Nat.lt_or_ge j i with h5 | h5
      · rw [h3 j h5, at1 j h5, hP j hj]
      · rw [h4 j h5 hj, at2 j h5 hj, hP i hi]; omega
    · rcases Nat.lt_or_ge j i with h5 | h5
      · rw [at1 j h5]; exact hb j hj
      · rw [at2 j h5 hj]; rw [hP i hi] at h1; omega
def itr {α : Type} (z : Nat) (step : α → List Nat → α) : Nat → List Nat → α → α
  | 0, _, a => a
  | n + 1, p, a => match adv z p with
    | none => step a p
    | some p' => itr z step n p' (step a p)
def plc (p : List Nat) (z i : Nat) : Nat := if i < p.length then p.getD i 0 else z + i - p.length
abbrev SzA : Type := Int × Int × Int × Int × Int
def szStep (A B C T : Nat → Int) (z : Nat) (a : SzA) (p : List Nat) : SzA :=
  let i := plc p z 0; let j := plc p z 1; let k := plc p z 2
  let d := dvZ A B C i j k; let x := nuA A B C T i j k; let y := nuB A B C T i j k; let w := nuC A B C T i j k
  if d = 0 then a else if a.2.1 = 0 ∨ sumA A B C T x y w d z * a.2.1 < a.1 * (d.natAbs : Int) then (sumA A B C T x y w d z, (d.natAbs : Int), sgD d * x, sgD d * y, sgD d * w) else a
def szAll (A B C T : Nat → Int) (z m : Nat) (f0 f1 f2 : Int) : SzA := if m ≤ z then itr z (szStep A B C T z) 10000 (List.range m) (0, 0, f0, f1, f2) else (0, 0, f0, f1, f2)
def BdT (t b : Int) : Prop := (0 ≤ t ∧ t ≤ 50000000) ∧ (0 ≤ b ∧ b ≤ 4374)
def SzP (A B C T : Nat → Int) (z m : Nat) (fin : SzA) (tu : Nat) (t b : Int) (f p : Nat → Int) (k9 z9 : Int) (pl : List Nat) : Prop := BdT t b ∧ tu ≤ 10000 ∧ m ≤ z ∧ (k9 = m ∧ z9 = z) ∧ PkL m z p pl ∧ (1 ≤ m ∧ m ≤ 3 ∧ z ≤ 24) ∧ fin = itr z (szStep A B C T z) (10000 - tu) pl (t, b, f 0, f 1, f 2)
def SzI (A B C T : Nat → Int) (z m : Nat) (fin : SzA) (mo : Bool) (tu : Nat) (t b : Int) (f p : Nat → Int) (k9 z9 : Int) : Prop := (mo = false ∧ fin = (t, b, f 0, f 1, f 2)) ∨ (mo = true ∧ ∃ pl, SzP A B C T z m fin tu t b f p k9 z9 pl)
section SZ
variable {A B C T f p : Nat → Int} {z m tu : Nat} {fin : SzA} {mo : Bool} {t b k9 z9 : Int} {pl : List Nat}
theorem SzI.some (h : SzI A B C T z m fin mo tu t b f p k9 z9) (hm : mo = true) : ∃ pl, SzP A B C T z m fin tu t b f p k9 z9 pl := by
  rcases h with h | h
  · rw [hm] at h; cases h.1
  · exact h.2
theorem SzI.out (h : SzI A B C T z m fin mo tu t b f p k9 z9) (hx : mo = false ∨ 10000 ≤ tu) : (t, b, f 0, f 1, f 2) = fin := by
  rcases h with h | ⟨h1, pl, h2⟩
  · exact h.2.symm
  · rcases hx with hx | hx
    · rw [h1] at hx; cases hx
    · obtain ⟨-, h3, -, -, -, -, h4⟩ := h2
      have : tu = 10000 := by omega
      subst this
      exact h4.symm
theorem SzI.init {v : Bool} {k2 z2 : Int} {p2 : Nat → Int} (hm : 1 ≤ m ∧ m ≤ 3) (hz : z ≤ 24) (h : (v = false ∧ ¬ (0 ≤ (m : Int) ∧ (m : Int) ≤ (z : Int) ∧ (m : Int) ≤ 10)) ∨ (v = true ∧ (0 ≤ (m : Int) ∧ (m : Int) ≤ (z : Int) ∧ (m : Int) ≤ 10) ∧ k2 = (m : Int) ∧ z2 = (z : Int) ∧ ∀ i : Nat, (i : Int) < (m : Int) → p2 i = i)) : SzI A B C T z m (szAll A B C T z m (f 0) (f 1) (f 2)) v 0 0 0 f p2 k2 z2 := by
  rcases h with ⟨h1, h2⟩ | ⟨h1, h2, h3, h4, h5⟩
  · refine Or.inl ⟨h1, ?_⟩
    unfold szAll; rw [if_neg (by omega)]
  · refine Or.inr ⟨h1, List.range m, ⟨by decide, by decide⟩, by omega, by omega, ⟨h3, h4⟩, ⟨by simp, fun i hi => ?_, fun i hi => ?_⟩, ⟨hm.1, hm.2, hz⟩, ?_⟩
    · rw [h5 i (by omega)]; simp [List.getD_eq_getElem?_getD, List.getElem?_range hi]
    · simp [List.getD_eq_getElem?_getD, List.getElem?_range hi]; omega
    · unfold szAll; rw [if_pos (by omega)]
theorem SzP.tuL (h : SzP A B C T z m fin tu t b f p k9 z9 pl) : tu ≤ 10000 := h.2.1
theorem SzP.bd (h : SzP A B C T z m fin tu t b f p k9 z9 pl) : BdT t b := h.1
theorem SzP.mz (h : SzP A B C T z m fin tu t b f p k9 z9 pl) : m ≤ z := h.2.2.1
theorem SzP.kE (h : SzP A B C T z m fin tu t b f p k9 z9 pl) : k9 = m := h.2.2.2.1.1
theorem SzP.zE (h : SzP A B C T z m fin tu t b f p k9 z9 pl) : z9 = z := h.2.2.2.1.2
theorem SzP.pos (h : SzP A B C T z m fin tu t b f p k9 z9 pl) : ∀ i, i < m → 0 ≤ p i ∧ p i ≤ 1000 := by
  obtain ⟨-, -, -, -, ⟨-, h1, h2⟩, h3, -⟩ := h
  intro i hi
  rw [h1 i hi]; have := h2 i hi; omega
theorem SzP.lt (h : SzP A B C T z m fin tu t b f p k9 z9 pl) (i : Nat) (hi : i < 3) : plc pl z i < z + 2 := by
  obtain ⟨-, -, -, -, ⟨h0, h1, h2⟩, h3, -⟩ := h
  unfold plc
  split
  · have := h2 i (by omega); omega
  · omega
theorem SzP.atp (h : SzP A B C T z m fin tu t b f p k9 z9 pl) (i : Nat) (hi : i < 3) : (if i < m then p i else ((z : Int) + i - m)) = ((plc pl z i : Nat) : Int) := by
  obtain ⟨-, -, h9, -, ⟨h0, h1, h2⟩, h3, -⟩ := h
  unfold plc
  rw [h0]
  by_cases e : i < m
  · rw [if_pos e, if_pos e, h1 i e]
  · rw [if_neg e, if_neg e]; omega
theorem SzP.next {t' b' : Int} {f' p2 : Nat → Int} {v : Bool} (h : SzP A B C T z m fin tu t b f p k9 z9 pl) (htu : tu < 10000) (hB : PlB A B C T z)
    (hs : (dvZ A B C (plc pl z 0) (plc pl z 1) (plc pl z 2) = 0 ∧ t' = t ∧ b' = b ∧ f' = f) ∨ (¬ dvZ A B C (plc pl z 0) (plc pl z 1) (plc pl z 2) = 0 ∧ TkR A B C T z (nuA A B C T (plc pl z 0) (plc pl z 1) (plc pl z 2)) (nuB A B C T (plc pl z 0) (plc pl z 1) (plc pl z 2)) (nuC A B C T (plc pl z 0) (plc pl z 1) (plc pl z 2)) (dvZ A B C (plc pl z 0) (plc pl z 1) (plc pl z 2)) t b f t' b' f'))
    (ha : AdvR m z p v p2) : SzI A B C T z m fin v (tu + 1) t' b' f' p2 (m : Int) (z : Int) := by
  have l0 := h.lt 0 (by omega); have l1 := h.lt 1 (by omega); have l2 := h.lt 2 (by omega)
  obtain ⟨h1, h2, h3, h4, h5, h6, h7⟩ := h
  have hstep : szStep A B C T z (t, b, f 0, f 1, f 2) pl = (t', b', f' 0, f' 1, f' 2) ∧ BdT t' b' := by
    unfold szStep
    rcases hs with ⟨e, rfl, rfl, rfl⟩ | ⟨e, hk⟩
    · exact ⟨if_pos e, h1⟩
    · rw [if_neg e]
      have hS := nu_SzB (x := _) (y := _) (w := _) (d := _) hB l0 l1 l2 rfl ⟨rfl, rfl, rfl⟩
      have hsb := sum_bd hB hS (show z ≤ z + 2 by omega)
      have hdb := dv_bd hB l0 l1 l2
      rcases hk with ⟨c, rfl, rfl, e0, e1, e2⟩ | ⟨c, rfl, rfl, rfl⟩
      · rw [e0, e1, e2]; exact ⟨if_pos c, hsb, by omega⟩
      · exact ⟨if_neg c, h1⟩
  obtain ⟨n, hn⟩ : ∃ n, 10000 - tu = n + 1 := ⟨10000 - tu - 1, by omega⟩
  have hn2 : 10000 - (tu + 1) = n := by omega
  rw [hn] at h7
  rcases h5.adv ha with ⟨hv, e⟩ | ⟨hv, p', e, hp'⟩
  · refine Or.inl ⟨hv, ?_⟩
    rw [h7]
    show (match adv z pl with | none => _ | some p' => _) = _
    rw [e]; exact hstep.1
  · refine Or.inr ⟨hv, p', hstep.2, by omega, h3, ⟨rfl, rfl⟩, hp', h6, ?_⟩
    rw [h7, hn2, ← hstep.1]
    show (match adv z pl with | none => _ | some p' => _) = _
    rw [e]
end SZ
theorem nu_TkR {A B C T : Nat → Int} {z i j k : Nat} {x y w d t b : Int} {f : Nat → Int} {t2 b2 : Int} {f2 : Nat → Int} (hd : d = dvZ A B C i j k) (hx : x = nuA A B C T i j k ∧ y = nuB A B C T i j k ∧ w = nuC A B C T i j k) (h : TkR A B C T z x y w d t b f t2 b2 f2) : TkR A B C T z (nuA A B C T i j k) (nuB A B C T i j k) (nuC A B C T i j k) (dvZ A B C i j k) t b f t2 b2 f2 := by
  obtain ⟨rfl, rfl, rfl⟩ := hx
  subst hd
  exact h
