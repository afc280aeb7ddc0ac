def t2 : Nat → Nat
  | 0 => 0
  | n + 1 => t2 n + n
def t3 : Nat → Nat
  | 0 => 0
  | n + 1 => t3 n + t2 n
theorem t2_of {j : Nat} (h : j ≤ 26) : ((j : Int) * ((j : Int) - 1)).tdiv 2 = ((t2 j : Nat) : Int) := by
  have : ∀ j : Fin 27, (((j.val : Nat) : Int) * (((j.val : Nat) : Int) - 1)).tdiv 2 = ((t2 j.val : Nat) : Int) := by decide +kernel
  exact this ⟨j, by omega⟩
theorem t3_of {j : Nat} (h : j ≤ 26) : ((j : Int) * ((j : Int) - 1) * ((j : Int) - 2)).tdiv 6 = ((t3 j : Nat) : Int) := by
  have : ∀ j : Fin 27, (((j.val : Nat) : Int) * (((j.val : Nat) : Int) - 1) * (((j.val : Nat) : Int) - 2)).tdiv 6 = ((t3 j.val : Nat) : Int) := by decide +kernel
  exact this ⟨j, by omega⟩
theorem t2_in {j : Nat} (h : j ≤ 26) : InI ((j : Int) * ((j : Int) - 1)) := by
  have := mul_bd (a := (j : Int)) (b := (j : Int) - 1) (A := 26) (B := 26) (by omega) (by omega)
  omega
theorem t3_in {j : Nat} (h : j ≤ 26) : InI ((j : Int) * ((j : Int) - 1) * ((j : Int) - 2)) := by
  have h1 := mul_bd (a := (j : Int)) (b := (j : Int) - 1) (A := 26) (B := 26) (by omega) (by omega)
  have h2 := mul_bd (b := (j : Int) - 2) (B := 26) h1 (by omega)
  omega
theorem t2_mono {a : Nat} : ∀ {b}, a ≤ b → t2 a ≤ t2 b
  | 0, h => by have : a = 0 := by omega
               subst this; exact Nat.le_refl _
  | b + 1, h => by
    rcases Nat.lt_or_ge b a with h2 | h2
    · have : a = b + 1 := by omega
      subst this; exact Nat.le_refl _
    · have := t2_mono (a := a) (b := b) h2; show t2 a ≤ t2 b + b; omega
theorem t3_mono {a : Nat} : ∀ {b}, a ≤ b → t3 a ≤ t3 b
  | 0, h => by have : a = 0 := by omega
               subst this; exact Nat.le_refl _
  | b + 1, h => by
    rcases Nat.lt_or_ge b a with h2 | h2
    · have : a = b + 1 := by omega
      subst this; exact Nat.le_refl _
    · have := t3_mono (a := a) (b := b) h2; show t3 a ≤ t3 b + t2 b; omega
theorem ix_2 {i j k : Nat} (hi : i < j) (hj : j < k) : t2 j + i < t2 k := by
  have h1 : t2 (j + 1) = t2 j + j := rfl
  have := t2_mono (a := j + 1) (b := k) hj
  omega
theorem ix_bd {i j k : Nat} (hi : i < j) (hj : j < k) (hk : k < 26) : t3 k + t2 j + i < 2600 := by
  have h1 : t3 (k + 1) = t3 k + t2 k := rfl
  have h2 := t3_mono (a := k + 1) (b := 26) hk
  have h3 : t3 26 = 2600 := by decide
  have := ix_2 hi hj
  omega
theorem ix_lt {i j k i' j' k' : Nat} (hi : i < j) (hj : j < k) (hi' : i' < j') (hj' : j' < k') (h : k' < k ∨ (k' = k ∧ (j' < j ∨ (j' = j ∧ i' < i)))) : t3 k' + t2 j' + i' < t3 k + t2 j + i := by
  rcases h with h | ⟨rfl, h | ⟨rfl, h⟩⟩
  · have h1 : t3 (k' + 1) = t3 k' + t2 k' := rfl
    have h2 := t3_mono (a := k' + 1) (b := k) h
    have := ix_2 hi' hj'
    omega
  · have h1 : t2 (j' + 1) = t2 j' + j' := rfl
    have := t2_mono (a := j' + 1) (b := j) h
    omega
  · omega
def VolR (A B C : Nat → Int) (pl : Nat) (V : Nat → Int) : Prop := ∀ i j k, i < j → j < k → k < pl → V (t3 k + t2 j + i) = dvZ A B C i j k
def VolI (A B C V : Nat → Int) (k j i : Nat) : Prop := ∀ i' j' k', i' < j' → j' < k' → (k' < k ∨ (k' = k ∧ (j' < j ∨ (j' = j ∧ i' < i)))) → V (t3 k' + t2 j' + i') = dvZ A B C i' j' k'
section VL
variable {A B C V : Nat → Int} {k j i pl : Nat}
theorem VolI.init : VolI A B C V 2 0 0 := by intro i' j' k' h1 h2 h3; omega
theorem VolI.nextJ (h : VolI A B C V k 0 0) : VolI A B C V k 1 0 := fun i' j' k' h1 h2 h3 => h i' j' k' h1 h2 (by omega)
theorem VolI.next (h : VolI A B C V k j i) (hi : j ≤ i) : VolI A B C V k (j + 1) 0 := fun i' j' k' h1 h2 h3 => h i' j' k' h1 h2 (by omega)
theorem VolI.nextK (h : VolI A B C V k j 0) (hj : k ≤ j) : VolI A B C V (k + 1) 0 0 := fun i' j' k' h1 h2 h3 => h i' j' k' h1 h2 (by omega)
theorem VolI.step {v : Int} (h : VolI A B C V k j i) (hi : i < j) (hj : j < k) (hv : v = dvZ A B C i j k) : VolI A B C (upZ V (t3 k + t2 j + i) v) k j (i + 1) := by
  intro i' j' k' h1 h2 h3
  by_cases e : k' = k ∧ j' = j ∧ i' = i
  · obtain ⟨rfl, rfl, rfl⟩ := e
    rw [upZ_s, hv]
  · have h4 : k' < k ∨ (k' = k ∧ (j' < j ∨ (j' = j ∧ i' < i))) := by omega
    have := ix_lt hi hj h1 h2 h4
    rw [upZ_n _ _ (by omega)]
    exact h i' j' k' h1 h2 h4
theorem VolI.out (h : VolI A B C V k 0 0) (hk : pl ≤ k) : VolR A B C pl V := fun i' j' k' h1 h2 h3 => h i' j' k' h1 h2 (by omega)
end VL
def lvT (A B C T : Nat → Int) (i j k l : Nat) : Int := ((T i * dvZ A B C j k l - T j * dvZ A B C i k l + T k * dvZ A B C i j l - T l * dvZ A B C i j k).natAbs : Int)
def lvB (A B C : Nat → Int) (i j k l : Nat) : Int := ((dvZ A B C j k l).natAbs : Int) + ((dvZ A B C i k l).natAbs : Int) + ((dvZ A B C i j l).natAbs : Int) + ((dvZ A B C i j k).natAbs : Int)
theorem lv_0 {A B C T : Nat → Int} {i j k l : Nat} (h : lvB A B C i j k l = 0) : lvT A B C T i j k l = 0 := by
  unfold lvB at h
  unfold lvT
  rw [show dvZ A B C j k l = 0 by omega, show dvZ A B C i k l = 0 by omega, show dvZ A B C i j l = 0 by omega, show dvZ A B C i j k = 0 by omega]
  simp
def LvS (A B C T : Nat → Int) (dn : Nat → Nat → Nat → Nat → Prop) (t b : Int) : Prop := ((0 ≤ t ∧ t ≤ 1732104) ∧ (0 < b ∧ b ≤ 17496)) ∧ (∀ i j k l, dn i j k l → lvT A B C T i j k l * b ≤ t * lvB A B C i j k l) ∧ ((t = 0 ∧ b = 1) ∨ ∃ i j k l, dn i j k l ∧ t = lvT A B C T i j k l ∧ b = lvB A B C i j k l)
def LvD (m z : Nat) (i j k l : Nat) : Prop := i < j ∧ j < k ∧ k < l ∧ l < z + (3 - m) ∧ (m < 3 → l = z + 2 - m) ∧ (m < 2 → k = z)
section LS
variable {A B C T : Nat → Int} {dn dn' : Nat → Nat → Nat → Nat → Prop} {t b : Int}
theorem LvS.congr (h : LvS A B C T dn t b) (he : ∀ i j k l, dn i j k l ↔ dn' i j k l) : LvS A B C T dn' t b := by
  obtain ⟨h1, h2, h3⟩ := h
  refine ⟨h1, fun i j k l hd => h2 i j k l ((he i j k l).mpr hd), ?_⟩
  rcases h3 with h3 | ⟨i, j, k, l, h4, h5⟩
  · exact Or.inl h3
  · exact Or.inr ⟨i, j, k, l, (he i j k l).mp h4, h5⟩
theorem LvS.init (h : ∀ i j k l, ¬ dn i j k l) : LvS A B C T dn 0 1 := ⟨⟨by decide, by decide⟩, fun i j k l hd => absurd hd (h i j k l), Or.inl ⟨rfl, rfl⟩⟩
theorem LvS.step {i j k l : Nat} {x y t' b' : Int} (h : LvS A B C T (fun i1 j1 k1 l1 => dn i1 j1 k1 l1 ∨ (j1 = j ∧ k1 = k ∧ l1 = l ∧ i1 < i)) t b) (hx : x = lvT A B C T i j k l) (hy : y = lvB A B C i j k l)
    (hk : (x * b ≤ t * y ∧ t' = t ∧ b' = b) ∨ (¬ x * b ≤ t * y ∧ t' = x ∧ b' = y)) (hxy : (x ≤ 1732104 ∧ y ≤ 17496)) : LvS A B C T (fun i1 j1 k1 l1 => dn i1 j1 k1 l1 ∨ (j1 = j ∧ k1 = k ∧ l1 = l ∧ i1 < i + 1)) t' b' := by
  obtain ⟨h1, h2, h3⟩ := h
  rcases hk with ⟨hc, rfl, rfl⟩ | ⟨hc, rfl, rfl⟩
  · refine ⟨h1, fun i1 j1 k1 l1 hd => ?_, ?_⟩
    · by_cases e : i1 = i ∧ j1 = j ∧ k1 = k ∧ l1 = l
      · obtain ⟨rfl, rfl, rfl, rfl⟩ := e
        rw [← hx, ← hy]; exact hc
      · exact h2 i1 j1 k1 l1 (by rcases hd with hd | hd; exact Or.inl hd; exact Or.inr (by omega))
    · rcases h3 with h3 | ⟨i1, j1, k1, l1, h4, h5⟩
      · exact Or.inl h3
      · exact Or.inr ⟨i1, j1, k1, l1, by rcases h4 with h4 | h4; exact Or.inl h4; exact Or.inr (by omega), h5⟩
  · have hx0 : 0 ≤ t' := by rw [hx]; unfold lvT; omega
    have hy0 : 0 ≤ b' := by rw [hy]; unfold lvB; omega
    have hyp : 0 < b' := by
      rcases Int.lt_or_le 0 b' with h | h
      · exact h
      · have e : b' = 0 := by omega
        have := lv_0 (A := A) (B := B) (C := C) (T := T) (i := i) (j := j) (k := k) (l := l) (by rw [← hy, e])
        rw [← hx] at this
        rw [this, e] at hc; simp at hc
    refine ⟨⟨⟨hx0, hxy.1⟩, hyp, hxy.2⟩, fun i1 j1 k1 l1 hd => ?_, Or.inr ⟨i, j, k, l, Or.inr ⟨rfl, rfl, rfl, by omega⟩, hx, hy⟩⟩
    by_cases e : i1 = i ∧ j1 = j ∧ k1 = k ∧ l1 = l
    · obtain ⟨rfl, rfl, rfl, rfl⟩ := e
      rw [← hx, ← hy]; exact Int.le_refl _
    · have h6 := h2 i1 j1 k1 l1 (by rcases hd with hd | hd; exact Or.inl hd; exact Or.inr (by omega))
      -- p * b ≤ t * q and t * b' < t' * b give p * b' ≤ t' * q
      have hq : 0 ≤ lvB A B C i1 j1 k1 l1 := by unfold lvB; omega
      generalize lvB A B C i1 j1 k1 l1 = q at *
      generalize lvT A B C T i1 j1 k1 l1 = p at *
      have a1 : p * b * b' ≤ t * q * b' := Int.mul_le_mul_of_nonneg_right h6 hy0
      have a2 : t * b' * q ≤ t' * b * q := Int.mul_le_mul_of_nonneg_right (by omega) hq
      have e1 : p * b * b' = (p * b') * b := by simp only [Int.mul_assoc, Int.mul_comm b]
      have e2 : t * q * b' = t * b' * q := by simp only [Int.mul_assoc, Int.mul_comm q]
      have e3 : t' * b * q = (t' * q) * b := by simp only [Int.mul_assoc, Int.mul_comm b]
      rw [e1, e2] at a1
      rw [e3] at a2
      exact Int.le_of_mul_le_mul_right (Int.le_trans a1 a2) h1.2.1
end LS
