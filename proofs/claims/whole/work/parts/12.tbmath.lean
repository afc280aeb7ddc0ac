theorem fill_step {f g : Nat → Int} {c : Nat} {v : Int} (h : ∀ j, j < c → f j = g j) (hv : v = g c) : ∀ j, j < c + 1 → upZ f c v j = g j := by
  intro j hj
  by_cases e : j = c
  · rw [e, upZ_s, hv]
  · rw [upZ_n _ _ e]; exact h j (by omega)
/-- a row is put: what it answers, what the table holds then -/
def AddR (X Y : Nat → Int) (K : Nat → Bool) (m n q : Nat) (t a b c v2 : Int) (X2 Y2 : Nat → Int) (K2 : Nat → Bool) (n2 q2 : Nat) : Prop :=
  let fit : Prop := (-99 ≤ t ∧ t ≤ 99) ∧ (-9 ≤ a ∧ a ≤ 9) ∧ (m < 2 ∨ (-9 ≤ b ∧ b ≤ 9)) ∧ (m < 3 ∨ (-9 ≤ c ∧ c ≤ 9))
  ((¬ (n < 24 ∧ fit)) ∧ v2 = -1 ∧ X2 = X ∧ Y2 = Y ∧ K2 = K ∧ n2 = n ∧ q2 = q) ∨
  ((n < 24 ∧ fit) ∧ v2 = n ∧ X2 = upZ (upZ (upZ X (n * 3) a) (n * 3 + 1) (if m < 2 then 0 else b)) (n * 3 + 2) (if m < 3 then 0 else c) ∧ Y2 = upZ Y n t ∧ K2 = upB K n true ∧ n2 = n + 1 ∧ q2 = q + 1)
theorem AddR.no {X Y : Nat → Int} {K : Nat → Bool} {m n q : Nat} {t a b c : Int} (h : ¬ (n < 24 ∧ (-99 ≤ t ∧ t ≤ 99) ∧ (-9 ≤ a ∧ a ≤ 9) ∧ (m < 2 ∨ (-9 ≤ b ∧ b ≤ 9)) ∧ (m < 3 ∨ (-9 ≤ c ∧ c ≤ 9)))) : AddR X Y K m n q t a b c (-1) X Y K n q := Or.inl ⟨h, rfl, rfl, rfl, rfl, rfl, rfl⟩
def GAdd (P p X : Nat → Int) (r i j : Nat) : Prop := ∀ a b, a < 3 → b < 3 → p (a * 3 + b) = if a < i ∨ (a = i ∧ b < j) then P (a * 3 + b) + X (r * 3 + a) * X (r * 3 + b) else P (a * 3 + b)
theorem GAdd.init {P X : Nat → Int} {r : Nat} : GAdd P P X r 0 0 := by
  intro a b _ _
  rw [if_neg (by omega)]
theorem GAdd.next {P p X : Nat → Int} {r i : Nat} {j : Nat} (h : GAdd P p X r i j) (hj : 3 ≤ j) : GAdd P p X r (i + 1) 0 := by
  intro a b ha hb
  rw [h a b ha hb]
  by_cases e : a < i ∨ (a = i ∧ b < j)
  · rw [if_pos e, if_pos (by omega)]
  · rw [if_neg e, if_neg (by omega)]
theorem GAdd.step {P p X : Nat → Int} {r i j : Nat} {v : Int} (h : GAdd P p X r i j) (hi : i < 3) (hj : j < 3) (hv : v = p (i * 3 + j) + X (r * 3 + i) * X (r * 3 + j)) : GAdd P (upZ p (i * 3 + j) v) X r i (j + 1) := by
  intro a b ha hb
  by_cases e : a * 3 + b = i * 3 + j
  · obtain ⟨rfl, rfl⟩ : a = i ∧ b = j := by omega
    rw [upZ_s, hv, h a b ha hb, if_neg (by omega), if_pos (by omega)]
  · rw [upZ_n _ _ e, h a b ha hb]
    by_cases e2 : a < i ∨ (a = i ∧ b < j)
    · rw [if_pos e2, if_pos (by omega)]
    · rw [if_neg e2, if_neg (by omega)]
theorem GAdd.out {P p X : Nat → Int} {r i : Nat} (h : GAdd P p X r i 0) (hi : 3 ≤ i) : ∀ a b, a < 3 → b < 3 → p (a * 3 + b) = P (a * 3 + b) + X (r * 3 + a) * X (r * 3 + b) := by
  intro a b ha hb
  rw [h a b ha hb, if_pos (by omega)]
theorem radd_step {R r9 x : Nat → Int} {y : Int} {i : Nat} {v : Int} (h : ∀ j, j < 3 → r9 j = if j < i then R j + x j * y else R j) (hi : i < 3) (hv : v = r9 i + x i * y) : ∀ j, j < 3 → upZ r9 i v j = if j < i + 1 then R j + x j * y else R j := by
  intro j hj
  by_cases e : j = i
  · subst e; rw [upZ_s, hv, h j hj, if_neg (by omega), if_pos (by omega)]
  · rw [upZ_n _ _ e, h j hj]
    by_cases e2 : j < i
    · rw [if_pos e2, if_pos (by omega)]
    · rw [if_neg e2, if_neg (by omega)]
theorem AddR.yes {X Y : Nat → Int} {K : Nat → Bool} {m n q : Nat} {t a b c b2 c2 : Int} {j : Bool} (hb : ((m : Int) ≤ 1 ∧ b2 = 0) ∨ (¬ (m : Int) ≤ 1 ∧ b2 = b)) (hc : ((m : Int) ≤ 2 ∧ c2 = 0) ∨ (¬ (m : Int) ≤ 2 ∧ c2 = c))
    (hj : j = true → (-99 ≤ t ∧ t ≤ 99) ∧ (-9 ≤ a ∧ a ≤ 9) ∧ (-9 ≤ b2 ∧ b2 ≤ 9) ∧ (-9 ≤ c2 ∧ c2 ≤ 9)) (hn : n < 24) (h : j = true) : AddR X Y K m n q t a b c n (upZ (upZ (upZ X (n * 3) a) (n * 3 + 1) b2) (n * 3 + 2) c2) (upZ Y n t) (upB K n true) (n + 1) (q + 1) := by
  have hj := hj h
  have e1 : b2 = if m < 2 then 0 else b := by split <;> omega
  have e2 : c2 = if m < 3 then 0 else c := by split <;> omega
  exact Or.inr ⟨⟨hn, hj.1, hj.2.1, by omega, by omega⟩, rfl, by rw [e1, e2], rfl, rfl, rfl, rfl⟩
