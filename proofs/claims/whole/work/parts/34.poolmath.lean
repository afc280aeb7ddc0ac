def PoOk (X Y : Nat → Int) (K : Nat → Bool) (n : Nat) (A B C T W : Nat → Int) (z : Int) : Prop := PoolR X Y K n A B C T W ∧ PoolT (cntK K n) A B C T ∧ z = ((cntK K n : Nat) : Int)
def SzOk (X Y : Nat → Int) (K : Nat → Bool) (n m : Nat) (t b : Int) (f : Nat → Int) : Prop := ∃ (A B C T W : Nat → Int) (f0 f1 f2 : Int), PoOk X Y K n A B C T W ((cntK K n : Nat) : Int) ∧ (t, b, f 0, f 1, f 2) = szAll A B C T (cntK K n) m f0 f1 f2
theorem cnt_ex {K : Nat → Bool} {j : Nat} : ∀ {n}, j < cntK K n → ∃ r, r < n ∧ K r = true ∧ cntK K r = j
  | 0, h => absurd h (Nat.not_lt_zero _)
  | n + 1, h => by
    have e : cntK K (n + 1) = cntK K n + if K n = true then 1 else 0 := rfl
    rw [e] at h
    rcases Nat.lt_or_ge j (cntK K n) with h2 | h2
    · obtain ⟨r, h3, h4⟩ := cnt_ex h2; exact ⟨r, by omega, h4⟩
    · by_cases hk : K n = true
      · rw [if_pos hk] at h; exact ⟨n, by omega, hk, by omega⟩
      · rw [if_neg hk] at h; omega
section PO
variable {X Y A B C T W : Nat → Int} {K : Nat → Bool} {n : Nat} {z : Int}
theorem PoOk.norm (h : PoOk X Y K n A B C T W z) : PoOk X Y K n A B C T W ((cntK K n : Nat) : Int) := ⟨h.1, h.2.1, rfl⟩
theorem PoOk.zE (h : PoOk X Y K n A B C T W z) : z = ((cntK K n : Nat) : Int) := h.2.2
theorem PoOk.plb (h : PoOk X Y K n A B C T W z) (hB : TbB X Y n) : PlB A B C T (cntK K n) := by
  obtain ⟨h1, h2, -⟩ := h
  intro j hj
  rcases Nat.lt_or_ge j (cntK K n) with h3 | h3
  · obtain ⟨r, hr, hk, rfl⟩ := cnt_ex h3
    obtain ⟨e1, e2, e3, e4, -⟩ := h1 r hr hk
    have hx := hB.2 r hr
    rw [e1, e2, e3, e4]
    exact ⟨hx.1 0 (by omega), hx.1 1 (by omega), hx.1 2 (by omega), hx.2⟩
  · rcases (show j = cntK K n ∨ j = cntK K n + 1 by omega) with rfl | rfl
    · obtain ⟨⟨e1, e2, e3, e4⟩, -⟩ := h2; rw [e1, e2, e3, e4]; omega
    · obtain ⟨-, e1, e2, e3, e4⟩ := h2; rw [e1, e2, e3, e4]; omega
end PO
theorem SqOk.rkG {X Y P R T S : Nat → Int} {K : Nat → Bool} {n : Nat} {ts rk : Int} (h : SqOk X Y K n P R T S ts rk) : rk0 P = rk0 (PG X K n) := rk0_congr (PG_at h.1)
