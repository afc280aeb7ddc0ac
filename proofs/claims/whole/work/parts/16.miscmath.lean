section GR3
variable {l : Launch} {R : Room} {D : va_G} {tys : gTy} {cc : ByteArray} {own : String} {nL : Nat} {ret : Option FieldType} {as : List Nat} {Post : PS} {G : GS} {pc : Nat} {lv : List (Nat × Value)} {st : List Value} {ws : va_W}
theorem g_iincE (hG : Rl l R D tys cc own nL ret as Post G) {i : Nat} {n z z' : Int} {lv' : List (Nat × Value)} (k : Nat) (hk : lv[k]? = some (i, iV z)) (hn : i < nL) (he : z + n = z') (hl' : (i, iV z') :: lv.filter (fun q => !(q.1 == i) && !(q.1 + 1 == i && q.2.category == 2)) = lv') (hd : decode cc pc = .ok (.iinc i n, 3)) (kk : G (pc + 3) lv' st ws) : G pc lv st ws := by
  subst he
  exact g_iinc hG k hk hn hl' hd kk
end GR3
theorem sgn_bd (z : Int) : -1 ≤ sgnZ z ∧ sgnZ z ≤ 1 := by rcases sgn_cases z with h | h | h <;> omega
theorem sgn_gt {z : Int} (h : ¬ sgnZ z ≤ 0) : 0 < z := by rcases sgn_cases z with h | h | h <;> omega
theorem sgn_le {z : Int} (h : sgnZ z ≤ 0) : z ≤ 0 := by rcases sgn_cases z with h | h | h <;> omega
theorem sgn_ge {z : Int} (h : 0 ≤ sgnZ z) : 0 ≤ z := by rcases sgn_cases z with h | h | h <;> omega
theorem sgn_lt {z : Int} (h : ¬ 0 ≤ sgnZ z) : z < 0 := by rcases sgn_cases z with h | h | h <;> omega
def BO (e : Bool) (t b : Int) : Prop := e = true ∨ ((0 ≤ t ∧ t ≤ 9223372036854775807) ∧ (0 < b ∧ b ≤ 9223372036854775807))
theorem BO.ok {e : Bool} {t b : Int} (h : BO e t b) (he : e = false) : (0 ≤ t ∧ t ≤ 9223372036854775807) ∧ (0 < b ∧ b ≤ 9223372036854775807) := by
  rcases h with h | h
  · rw [he] at h; cases h
  · exact h
def OfR (e : Bool) (t b x t9 b9 x9 : Int) (e2 : Bool) (t2 b2 x2 : Int) : Prop :=
  ((e = true ∨ t9 * b - t * b9 < 0) ∧ e2 = false ∧ t2 = t9 ∧ b2 = b9 ∧ x2 = x9) ∨ ((e = false ∧ ¬ t9 * b - t * b9 < 0) ∧ e2 = e ∧ t2 = t ∧ b2 = b ∧ x2 = x)
theorem OfR.of {e e2 : Bool} {t b x t9 b9 x9 t2 b2 x2 : Int} (h : (e = true ∧ e2 = false ∧ t2 = t9 ∧ b2 = b9 ∧ x2 = x9) ∨ (e = false ∧ 0 ≤ sgnZ (t9 * b - t * b9) ∧ e2 = e ∧ t2 = t ∧ b2 = b ∧ x2 = x) ∨ (e = false ∧ ¬ 0 ≤ sgnZ (t9 * b - t * b9) ∧ e2 = false ∧ t2 = t9 ∧ b2 = b9 ∧ x2 = x9)) : OfR e t b x t9 b9 x9 e2 t2 b2 x2 := by
  rcases h with ⟨h1, h2⟩ | ⟨h1, h2, h3⟩ | ⟨h1, h2, h3⟩
  · exact Or.inl ⟨Or.inl h1, h2⟩
  · exact Or.inr ⟨⟨h1, by have := sgn_ge h2; omega⟩, h3⟩
  · exact Or.inl ⟨Or.inr (sgn_lt h2), h3⟩
def bsTell (e : Bool) (t b x wh : Int) : Int := if e = true then -1 else if wh = 2 then x else tellZ t b wh
def ShR (T B : Nat → Int) (n j : Nat) (T9 B9 : Nat → Int) : Prop := (∀ i, i ≤ j → T9 i = T i ∧ B9 i = B i) ∧ ∀ i, j < i → i ≤ n → T9 i = T (i - 1) ∧ B9 i = B (i - 1)
theorem ShR.init {T B : Nat → Int} {n : Nat} : ShR T B n n T B := ⟨fun _ _ => ⟨rfl, rfl⟩, fun i h1 h2 => by omega⟩
theorem ShR.step {T B T9 B9 : Nat → Int} {n j : Nat} (h : ShR T B n j T9 B9) (hj : 0 < j) (hn : j ≤ n) : ShR T B n (j - 1) (upZ T9 j (T9 (j - 1))) (upZ B9 j (B9 (j - 1))) := by
  refine ⟨fun i hi => ?_, fun i h1 h2 => ?_⟩
  · rw [upZ_n _ _ (by omega), upZ_n _ _ (by omega)]; exact h.1 i (by omega)
  · by_cases e : i = j
    · subst e; rw [upZ_s, upZ_s]; exact h.1 (i - 1) (by omega)
    · rw [upZ_n _ _ e, upZ_n _ _ e]; exact h.2 i (by omega) h2
def InsR (T B : Nat → Int) (n : Nat) (t b : Int) (T2 B2 : Nat → Int) (n2 : Nat) : Prop := ∃ p, p ≤ n ∧ (∀ i, i < p → 0 < T i * b - t * B i) ∧ (p < n → T p * b - t * B p ≤ 0) ∧
  ((((p < n ∧ T p = t ∧ B p = b) ∨ 54 ≤ n) ∧ T2 = T ∧ B2 = B ∧ n2 = n) ∨ (¬ (p < n ∧ T p = t ∧ B p = b) ∧ n < 54 ∧ n2 = n + 1 ∧ (∀ i, i < p → T2 i = T i ∧ B2 i = B i) ∧ (T2 p = t ∧ B2 p = b) ∧ ∀ i, p < i → i ≤ n → T2 i = T (i - 1) ∧ B2 i = B (i - 1)))
theorem ins_le {T B : Nat → Int} {n p : Nat} {t b : Int} (h : ((n : Int) ≤ p) ∨ (¬ (n : Int) ≤ p ∧ sgnZ (T p * b - t * B p) ≤ 0)) : p < n → T p * b - t * B p ≤ 0 := by
  intro hl
  rcases h with h | h
  · omega
  · exact sgn_le h.2
theorem ins_j {T B : Nat → Int} {n p : Nat} {t b : Int} {j : Bool} (h : ((n : Int) ≤ p ∧ j = false) ∨ (¬ (n : Int) ≤ p ∧ ¬ T p = t ∧ j = false) ∨ (¬ (n : Int) ≤ p ∧ T p = t ∧ ¬ B p = b ∧ j = false) ∨ (¬ (n : Int) ≤ p ∧ T p = t ∧ B p = b ∧ j = true)) : (j = true ∧ (p < n ∧ T p = t ∧ B p = b)) ∨ (j = false ∧ ¬ (p < n ∧ T p = t ∧ B p = b)) := by
  rcases h with ⟨h, rfl⟩ | ⟨h, h2, rfl⟩ | ⟨h, h2, h3, rfl⟩ | ⟨h, h2, h3, rfl⟩
  · exact Or.inr ⟨rfl, by omega⟩
  · exact Or.inr ⟨rfl, fun q => h2 q.2.1⟩
  · exact Or.inr ⟨rfl, fun q => h3 q.2.2⟩
  · exact Or.inl ⟨rfl, by omega, h2, h3⟩
def cntK (K : Nat → Bool) : Nat → Nat
  | 0 => 0
  | n + 1 => cntK K n + if K n = true then 1 else 0
theorem cnt_le (K : Nat → Bool) : ∀ n, cntK K n ≤ n
  | 0 => Nat.le_refl _
  | n + 1 => by have := cnt_le K n; unfold cntK; split <;> omega
theorem cnt_mono (K : Nat → Bool) {a : Nat} : ∀ {b}, a ≤ b → cntK K a ≤ cntK K b
  | 0, h => by have : a = 0 := by omega
               subst this; exact Nat.le_refl _
  | b + 1, h => by
    rcases Nat.lt_or_ge b a with h2 | h2
    · have : a = b + 1 := by omega
      subst this; exact Nat.le_refl _
    · have := cnt_mono K (a := a) (b := b) h2; show cntK K a ≤ cntK K b + _; omega
theorem cnt_lt (K : Nat → Bool) {a b : Nat} (h : a < b) (ha : K a = true) : cntK K a < cntK K b := by
  have h1 := cnt_mono K (a := a + 1) (b := b) h
  have h2 : cntK K (a + 1) = cntK K a + 1 := by show cntK K a + _ = _; rw [if_pos ha]
  omega
def PoolR (X Y : Nat → Int) (K : Nat → Bool) (n : Nat) (A B C T W : Nat → Int) : Prop := ∀ r, r < n → K r = true → A (cntK K r) = X (r * 3) ∧ B (cntK K r) = X (r * 3 + 1) ∧ C (cntK K r) = X (r * 3 + 2) ∧ T (cntK K r) = Y r ∧ W (cntK K r) = r
def PoolT (z : Nat) (A B C T : Nat → Int) : Prop := (A z = 0 ∧ B z = 0 ∧ C z = 1 ∧ T z = 0) ∧ (A (z + 1) = 0 ∧ B (z + 1) = 1 ∧ C (z + 1) = 0 ∧ T (z + 1) = 0)
theorem PoolR.init {X Y : Nat → Int} {K : Nat → Bool} {A B C T W : Nat → Int} : PoolR X Y K 0 A B C T W := fun r h => absurd h (Nat.not_lt_zero _)
theorem cnt_step {K : Nat → Bool} {r z z' : Nat} (hz : z = cntK K r) (h : (K r = false ∧ z' = z) ∨ (K r = true ∧ z' = z + 1)) : z' = cntK K (r + 1) := by
  show _ = cntK K r + _
  rcases h with ⟨h, rfl⟩ | ⟨h, rfl⟩
  · rw [if_neg (by rw [h]; simp), hz, Nat.add_zero]
  · rw [if_pos h, hz]
theorem PoolR.step {X Y : Nat → Int} {K : Nat → Bool} {r z : Nat} {A B C T W A' B' C' T' W' : Nat → Int} (h : PoolR X Y K r A B C T W) (hz : z = cntK K r)
    (hc : (K r = false ∧ A' = A ∧ B' = B ∧ C' = C ∧ T' = T ∧ W' = W) ∨ (K r = true ∧ A' = upZ A z (X (r * 3 + 0)) ∧ B' = upZ B z (X (r * 3 + 1)) ∧ C' = upZ C z (X (r * 3 + 2)) ∧ T' = upZ T z (Y r) ∧ W' = upZ W z r)) : PoolR X Y K (r + 1) A' B' C' T' W' := by
  intro q hq hk
  rcases hc with ⟨h0, rfl, rfl, rfl, rfl, rfl⟩ | ⟨h0, rfl, rfl, rfl, rfl, rfl⟩
  · rcases Nat.lt_or_ge q r with h1 | h1
    · exact h q h1 hk
    · have : q = r := by omega
      subst this; rw [h0] at hk; cases hk
  · subst hz
    rcases Nat.lt_or_ge q r with h1 | h1
    · have hl := cnt_lt K h1 hk
      rw [upZ_n _ _ (by omega), upZ_n _ _ (by omega), upZ_n _ _ (by omega), upZ_n _ _ (by omega), upZ_n _ _ (by omega)]
      exact h q h1 hk
    · have : q = r := by omega
      subst this
      simp only [upZ_s, Nat.add_zero]
      exact ⟨trivial, trivial, trivial, trivial, trivial⟩
theorem PoolT.of {A B C T : Nat → Int} {z : Nat} : PoolT z (upZ (upZ A z 0) (z + 1) 0) (upZ (upZ B z 0) (z + 1) 1) (upZ (upZ C z 1) (z + 1) 0) (upZ (upZ T z 0) (z + 1) 0) := by
  refine ⟨⟨?_, ?_, ?_, ?_⟩, ?_, ?_, ?_, ?_⟩ <;> first | rw [upZ_s] | rw [upZ_n _ _ (by omega), upZ_s]
theorem PoolR.tie {X Y : Nat → Int} {K : Nat → Bool} {n r z : Nat} {A B C T W : Nat → Int} {a b c t a' b' c' t' : Int} (h : PoolR X Y K r A B C T W) (hz : z = cntK K r) (hn : n ≤ r) : PoolR X Y K n (upZ (upZ A z a) (z + 1) a') (upZ (upZ B z b) (z + 1) b') (upZ (upZ C z c) (z + 1) c') (upZ (upZ T z t) (z + 1) t') W := by
  intro q hq hk
  have hl := cnt_lt K (show q < r by omega) hk
  simp only [upZ, show ¬ cntK K q = z + 1 by omega, show ¬ cntK K q = z by omega, if_false]
  exact h q (by omega) hk
def AdvR (k z : Nat) (p : Nat → Int) (v : Bool) (p2 : Nat → Int) : Prop := (v = false ∧ (∀ j, j < k → ¬ p j < (z : Int) - k + j) ∧ p2 = p) ∨ (v = true ∧ ∃ i, i < k ∧ p i < (z : Int) - k + i ∧ (∀ j, i < j → j < k → ¬ p j < (z : Int) - k + j) ∧ (∀ j, j < i → p2 j = p j) ∧ ∀ j, i ≤ j → j < k → p2 j = p i + 1 + ((j : Int) - i))
def AdvI (p : Nat → Int) (i j : Nat) (p9 : Nat → Int) : Prop := i < j ∧ (∀ q, q < i → p9 q = p q) ∧ ∀ q, i ≤ q → q < j → p9 q = p i + 1 + ((q : Int) - i)
theorem AdvI.init {p : Nat → Int} {i : Int} {v : Int} {j : Int} (hi : 0 ≤ i ∧ j = i + 1) (hv : v = p i.toNat + 1) : AdvI p i.toNat j.toNat (upZ p i.toNat v) := by
  refine ⟨by omega, fun q hq => upZ_n _ _ (by omega), fun q h1 h2 => ?_⟩
  have : q = i.toNat := by omega
  subst this; rw [upZ_s, hv]; omega
theorem AdvI.step {p p9 : Nat → Int} {i : Nat} {j v j' : Int} (h : AdvI p i j.toNat p9) (hj : 0 ≤ j) (hj' : j' = j + 1) (hi : (i : Int) < j) (hv : v = p9 (j - 1).toNat + 1) : AdvI p i j'.toNat (upZ p9 j.toNat v) := by
  obtain ⟨h1, h2, h3⟩ := h
  refine ⟨by omega, fun q hq => by rw [upZ_n _ _ (by omega)]; exact h2 q hq, fun q a b => ?_⟩
  by_cases e : q = j.toNat
  · subst e
    rw [upZ_s, hv, h3 (j - 1).toNat (by omega) (by omega)]
    omega
  · rw [upZ_n _ _ e]; exact h3 q a (by omega)
theorem AdvI.out {p p9 : Nat → Int} {i j : Int} {k z : Nat} (h : AdvI p i.toNat j.toNat p9) (hi : 0 ≤ i ∧ i < k) (hj : (k : Int) ≤ j) (hp : p i.toNat < (z : Int) - k + i) (hn : ∀ q : Nat, i < q → q < k → ¬ p q < (z : Int) - k + q) (hjk : j ≤ k) : ∃ i, i < k ∧ p i < (z : Int) - k + i ∧ (∀ j, i < j → j < k → ¬ p j < (z : Int) - k + j) ∧ (∀ j, j < i → p9 j = p j) ∧ ∀ j, i ≤ j → j < k → p9 j = p i + 1 + ((j : Int) - i) := by
  obtain ⟨h1, h2, h3⟩ := h
  exact ⟨i.toNat, by omega, by omega, fun q a b => hn q (by omega) b, h2, fun q a b => h3 q a (by omega)⟩
theorem InsR.no {T B : Nat → Int} {n p : Nat} {t b : Int} {j : Bool} (hp : p ≤ n) (hl : ∀ i, i < p → 0 < T i * b - t * B i) (_ : True) (hle : p < n → T p * b - t * B p ≤ 0) (hj : ((n : Int) ≤ p ∧ j = false) ∨ (¬ (n : Int) ≤ p ∧ ¬ T p = t ∧ j = false) ∨ (¬ (n : Int) ≤ p ∧ T p = t ∧ ¬ B p = b ∧ j = false) ∨ (¬ (n : Int) ≤ p ∧ T p = t ∧ B p = b ∧ j = true)) (hx : j = true ∨ (j = false ∧ ¬ (n : Int) < 54)) : InsR T B n t b T B n := by
  refine ⟨p, hp, hl, hle, Or.inl ⟨?_, rfl, rfl, rfl⟩⟩
  rcases hx with h | h
  · rcases ins_j hj with q | q
    · exact Or.inl q.2
    · rw [h] at q; cases q.1
  · exact Or.inr (by omega)
theorem InsR.yes {T B T9 B9 : Nat → Int} {n p j' : Nat} {t b : Int} {j : Bool} (hp : p ≤ n) (hl : ∀ i, i < p → 0 < T i * b - t * B i) (hle : p < n → T p * b - t * B p ≤ 0) (hj : ((n : Int) ≤ p ∧ j = false) ∨ (¬ (n : Int) ≤ p ∧ ¬ T p = t ∧ j = false) ∨ (¬ (n : Int) ≤ p ∧ T p = t ∧ ¬ B p = b ∧ j = false) ∨ (¬ (n : Int) ≤ p ∧ T p = t ∧ B p = b ∧ j = true)) (hx : j = false) (hn : n < 54) (h9 : ShR T B n j' T9 B9) (hjp : j' = p) : InsR T B n t b (upZ T9 p t) (upZ B9 p b) (n + 1) := by
  subst hjp
  refine ⟨j', hp, hl, hle, Or.inr ⟨?_, hn, rfl, fun i hi => ?_, ⟨upZ_s .., upZ_s ..⟩, fun i h1 h2 => ?_⟩⟩
  · rcases ins_j hj with q | q
    · rw [hx] at q; cases q.1
    · exact q.2
  · rw [upZ_n _ _ (by omega), upZ_n _ _ (by omega)]; exact h9.1 i (by omega)
  · rw [upZ_n _ _ (by omega), upZ_n _ _ (by omega)]; exact h9.2 i h1 h2
