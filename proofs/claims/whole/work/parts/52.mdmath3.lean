/-! the reference's sums over the rows in use -/
def gm2 (X : Nat → Nat → Int) (U : Nat → Bool) (i j : Nat) : Nat → Int
  | 0 => 0
  | r + 1 => gm2 X U i j r + if U r = true then X r i * X r j else 0
def rh2 (X : Nat → Nat → Int) (Y : Nat → Int) (U : Nat → Bool) (i : Nat) : Nat → Int
  | 0 => 0
  | r + 1 => rh2 X Y U i r + if U r = true then X r i * Y r else 0
theorem gm2_t {X : Nat → Nat → Int} {U : Nat → Bool} {i j r : Nat} (h : U r = true) : gm2 X U i j (r + 1) = gm2 X U i j r + X r i * X r j := by show gm2 X U i j r + _ = _; rw [if_pos h]
theorem gm2_f {X : Nat → Nat → Int} {U : Nat → Bool} {i j r : Nat} (h : U r = false) : gm2 X U i j (r + 1) = gm2 X U i j r := by show gm2 X U i j r + _ = _; rw [if_neg (by rw [h]; simp), Int.add_zero]
theorem rh2_t {X : Nat → Nat → Int} {Y : Nat → Int} {U : Nat → Bool} {i r : Nat} (h : U r = true) : rh2 X Y U i (r + 1) = rh2 X Y U i r + X r i * Y r := by show rh2 X Y U i r + _ = _; rw [if_pos h]
theorem rh2_f {X : Nat → Nat → Int} {Y : Nat → Int} {U : Nat → Bool} {i r : Nat} (h : U r = false) : rh2 X Y U i (r + 1) = rh2 X Y U i r := by show rh2 X Y U i r + _ = _; rw [if_neg (by rw [h]; simp), Int.add_zero]
theorem yyF_t {Y : Nat → Int} {U : Nat → Bool} {r : Nat} (h : U r = true) : yyF Y U (r + 1) = yyF Y U r + Y r * Y r := by show yyF Y U r + _ = _; rw [if_pos h]
theorem yyF_f {Y : Nat → Int} {U : Nat → Bool} {r : Nat} (h : U r = false) : yyF Y U (r + 1) = yyF Y U r := by show yyF Y U r + _ = _; rw [if_neg (by rw [h]; simp), Int.add_zero]
theorem gm2_congr {X : Nat → Nat → Int} {U K : Nat → Bool} {i j : Nat} : ∀ {n}, (∀ r, r < n → U r = K r) → gm2 X U i j n = gm2 X K i j n
  | 0, _ => rfl
  | n + 1, h => by show gm2 X U i j n + _ = gm2 X K i j n + _; rw [gm2_congr (fun r hr => h r (by omega)), h n (by omega)]
theorem rh2_congr {X : Nat → Nat → Int} {Y : Nat → Int} {U K : Nat → Bool} {i : Nat} : ∀ {n}, (∀ r, r < n → U r = K r) → rh2 X Y U i n = rh2 X Y K i n
  | 0, _ => rfl
  | n + 1, h => by show rh2 X Y U i n + _ = rh2 X Y K i n + _; rw [rh2_congr (fun r hr => h r (by omega)), h n (by omega)]
theorem yyF_congr {Y : Nat → Int} {U K : Nat → Bool} : ∀ {n}, (∀ r, r < n → U r = K r) → yyF Y U n = yyF Y K n
  | 0, _ => rfl
  | n + 1, h => by show yyF Y U n + _ = yyF Y K n + _; rw [yyF_congr (fun r hr => h r (by omega)), h n (by omega)]
def MbB (X : Nat → Nat → Int) (Y : Nat → Int) (n : Nat) : Prop := n ≤ 24 ∧ ∀ r, r < n → (∀ c, c < 3 → -9 ≤ X r c ∧ X r c ≤ 9) ∧ (-99 ≤ Y r ∧ Y r ≤ 99)
theorem gm2_b {X : Nat → Nat → Int} {Y : Nat → Int} {U : Nat → Bool} {n i j : Nat} (hB : MbB X Y n) (hi : i < 3) (hj : j < 3) : ∀ r, r ≤ n → -(81 * (r : Int)) ≤ gm2 X U i j r ∧ gm2 X U i j r ≤ 81 * r
  | 0, _ => by simp [gm2]
  | r + 1, hr => by
    have ih := gm2_b hB (U := U) hi hj r (by omega)
    have hx := (hB.2 r (by omega)).1
    have hm := mul_bd (hx i hi) (hx j hj)
    show _ ≤ gm2 X U i j r + _ ∧ gm2 X U i j r + _ ≤ _
    split <;> omega
theorem rh2_b {X : Nat → Nat → Int} {Y : Nat → Int} {U : Nat → Bool} {n i : Nat} (hB : MbB X Y n) (hi : i < 3) : ∀ r, r ≤ n → -(891 * (r : Int)) ≤ rh2 X Y U i r ∧ rh2 X Y U i r ≤ 891 * r
  | 0, _ => by simp [rh2]
  | r + 1, hr => by
    have ih := rh2_b hB (U := U) hi r (by omega)
    have hx := hB.2 r (by omega)
    have hm := mul_bd (hx.1 i hi) hx.2
    show _ ≤ rh2 X Y U i r + _ ∧ rh2 X Y U i r + _ ≤ _
    split <;> omega
theorem gm2_bd {X : Nat → Nat → Int} {Y : Nat → Int} {U : Nat → Bool} {n i j : Nat} (hB : MbB X Y n) (hi : i < 3) (hj : j < 3) : -1944 ≤ gm2 X U i j n ∧ gm2 X U i j n ≤ 1944 := by
  have := gm2_b hB (U := U) hi hj n (Nat.le_refl _); have := hB.1; omega
theorem rh2_bd {X : Nat → Nat → Int} {Y : Nat → Int} {U : Nat → Bool} {n i : Nat} (hB : MbB X Y n) (hi : i < 3) : -21384 ≤ rh2 X Y U i n ∧ rh2 X Y U i n ≤ 21384 := by
  have := rh2_b hB (U := U) hi n (Nat.le_refl _); have := hB.1; omega
theorem sq_nn (x : Int) : 0 ≤ x * x := by
  rcases Int.le_total 0 x with h | h
  · exact Int.mul_nonneg h h
  · exact Int.mul_nonneg_of_nonpos_of_nonpos h h
theorem sq_z {x : Int} (h : x * x = 0) : x = 0 := by rcases Int.mul_eq_zero.mp h with h | h <;> exact h
theorem gm2_nn {X : Nat → Nat → Int} {U : Nat → Bool} {a : Nat} : ∀ n, 0 ≤ gm2 X U a a n
  | 0 => Int.le_refl _
  | n + 1 => by have := gm2_nn (X := X) (U := U) (a := a) n; have := sq_nn (X n a); show 0 ≤ gm2 X U a a n + _; split <;> omega
theorem gm2_z {X : Nat → Nat → Int} {U : Nat → Bool} {a : Nat} : ∀ {n}, gm2 X U a a n = 0 → ∀ r, r < n → U r = true → X r a = 0
  | 0, _, r, hr, _ => absurd hr (Nat.not_lt_zero _)
  | n + 1, h, r, hr, hu => by
    have h1 := gm2_nn (X := X) (U := U) (a := a) n
    have h2 := sq_nn (X n a)
    have h' : (gm2 X U a a n + if U n = true then X n a * X n a else 0) = 0 := h
    by_cases e : U n = true
    · rw [if_pos e] at h'
      rcases Nat.lt_or_ge r n with h3 | h3
      · exact gm2_z (by omega) r h3 hu
      · rw [show r = n by omega]; exact sq_z (by omega)
    · rw [if_neg e] at h'
      rcases Nat.lt_or_ge r n with h3 | h3
      · exact gm2_z (by omega) r h3 hu
      · rw [show r = n by omega] at hu; exact absurd hu e
theorem gm2_zr {X : Nat → Nat → Int} {U : Nat → Bool} {a b : Nat} : ∀ {n}, (∀ r, r < n → U r = true → X r a = 0) → gm2 X U a b n = 0
  | 0, _ => rfl
  | n + 1, h => by
    show gm2 X U a b n + _ = 0
    rw [gm2_zr (fun r hr hu => h r (by omega) hu)]
    split
    · rename_i e; rw [h n (by omega) e]; simp
    · rfl
theorem gm2_diag {X : Nat → Nat → Int} {U : Nat → Bool} {a b n : Nat} (h : gm2 X U a b n ≠ 0) : gm2 X U a a n ≠ 0 := fun h0 => h (gm2_zr (gm2_z h0))
/-! sets of columns -/
def cb (st : Nat) : Nat → Nat
  | 0 => 0
  | c + 1 => cb st c + if st.testBit c = true then 1 else 0
def clF (st a : Nat) : Nat := ((List.range 3).filter (fun c => st.testBit c)).getD a 0
theorem cb_le (st : Nat) : ∀ c, cb st c ≤ c
  | 0 => Nat.le_refl _
  | c + 1 => by have := cb_le st c; show cb st c + _ ≤ _; split <;> omega
theorem cb_t {st c : Nat} (h : st.testBit c = true) : cb st (c + 1) = cb st c + 1 := by show cb st c + _ = _; rw [if_pos h]
theorem cb_f {st c : Nat} (h : st.testBit c = false) : cb st (c + 1) = cb st c := by show cb st c + _ = _; rw [if_neg (by rw [h]; simp)]; rfl
theorem clF_at {st c : Nat} (hs : st < 8) (hc : c < 3) (h : st.testBit c = true) : clF st (cb st c) = c := by
  have : ∀ st : Fin 8, ∀ c : Fin 3, st.val.testBit c.val = true → clF st.val (cb st.val c.val) = c.val := by decide +kernel
  exact this ⟨st, hs⟩ ⟨c, hc⟩ h
theorem clF_lt {st a : Nat} (hs : st < 8) (ha : a < 3) : clF st a < 3 := by
  have : ∀ st : Fin 8, ∀ a : Fin 3, clF st.val a.val < 3 := by decide +kernel
  exact this ⟨st, hs⟩ ⟨a, ha⟩
theorem cb_all {m : Nat} (h : m ≤ 3) : cb (2 ^ m - 1) m = m := by
  have : ∀ m : Fin 4, cb (2 ^ m.val - 1) m.val = m.val := by decide +kernel
  exact this ⟨m, by omega⟩
theorem clF_all {m a : Nat} (h : m ≤ 3) (ha : a < m) : clF (2 ^ m - 1) a = a := by
  have : ∀ m : Fin 4, ∀ a : Fin 3, a.val < m.val → clF (2 ^ m.val - 1) a.val = a.val := by decide +kernel
  exact this ⟨m, by omega⟩ ⟨a, by omega⟩ ha
theorem sh_t1 {m i : Nat} (h : ((m >>> i &&& 1 : Nat) : Int) = 1) : m.testBit i = true := sh_t (by omega)
theorem sh_f1 {m i : Nat} (h : ¬ ((m >>> i &&& 1 : Nat) : Int) = 1) : m.testBit i = false := by
  have : m >>> i &&& 1 ≤ 1 := Nat.and_le_right
  exact sh_f (by omega)
def TkG (X : Nat → Nat → Int) (U : Nat → Bool) (cl : Nat → Nat) (k i a b : Nat) (G : Nat → Nat → Int) : Prop := ∀ a' b', a' < k → b' < k → G a' b' = gm2 X U (cl a') (cl b') (if a' < a ∨ (a' = a ∧ b' < b) then i + 1 else i)
def TkH (X : Nat → Nat → Int) (Y : Nat → Int) (U : Nat → Bool) (cl : Nat → Nat) (k i a : Nat) (h : Nat → Int) : Prop := ∀ a', a' < k → h a' = rh2 X Y U (cl a') (if a' < a then i + 1 else i)
section TK
variable {X G : Nat → Nat → Int} {Y h : Nat → Int} {U : Nat → Bool} {cl : Nat → Nat} {k i a b : Nat} {v : Int}
theorem TkG.skip (hg : TkG X U cl k i 0 0 G) (hu : U i = false) : TkG X U cl k (i + 1) 0 0 G := fun a' b' ha hb => by
  rw [hg a' b' ha hb, if_neg (by omega), if_neg (by omega), gm2_f hu]
theorem TkH.skip (hg : TkH X Y U cl k i 0 h) (hu : U i = false) : TkH X Y U cl k (i + 1) 0 h := fun a' ha => by
  rw [hg a' ha, if_neg (by omega), if_neg (by omega), rh2_f hu]
theorem TkG.next (hg : TkG X U cl k i a b G) (hb : k ≤ b) : TkG X U cl k i (a + 1) 0 G := fun a' b' h1 h2 => by
  rw [hg a' b' h1 h2]
  by_cases e : a' < a ∨ (a' = a ∧ b' < b)
  · rw [if_pos e, if_pos (by omega)]
  · rw [if_neg e, if_neg (by omega)]
theorem TkG.end (hg : TkG X U cl k i a 0 G) (ha : k ≤ a) : TkG X U cl k (i + 1) 0 0 G := fun a' b' h1 h2 => by
  rw [hg a' b' h1 h2, if_pos (by omega), if_neg (by omega)]
theorem TkH.end (hg : TkH X Y U cl k i a h) (ha : k ≤ a) : TkH X Y U cl k (i + 1) 0 h := fun a' h1 => by
  rw [hg a' h1, if_pos (by omega), if_neg (by omega)]
theorem TkG.step (hg : TkG X U cl k i a b G) (ha : a < k) (hb : b < k) (hu : U i = true) (hv : v = G a b + X i (cl a) * X i (cl b)) : TkG X U cl k i a (b + 1) (up2 G a b v) := fun a' b' h1 h2 => by
  by_cases e : a' = a ∧ b' = b
  · obtain ⟨rfl, rfl⟩ := e
    rw [up2_s, hv, hg a' b' h1 h2, if_neg (by omega), if_pos (by omega), gm2_t hu]
  · rw [up2_n _ _ e, hg a' b' h1 h2]
    by_cases e2 : a' < a ∨ (a' = a ∧ b' < b)
    · rw [if_pos e2, if_pos (by omega)]
    · rw [if_neg e2, if_neg (by omega)]
theorem TkH.step (hg : TkH X Y U cl k i a h) (ha : a < k) (hu : U i = true) (hv : v = h a + X i (cl a) * Y i) : TkH X Y U cl k i (a + 1) (upZ h a v) := fun a' h1 => by
  by_cases e : a' = a
  · subst e
    rw [upZ_s, hv, hg a' h1, if_neg (by omega), if_pos (by omega), rh2_t hu]
  · rw [upZ_n _ _ e, hg a' h1]
    by_cases e2 : a' < a
    · rw [if_pos e2, if_pos (by omega)]
    · rw [if_neg e2, if_neg (by omega)]
theorem TkG.init (hz : ∀ a' b', a' < k → b' < k → G a' b' = 0) : TkG X U cl k 0 0 0 G := fun a' b' h1 h2 => by rw [hz a' b' h1 h2, if_neg (by omega)]; rfl
theorem TkH.init (hz : ∀ a', a' < k → h a' = 0) : TkH X Y U cl k 0 0 h := fun a' h1 => by rw [hz a' h1, if_neg (by omega)]; rfl
end TK
def gmC (X : Nat → Nat → Int) (U : Nat → Bool) (n st : Nat) : Nat → Nat → Int := fun a b => gm2 X U (clF st a) (clF st b) n
def rhC (X : Nat → Nat → Int) (Y : Nat → Int) (U : Nat → Bool) (n st : Nat) : Nat → Int := fun a => rh2 X Y U (clF st a) n
def gmA (X : Nat → Nat → Int) (U : Nat → Bool) (n : Nat) : Nat → Nat → Int := fun a b => gm2 X U a b n
def rhA (X : Nat → Nat → Int) (Y : Nat → Int) (U : Nat → Bool) (n : Nat) : Nat → Int := fun a => rh2 X Y U a n
def AllR (X : Nat → Nat → Int) (Y : Nat → Int) (K : Nat → Bool) (m n k2 : Nat) (yy2 : Int) (G2 : Nat → Nat → Int) (h2 : Nat → Int) : Prop := k2 = m ∧ yy2 = yyF Y K n ∧ (∀ a, a < m → h2 a = rhA X Y K n a) ∧ ∀ a b, a < m → b < m → G2 a b = gmA X K n a b
theorem AllR.of {X : Nat → Nat → Int} {Y : Nat → Int} {U K : Nat → Bool} {m n k2 : Nat} {yy2 : Int} {G2 : Nat → Nat → Int} {h2 : Nat → Int} (hm : m ≤ 3) (hu : ∀ r, r < n → U r = K r) (hk : k2 = cb (2 ^ m - 1) m) (hy : yy2 = yyF Y U n) (hh : ∀ a, a < k2 → h2 a = rhC X Y U n (2 ^ m - 1) a) (hg : ∀ a b, a < k2 → b < k2 → G2 a b = gmC X U n (2 ^ m - 1) a b) : AllR X Y K m n k2 yy2 G2 h2 := by
  have e : k2 = m := by rw [hk, cb_all hm]
  refine ⟨e, by rw [hy, yyF_congr hu], fun a ha => ?_, fun a b ha hb => ?_⟩
  · rw [hh a (by omega)]; unfold rhC rhA; rw [clF_all hm ha, rh2_congr hu]
  · rw [hg a b (by omega) (by omega)]; unfold gmC gmA; rw [clF_all hm ha, clF_all hm hb, gm2_congr hu]
theorem AllR.hg {X : Nat → Nat → Int} {Y : Nat → Int} {K : Nat → Bool} {m n k2 : Nat} {yy2 : Int} {G2 : Nat → Nat → Int} {h2 : Nat → Int} (h : AllR X Y K m n k2 yy2 G2 h2) (hm : m ≤ 3) (hB : MbB X Y n) : (k2 ≤ 3) ∧ (∀ a b, a < k2 → b < k2 → -1944 ≤ G2 a b ∧ G2 a b ≤ 1944) ∧ (∀ j, j < k2 → -21384 ≤ h2 j ∧ h2 j ≤ 21384) ∧ ((∃ a b, a < k2 ∧ b < k2 ∧ G2 a b ≠ 0) → ∃ a, a < k2 ∧ G2 a a ≠ 0) := by
  obtain ⟨rfl, -, h2, h3⟩ := h
  refine ⟨hm, fun a b ha hb => ?_, fun j hj => ?_, fun ⟨a, b, ha, hb, h0⟩ => ⟨a, ha, ?_⟩⟩
  · rw [h3 a b ha hb]; exact gm2_bd hB (by omega) (by omega)
  · rw [h2 j hj]; exact rh2_bd hB (by omega)
  · rw [h3 a a ha ha]; rw [h3 a b ha hb] at h0; exact gm2_diag h0
/-! congruences of the fit -/
theorem crX_congr {G H : Nat → Nat → Int} (h : ∀ a b, a < 3 → b < 3 → G a b = H a b) {p q : Nat} (hp : p < 3) (hq : q < 3) (c : Nat) : crX G p q c = crX H p q c := by
  unfold crX
  rw [h p 0 hp (by omega), h p 1 hp (by omega), h p 2 hp (by omega), h q 0 hq (by omega), h q 1 hq (by omega), h q 2 hq (by omega)]
theorem CrR.congr {G H : Nat → Nat → Int} {p q : Nat} {nr : Nat → Int} (hc : CrR G p q nr) (h : ∀ a b, a < 3 → b < 3 → G a b = H a b) (hp : p < 3) (hq : q < 3) : CrR H p q nr := by
  obtain ⟨⟨f, h1, h2⟩, h3⟩ := hc
  exact ⟨⟨f, h1, fun c hc => by rw [← crX_congr h hp hq]; exact h2 c hc⟩, h3⟩
theorem RkR.congr {G H : Nat → Nat → Int} {k r : Nat} {on tw : Int} {nr : Nat → Int} (hr : RkR G k r on tw nr) (hk : k ≤ 3) (h : ∀ a b, a < k → b < k → G a b = H a b) : RkR H k r on tw nr := by
  have hd := detM_congr hk h
  rcases hr with ⟨h1, h2⟩ | ⟨h1, h2, h3, ⟨i, h4, h5, h6, h7⟩, h8⟩ | ⟨h1, h2, h3⟩
  · exact Or.inl ⟨by rw [← hd]; exact h1, h2⟩
  · subst h2
    exact Or.inr (Or.inl ⟨by rw [← hd]; exact h1, rfl, h3, ⟨i, h4, h5, h6, h7.congr h (r1_lt i) (r2_lt i)⟩, h8⟩)
  · refine Or.inr (Or.inr ⟨by rw [← hd]; exact h1, fun e i hi c hc => ?_, ?_⟩)
    · subst e; rw [← crX_congr h (r1_lt i) (r2_lt i)]; exact h2 rfl i hi c hc
    · rcases h3 with ⟨e, a, b, ha, hb, h4⟩ | ⟨e, h4⟩
      · exact Or.inl ⟨e, a, b, ha, hb, by rw [← h a b ha hb]; exact h4⟩
      · exact Or.inr ⟨e, fun a b ha hb => by rw [← h a b ha hb]; exact h4 a b ha hb⟩
theorem alT_congr {d e u w : Nat → Int} {k : Nat} (hd : ∀ j, j < k → d j = e j) (hu : ∀ j, j < k → u j = w j) : ∀ c, c ≤ k → alT d u c = alT e w c
  | 0, _ => rfl
  | c + 1, h => by show alT d u c + _ = alT e w c + _; rw [alT_congr hd hu c (by omega), hd c (by omega), hu c (by omega)]
theorem alI_congr {G H : Nat → Nat → Int} {d e : Nat → Int} {k c : Nat} (hc : c < k) (h : ∀ a b, a < k → b < k → G a b = H a b) (hd : ∀ j, j < k → d j = e j) : ∀ b, b ≤ k → alI G d c b = alI H e c b
  | 0, _ => rfl
  | b + 1, hb => by show alI G d c b + _ = alI H e c b + _; rw [alI_congr hc h hd b (by omega), hd c hc, hd b (by omega), h c b hc (by omega)]
theorem alL_congr {G H : Nat → Nat → Int} {d e : Nat → Int} {k : Nat} (h : ∀ a b, a < k → b < k → G a b = H a b) (hd : ∀ j, j < k → d j = e j) : ∀ c, c ≤ k → alL G d k c = alL H e k c
  | 0, _ => rfl
  | c + 1, hc => by show alL G d k c + _ = alL H e k c + _; rw [alL_congr h hd c (by omega), alI_congr (by omega) h hd k (Nat.le_refl _)]
theorem AlR.congr {G H : Nat → Nat → Int} {k r : Nat} {u w W : Nat → Int} {den : Int} (ha : AlR G k u r W den) (h : ∀ a b, a < k → b < k → G a b = H a b) (hu : ∀ j, j < k → u j = w j) : AlR H k w r W den := by
  rcases ha with h1 | ⟨e, a, f, h1, h2, h3, h4, h5, h6⟩
  · exact Or.inl h1
  · have hd : ∀ j, j < k → alD G a f j = alD H a f j := fun j hj => by unfold alD; rw [h a j h1 hj]
    exact Or.inr ⟨e, a, f, h1, by rw [← h a a h1 h1]; exact h2, h3, fun c hc => by rw [← h a c h1 hc]; exact h4 c hc, by rw [h5, alL_congr h hd k (Nat.le_refl _)], fun c hc => by rw [h6 c hc, alT_congr hd hu k (Nat.le_refl _), hd c hc]⟩
theorem FitR.congr {G H : Nat → Nat → Int} {k : Nat} {u w W : Nat → Int} {den : Int} (hf : FitR G k u W den) (hk : k ≤ 3) (h : ∀ a b, a < k → b < k → G a b = H a b) (hu : ∀ j, j < k → u j = w j) : FitR H k w W den := by
  have hd := detM_congr hk h
  rcases hf with ⟨h1, h2⟩ | ⟨h1, h2, i, nr, h3, h4, h5, h6⟩ | ⟨h1, h2, r, h3, h4⟩
  · exact Or.inl ⟨by rw [← hd]; exact h1, h2.congr hk h hu⟩
  · subst h2
    refine Or.inr (Or.inl ⟨by rw [← hd]; exact h1, rfl, i, nr, h3, h4.congr h (r1_lt i) (r2_lt i), h5, h6.congr (by omega) (fun a b ha hb => ?_) (fun r hr => ?_)⟩)
    · unfold rwM; rw [h _ b (r1_lt i) hb, h _ b (r2_lt i) hb]
    · unfold vcM; rw [hu _ (r1_lt i), hu _ (r2_lt i)]
  · refine Or.inr (Or.inr ⟨by rw [← hd]; exact h1, fun e i hi c hc => ?_, r, ?_, h4.congr h hu⟩)
    · subst e; rw [← crX_congr h (r1_lt i) (r2_lt i)]; exact h2 rfl i hi c hc
    · rcases h3 with ⟨e, a, b, ha, hb, h5⟩ | ⟨e, h5⟩
      · exact Or.inl ⟨e, a, b, ha, hb, by rw [← h a b ha hb]; exact h5⟩
      · exact Or.inr ⟨e, fun a b ha hb => by rw [← h a b ha hb]; exact h5 a b ha hb⟩
theorem mis_congr {yy dn : Int} {h g w : Nat → Int} {k : Nat} (hh : ∀ j, j < k → h j = g j) : ∀ c, c ≤ k → mis yy dn h w c = mis yy dn g w c
  | 0, _ => rfl
  | c + 1, hc => by show mis yy dn h w c - _ = mis yy dn g w c - _; rw [mis_congr hh c (by omega), hh c (by omega)]
def dtk (x w : Nat → Int) : Nat → Int
  | 0 => 0
  | c + 1 => dtk x w c + x c * w c
def FtB (G : Nat → Nat → Int) (k : Nat) (u : Nat → Int) : Prop := ∀ W den, FitR G k u W den → (0 < den ∧ den ≤ 1000000000000000) ∧ ∀ c, c < k → -2000000000000000 ≤ W c ∧ W c ≤ 2000000000000000
theorem dtk_b {x w : Nat → Int} {k : Nat} (hx : ∀ c, c < k → -9 ≤ x c ∧ x c ≤ 9) (hw : ∀ c, c < k → -2000000000000000 ≤ w c ∧ w c ≤ 2000000000000000) : ∀ c, c ≤ k → -(18000000000000000 * (c : Int)) ≤ dtk x w c ∧ dtk x w c ≤ 18000000000000000 * (c : Int)
  | 0, _ => by simp [dtk]
  | c + 1, hc => by
    have ih := dtk_b hx hw c (by omega)
    have := mul_bd (hx c (by omega)) (hw c (by omega))
    show _ ≤ dtk x w c + _ ∧ dtk x w c + _ ≤ _
    omega
/-! canonical folds and what the reference holds of them -/
def BsR (acc : BsA) (a b best : Int) : Prop := (acc.1 = true ∧ a = 0 ∧ b = 0) ∨ (acc.1 = false ∧ (0 < b ∧ b ≤ 9223372036854775807) ∧ B63 a ∧ 0 < acc.2.2.1 ∧ a * acc.2.2.1 = acc.2.1 * b ∧ best = acc.2.2.2)
theorem cmp_sg {s den a b S B t c : Int} (hd : 0 < den) (hb : 0 < b) (hB : 0 < B) (hc : 0 < c) (h1 : s * B = S * den) (h2 : a * c = t * b) : (s * b - a * den < 0 ↔ S * c - t * B < 0) ∧ (0 < s * b - a * den ↔ 0 < S * c - t * B) := by
  have e : (s * b - a * den) * (B * c) = (S * c - t * B) * (den * b) := by grind
  have hp : 0 < B * c := Int.mul_pos hB hc
  have hq : 0 < den * b := Int.mul_pos hd hb
  have key : ∀ x y p q : Int, 0 < p → 0 < q → x * p = y * q → (x < 0 → y < 0) ∧ (0 < x → 0 < y) := by
    intro x y p q hp hq e
    refine ⟨fun hx => ?_, fun hx => ?_⟩
    · have h3 : x * p < 0 := Int.mul_neg_of_neg_of_pos hx hp
      rcases Int.lt_or_le y 0 with h | h
      · exact h
      · have := Int.mul_nonneg h (Int.le_of_lt hq); omega
    · have h3 : 0 < x * p := Int.mul_pos hx hp
      rcases Int.lt_or_le 0 y with h | h
      · exact h
      · have := Int.mul_nonpos_of_nonpos_of_nonneg h (Int.le_of_lt hq); omega
  have k1 := key _ _ _ _ hp hq e
  have k2 := key _ _ _ _ hq hp e.symm
  exact ⟨⟨k1.1, k2.1⟩, ⟨k1.2, k2.2⟩⟩
theorem BsR.off {acc : BsA} {a b best s den S B x a2 b2 x2 : Int} (h : BsR acc a b best) (hs : B63 s) (hd : 0 < den ∧ den ≤ 9223372036854775807) (hB : 0 < B) (h1 : s * B = S * den)
    (hk : ((b = 0 ∨ (¬ b = 0 ∧ ¬ 0 ≤ sgnZ (s * b - a * den))) ∧ a2 = s ∧ b2 = den ∧ x2 = x) ∨ ((¬ b = 0 ∧ 0 ≤ sgnZ (s * b - a * den)) ∧ a2 = a ∧ b2 = b ∧ x2 = best)) : BsR (ofF acc S B x) a2 b2 x2 := by
  rcases h with ⟨e, ha, hb⟩ | ⟨e, hb, ha, hc, h2, h3⟩
  · rcases hk with ⟨-, rfl, rfl, rfl⟩ | ⟨h, -⟩
    · unfold ofF; rw [if_pos (Or.inl e)]; exact Or.inr ⟨rfl, hd, hs, hB, h1, rfl⟩
    · exact absurd hb h.1
  · have hsg := (cmp_sg hd.1 hb.1 hB hc h1 h2).1
    rcases hk with ⟨h, h5, h6, h7⟩ | ⟨h, rfl, rfl, rfl⟩
    · have hlt : s * b - a * den < 0 := by
        rcases h with h | h
        · omega
        · exact sgn_lt h.2
      rw [h5, h6, h7]
      unfold ofF; rw [if_pos (Or.inr (hsg.mp hlt))]; exact Or.inr ⟨rfl, hd, hs, hB, h1, rfl⟩
    · have hge := sgn_ge h.2
      unfold ofF
      rw [if_neg]
      · exact Or.inr ⟨e, hb, ha, hc, h2, h3⟩
      · rintro (q | q)
        · rw [e] at q; cases q
        · have := hsg.mpr q; omega
theorem tz_step {G8 : Nat → Nat → Int} {a b kq : Nat} (h : ∀ i j, (i < a ∨ (i = a ∧ j < b)) → j < kq → G8 i j = 0) : ∀ i j, (i < a ∨ (i = a ∧ j < b + 1)) → j < kq → up2 G8 a b 0 i j = 0 := by
  intro i j h1 hj
  by_cases e : i = a ∧ j = b
  · rw [e.1, e.2, up2_s]
  · rw [up2_n _ _ e]; exact h i j (by omega) hj
theorem fillB_step {f g : Nat → Bool} {c : Nat} (h : ∀ j, j < c → f j = g j) : ∀ j, j < c + 1 → upB f c (g c) j = g j := by
  intro j hj
  by_cases e : j = c
  · rw [e, upB_s]
  · rw [upB_n _ _ e]; exact h j (by omega)
theorem RkR.nf {G : Nat → Nat → Int} {k r : Nat} {on tw : Int} {nr : Nat → Int} (h : RkR G k r on tw nr) (hd : ¬ detM G k = 0) : r = k := by
  rcases h with h | h | h
  · exact h.2
  · exact absurd h.1 hd
  · exact absurd h.1 hd
