def pr3 (f g : Nat → Int) : Int := f 0 * g 0 + f 1 * g 1 + f 2 * g 2
def rp (P : Nat → Int) (i : Nat) (a b c : Int) : Int := P (i * 3) * a + P (i * 3 + 1) * b + P (i * 3 + 2) * c
def e1 (P : Nat → Int) : Int := P 0 + P 4 + P 8
def e2 (P : Nat → Int) : Int := (P 4 * P 8 - P 5 * P 7) + P 0 * P 8 - P 2 * P 6 + P 0 * P 4 - P 1 * P 3
def e3 (P : Nat → Int) : Int := P 0 * (P 4 * P 8 - P 5 * P 7) - P 1 * (P 3 * P 8 - P 5 * P 6) + P 2 * (P 3 * P 7 - P 4 * P 6)
def symF (P : Nat → Int) : Nat → Int := fun k => match k with
  | 0 => 1
  | 1 => e1 P
  | 2 => e2 P
  | _ => e3 P
def rk0 (P : Nat → Int) : Nat := if e3 P ≠ 0 then 3 else if e2 P ≠ 0 then 2 else if e1 P ≠ 0 then 1 else 0
theorem rk_le (P : Nat → Int) : rk0 P ≤ 3 := by unfold rk0; split <;> (try split) <;> (try split) <;> omega
def PB (P : Nat → Int) : Prop := ∀ j, j < 9 → -1944 ≤ P j ∧ P j ≤ 1944
theorem mul_bd {a b : Int} {A B : Int} (ha : -A ≤ a ∧ a ≤ A) (hb : -B ≤ b ∧ b ≤ B) : -(A * B) ≤ a * b ∧ a * b ≤ A * B := by
  have h1 : (a.natAbs : Int) ≤ A := by omega
  have h2 : (b.natAbs : Int) ≤ B := by omega
  have h3 : (a.natAbs : Int) * (b.natAbs : Int) ≤ A * B := Int.mul_le_mul h1 h2 (by omega) (by omega)
  have h4 : ((a * b).natAbs : Int) = (a.natAbs : Int) * (b.natAbs : Int) := by rw [Int.natAbs_mul]; simp
  rw [← h4] at h3
  omega
theorem sym_in {P : Nat → Int} (h : PB P) {k : Nat} : -44080933104 ≤ symF P k ∧ symF P k ≤ 44080933104 := by
  have b0 := h 0 (by omega); have b1 := h 1 (by omega); have b2 := h 2 (by omega); have b3 := h 3 (by omega); have b4 := h 4 (by omega)
  have b5 := h 5 (by omega); have b6 := h 6 (by omega); have b7 := h 7 (by omega); have b8 := h 8 (by omega)
  have m48 := mul_bd b4 b8; have m57 := mul_bd b5 b7; have m08 := mul_bd b0 b8; have m26 := mul_bd b2 b6; have m04 := mul_bd b0 b4; have m13 := mul_bd b1 b3
  have m38 := mul_bd b3 b8; have m56 := mul_bd b5 b6; have m37 := mul_bd b3 b7; have m46 := mul_bd b4 b6
  have t0 := mul_bd (b := P 4 * P 8 - P 5 * P 7) (B := 7558272) b0 (by omega)
  have t1 := mul_bd (b := P 3 * P 8 - P 5 * P 6) (B := 7558272) b1 (by omega)
  have t2 := mul_bd (b := P 3 * P 7 - P 4 * P 6) (B := 7558272) b2 (by omega)
  unfold symF e1 e2 e3
  split <;> omega
theorem sym_arr {P S : Nat → Int} {x22 x47 x88 x143 : Int} (h0 : x22 = P 4 * P 8 - P 5 * P 7) (h1 : x47 = P 0 + P 4 + P 8) (h2 : x88 = x22 + P 0 * P 8 - P 2 * P 6 + P 0 * P 4 - P 1 * P 3)
    (h3 : x143 = P 0 * x22 - P 1 * (P 3 * P 8 - P 5 * P 6) + P 2 * (P 3 * P 7 - P 4 * P 6)) : ∀ k, k ≤ 3 → upZ (upZ (upZ (upZ S 0 1) 1 x47) 2 x88) 3 x143 k = symF P k := by
  intro k hk
  subst h0
  match k, hk with
  | 0, _ => simp [upZ, symF]
  | 1, _ => simp [upZ, symF, e1, h1]
  | 2, _ => simp [upZ, symF, e2, h2]
  | 3, _ => simp [upZ, symF, e3, h3]
theorem rk_out {P : Nat → Int} {r : Nat} (hr : r ≤ 3) (h0 : ∀ k, r < k → k ≤ 3 → symF P k = 0) (h : r = 0 ∨ ¬ symF P r = 0) : r = rk0 P := by
  have h1 := h0 1; have h2 := h0 2; have h3 := h0 3
  unfold rk0
  simp only [symF] at h1 h2 h3
  match r, hr with
  | 0, _ => simp [h1 (by omega) (by omega), h2 (by omega) (by omega), h3 (by omega) (by omega)]
  | 1, _ => simp only [symF] at h; simp [h2 (by omega) (by omega), h3 (by omega) (by omega)]; omega
  | 2, _ => simp only [symF] at h; simp [h3 (by omega) (by omega)]; omega
  | 3, _ => simp only [symF] at h; simp; omega
def slvF (P S f : Nat → Int) : Nat → (Nat → Int)
  | 0 => fun _ => 0
  | 1 => f
  | r + 2 => fun i => S (r + 1) * f i - rp P i (slvF P S f (r + 1) 0) (slvF P S f (r + 1) 1) (slvF P S f (r + 1) 2)
def slv (P f : Nat → Int) (i : Nat) : Int := slvF P (symF P) f (rk0 P) i
theorem slvF_congr {P S S' f : Nat → Int} {r : Nat} (hr : r ≤ 3) (h : ∀ k, k ≤ 3 → S k = S' k) : ∀ n, n ≤ r → ∀ i, slvF P S f n i = slvF P S' f n i
  | 0, _, _ => rfl
  | 1, _, _ => rfl
  | n + 2, hn, i => by
    show S (n + 1) * f i - rp P i _ _ _ = S' (n + 1) * f i - rp P i _ _ _
    rw [h (n + 1) (by omega), slvF_congr hr h (n + 1) (by omega) 0, slvF_congr hr h (n + 1) (by omega) 1, slvF_congr hr h (n + 1) (by omega) 2]
theorem slv_of {P S f g : Nat → Int} (h : ∀ k, k ≤ 3 → S k = symF P k) (hg : ∀ i, i < 3 → g i = slvF P S f (rk0 P) i) : ∀ i, i < 3 → g i = slv P f i := fun i hi => by
  rw [hg i hi]; exact slvF_congr (rk_le P) h _ (Nat.le_refl _) i
def SI (P S f : Nat → Int) (r s : Nat) (g : Nat → Int) : Prop := (r = 0 ∧ ∀ j, j < 3 → g j = 0) ∨ (1 ≤ r ∧ s ≤ r ∧ ∀ j, j < 3 → g j = slvF P S f s j)
theorem SI.init {P S f g : Nat → Int} {r i : Nat} (hi : 3 ≤ i) (h : ∀ j, j < i → g j = if r = 0 then 0 else f j) : SI P S f r 1 g := by
  rcases Nat.eq_zero_or_pos r with e | e
  · exact Or.inl ⟨e, fun j hj => by rw [h j (by omega), if_pos e]⟩
  · exact Or.inr ⟨e, e, fun j hj => by rw [h j (by omega), if_neg (by omega)]; rfl⟩
theorem SI.next {P S f g g' : Nat → Int} {r s i : Nat} (h : SI P S f r s g) (hs : 1 ≤ s) (hr : s < r) (hi : i ≤ 3) (h7 : ∀ j, j < i → g' j = S s * f j - rp P j (g 0) (g 1) (g 2)) (hi3 : 3 ≤ i := by omega) : SI P S f r (s + 1) g' := by
  rcases h with ⟨e, -⟩ | ⟨h1, h2, h3⟩
  · omega
  · refine Or.inr ⟨h1, by omega, fun j hj => ?_⟩
    obtain ⟨k, rfl⟩ : ∃ k, s = k + 1 := ⟨s - 1, by omega⟩
    rw [h7 j (by omega), h3 0 (by omega), h3 1 (by omega), h3 2 (by omega)]
    rfl
theorem SI.out {P S f g : Nat → Int} {r s : Nat} (h : SI P S f r s g) (hs : r ≤ s) : ∀ j, j < 3 → g j = slvF P S f r j := by
  rcases h with ⟨e, h⟩ | ⟨h1, h2, h3⟩
  · subst e; intro j hj; rw [h j hj]; rfl
  · have : s = r := by omega
    subst this; exact h3
theorem sh_r {m i : Nat} (hm : m < 8) (hi : i < 3) : (iI (m : Int)) >>> (iI (i : Int) &&& 31) = iI ((m >>> i : Nat) : Int) := by
  have : ∀ m : Fin 8, ∀ i : Fin 3, (iI ((m.val : Nat) : Int)) >>> (iI ((i.val : Nat) : Int) &&& 31) = iI ((m.val >>> i.val : Nat) : Int) := by decide +kernel
  exact this ⟨m, hm⟩ ⟨i, hi⟩
theorem sh_1 {m : Nat} (hm : m < 8) (i : Nat) : iI ((m >>> i : Nat) : Int) &&& iI 1 = iI ((m >>> i &&& 1 : Nat) : Int) := by
  have : ∀ m : Fin 8, iI ((m.val : Nat) : Int) &&& iI 1 = iI ((m.val &&& 1 : Nat) : Int) := by decide +kernel
  have hl : m >>> i < 8 := by rw [Nat.shiftRight_eq_div_pow]; exact Nat.lt_of_le_of_lt (Nat.div_le_self _ _) hm
  exact this ⟨m >>> i, hl⟩
theorem sh_in (m i : Nat) : InI ((m >>> i &&& 1 : Nat) : Int) := by
  have : m >>> i &&& 1 ≤ 1 := Nat.and_le_right
  omega
theorem sh_f {m i : Nat} (h : ((m >>> i &&& 1 : Nat) : Int) = 0) : m.testBit i = false := by
  have : m >>> i &&& 1 = 0 := by omega
  have e : m.testBit i = (1 &&& m >>> i != 0) := rfl
  rw [e, Nat.and_comm, this]; rfl
theorem sh_t {m i : Nat} (h : ¬ ((m >>> i &&& 1 : Nat) : Int) = 0) : m.testBit i = true := by
  have : m >>> i &&& 1 ≠ 0 := by omega
  have e : m.testBit i = (1 &&& m >>> i != 0) := rfl
  rw [e, Nat.and_comm]; exact bne_iff_ne.mpr this
def GCp (P9 : Nat → Int) (mk : Nat) (p : Nat → Int) (i j : Nat) : Prop := ∀ a b, a < 3 → b < 3 → (a < i ∨ (a = i ∧ b < j)) → p (a * 3 + b) = if mk.testBit a = true ∧ mk.testBit b = true then P9 (a * 3 + b) else 0
theorem GCp.init {P9 p : Nat → Int} {mk : Nat} : GCp P9 mk p 0 0 := by intro a b _ _ h; omega
theorem GCp.next {P9 p : Nat → Int} {mk i j : Nat} (h : GCp P9 mk p i j) (hj : 3 ≤ j) : GCp P9 mk p (i + 1) 0 := fun a b ha hb h2 => h a b ha hb (by omega)
theorem GCp.step {P9 p : Nat → Int} {mk i j : Nat} {v : Int} (h : GCp P9 mk p i j) (hi : i < 3) (hj : j < 3) (hv : v = if mk.testBit i = true ∧ mk.testBit j = true then P9 (i * 3 + j) else 0) : GCp P9 mk (upZ p (i * 3 + j) v) i (j + 1) := by
  intro a b ha hb h2
  by_cases e : a * 3 + b = i * 3 + j
  · obtain ⟨rfl, rfl⟩ : a = i ∧ b = j := by omega
    rw [upZ_s, hv]
  · rw [upZ_n _ _ e]; exact h a b ha hb (by omega)
theorem GCp.out {P9 p : Nat → Int} {mk i : Nat} (h : GCp P9 mk p i 0) (hi : 3 ≤ i) : ∀ a b, a < 3 → b < 3 → p (a * 3 + b) = if mk.testBit a = true ∧ mk.testBit b = true then P9 (a * 3 + b) else 0 := fun a b ha hb => h a b ha hb (by omega)
theorem cp_val {mk i j : Nat} {x v : Int} (h : (mk.testBit i = false ∧ v = 0) ∨ (mk.testBit i = true ∧ ((mk >>> j &&& 1 : Nat) : Int) = 0 ∧ v = 0) ∨ (mk.testBit i = true ∧ ¬ ((mk >>> j &&& 1 : Nat) : Int) = 0 ∧ v = x)) : v = if mk.testBit i = true ∧ mk.testBit j = true then x else 0 := by
  rcases h with ⟨h, e⟩ | ⟨h, h2, e⟩ | ⟨h, h2, e⟩
  · rw [e, if_neg (by rw [h]; simp)]
  · rw [e, if_neg (by rw [sh_f h2]; simp)]
  · rw [e, if_pos ⟨h, sh_t h2⟩]
