/-! the class's answers as functions of the table -/
def PG (X : Nat → Int) (K : Nat → Bool) (n : Nat) : Nat → Int := fun k => gmF X K (k / 3) (k % 3) n
def RG (X Y : Nat → Int) (K : Nat → Bool) (n : Nat) : Nat → Int := fun i => rhF X Y K i n
def boG (X : Nat → Int) (K : Nat → Bool) (n : Nat) : Int := symF (PG X K n) (rk0 (PG X K n))
def smG (X Y : Nat → Int) (K : Nat → Bool) (n : Nat) : Int := yyF Y K n * boG X K n - pr3 (RG X Y K n) (slv (PG X K n) (RG X Y K n))
def msG (X Y : Nat → Int) (K : Nat → Bool) (n r : Nat) : Int := Y r * boG X K n - pr3 (fun j => X (r * 3 + j)) (slv (PG X K n) (RG X Y K n))
def plG (X : Nat → Int) (K : Nat → Bool) (n r : Nat) : Int := pr3 (fun j => X (r * 3 + j)) (slv (PG X K n) (fun j => X (r * 3 + j)))
theorem slvF_bd {P f : Nat → Int} {F : Int} (hP : PB P) (hf : ∀ i, i < 3 → -F ≤ f i ∧ f i ≤ F) {r i : Nat} (hr : r ≤ 3) (hi : i < 3) : -(90699264 * F) ≤ slvF P (symF P) f r i ∧ slvF P (symF P) f r i ≤ 90699264 * F := by
  have hF : 0 ≤ F := by have := hf 0 (by omega); omega
  have rpb : ∀ (A : Int) (a b c : Int) (i : Nat), 0 ≤ A → i < 3 → (-A ≤ a ∧ a ≤ A) → (-A ≤ b ∧ b ≤ A) → (-A ≤ c ∧ c ≤ A) → -(5832 * A) ≤ rp P i a b c ∧ rp P i a b c ≤ 5832 * A := by
    intro A a b c i hA hi ha hb hc
    have h1 := mul_bd (hP (i * 3) (by omega)) ha
    have h2 := mul_bd (hP (i * 3 + 1) (by omega)) hb
    have h3 := mul_bd (hP (i * 3 + 2) (by omega)) hc
    unfold rp; omega
  have h1 : ∀ i, i < 3 → -(11664 * F) ≤ slvF P (symF P) f 2 i ∧ slvF P (symF P) f 2 i ≤ 11664 * F := by
    intro i hi
    show _ ≤ symF P 1 * f i - rp P i (f 0) (f 1) (f 2) ∧ symF P 1 * f i - rp P i (f 0) (f 1) (f 2) ≤ _
    have a := rpb F (f 0) (f 1) (f 2) i hF hi (hf 0 (by omega)) (hf 1 (by omega)) (hf 2 (by omega))
    have e : -5832 ≤ symF P 1 ∧ symF P 1 ≤ 5832 := by
      have b0 := hP 0 (by omega); have b4 := hP 4 (by omega); have b8 := hP 8 (by omega)
      show _ ≤ e1 P ∧ e1 P ≤ _
      unfold e1; omega
    have b := mul_bd e (hf i hi)
    omega
  match r, hr with
  | 0, _ => show _ ≤ (0 : Int) ∧ (0 : Int) ≤ _; omega
  | 1, _ => have := hf i hi; show _ ≤ f i ∧ f i ≤ _; omega
  | 2, _ => have := h1 i hi; omega
  | 3, _ =>
    show _ ≤ symF P 2 * f i - rp P i (slvF P (symF P) f 2 0) (slvF P (symF P) f 2 1) (slvF P (symF P) f 2 2) ∧ symF P 2 * f i - rp P i (slvF P (symF P) f 2 0) (slvF P (symF P) f 2 1) (slvF P (symF P) f 2 2) ≤ _
    have a := rpb (11664 * F) _ _ _ i (by omega) hi (h1 0 (by omega)) (h1 1 (by omega)) (h1 2 (by omega))
    have e : -22674816 ≤ symF P 2 ∧ symF P 2 ≤ 22674816 := by
      have b0 := hP 0 (by omega); have b1 := hP 1 (by omega); have b2 := hP 2 (by omega); have b3 := hP 3 (by omega); have b4 := hP 4 (by omega)
      have b5 := hP 5 (by omega); have b6 := hP 6 (by omega); have b7 := hP 7 (by omega); have b8 := hP 8 (by omega)
      have m48 := mul_bd b4 b8; have m57 := mul_bd b5 b7; have m08 := mul_bd b0 b8; have m26 := mul_bd b2 b6; have m04 := mul_bd b0 b4; have m13 := mul_bd b1 b3
      show _ ≤ e2 P ∧ e2 P ≤ _
      unfold e2; omega
    have b := mul_bd e (hf i hi)
    omega
theorem slv_bd {P f : Nat → Int} {F : Int} (hP : PB P) (hf : ∀ i, i < 3 → -F ≤ f i ∧ f i ≤ F) {i : Nat} (hi : i < 3) : -(90699264 * F) ≤ slv P f i ∧ slv P f i ≤ 90699264 * F := slvF_bd hP hf (rk_le P) hi
theorem PG_at {X Y : Nat → Int} {K : Nat → Bool} {n : Nat} {P R : Nat → Int} {ts : Int} (h : GrR X Y K n P R ts) : ∀ k, k < 9 → P k = PG X K n k := by
  intro k hk
  have h1 := h.1 (k / 3) (k % 3) (by omega) (by omega)
  rw [show k / 3 * 3 + k % 3 = k by omega] at h1
  exact h1
theorem slv_congr {P Q f f' : Nat → Int} (hP : ∀ k, k < 9 → P k = Q k) (hf : ∀ i, i < 3 → f i = f' i) {i : Nat} (hi : i < 3) : slv P f i = slv Q f' i := by
  unfold slv; rw [rk0_congr hP]
  exact slvF_congr2 hP (fun k _ => symF_congr hP k) hf _ (rk_le _) i hi
theorem pr3_bd {f g : Nat → Int} {A B : Int} (hf : ∀ i, i < 3 → -A ≤ f i ∧ f i ≤ A) (hg : ∀ i, i < 3 → -B ≤ g i ∧ g i ≤ B) : -(3 * (A * B)) ≤ pr3 f g ∧ pr3 f g ≤ 3 * (A * B) := by
  have a := mul_bd (hf 0 (by omega)) (hg 0 (by omega)); have b := mul_bd (hf 1 (by omega)) (hg 1 (by omega)); have c := mul_bd (hf 2 (by omega)) (hg 2 (by omega))
  unfold pr3; omega
theorem pr3_congr {f g f' g' : Nat → Int} (hf : ∀ i, i < 3 → f i = f' i) (hg : ∀ i, i < 3 → g i = g' i) : pr3 f g = pr3 f' g' := by
  unfold pr3; rw [hf 0 (by omega), hf 1 (by omega), hf 2 (by omega), hg 0 (by omega), hg 1 (by omega), hg 2 (by omega)]
section SO
variable {X Y P R T S : Nat → Int} {K : Nat → Bool} {n : Nat} {ts rk : Int}
theorem SqOk.pure (h : SqOk X Y K n P R T S ts rk) : (∀ i, i < 3 → T i = slv (PG X K n) (RG X Y K n) i) ∧ S (rk0 P) = boG X K n := by
  obtain ⟨h1, h2, h3, -⟩ := h
  refine ⟨fun i hi => ?_, ?_⟩
  · rw [h3 i hi]; exact slv_congr (PG_at h1) h1.2.1 hi
  · rw [h2 _ (rk_le P)]; unfold boG; rw [rk0_congr (PG_at h1), symF_congr (PG_at h1)]
theorem SqOk.rb (h : SqOk X Y K n P R T S ts rk) (hB : TbB X Y n) : ∀ i, i < 3 → -21384 ≤ R i ∧ R i ≤ 21384 := fun i hi => by
  rw [h.1.2.1 i hi]
  have := rh_bd (K := K) hB hi n (Nat.le_refl _)
  have := hB.1
  omega
theorem SqOk.tb (h : SqOk X Y K n P R T S ts rk) (hB : TbB X Y n) : ∀ i, i < 3 → -1939513061376 ≤ T i ∧ T i ≤ 1939513061376 := fun i hi => by
  rw [h.2.2.1 i hi]
  have := slv_bd (F := 21384) (h.1.pb hB) (h.rb hB) hi
  omega
theorem SqOk.bdT (h : SqOk X Y K n P R T S ts rk) (hB : TbB X Y n) {i : Nat} (hi : i < 3) : -9223372036854775807 ≤ T i ∧ T i ≤ 9223372036854775807 := by
  have := h.tb hB i hi; omega
theorem SqOk.sb (h : SqOk X Y K n P R T S ts rk) (hB : TbB X Y n) : -44080933104 ≤ S (rk0 P) ∧ S (rk0 P) ≤ 44080933104 := by
  rw [h.2.1 _ (rk_le P)]; exact sym_in (h.1.pb hB)
theorem SqOk.bdS (h : SqOk X Y K n P R T S ts rk) (hB : TbB X Y n) : -9223372036854775807 ≤ S (rk0 P) ∧ S (rk0 P) ≤ 9223372036854775807 := by
  have := h.sb hB; omega
theorem SqOk.sm (h : SqOk X Y K n P R T S ts rk) : ts * S (rk0 P) - pr3 R T = smG X Y K n := by
  unfold smG; rw [h.pure.2, h.1.2.2, pr3_congr h.1.2.1 h.pure.1]; rfl
theorem SqOk.smb (h : SqOk X Y K n P R T S ts rk) (hB : TbB X Y n) : -9223372036854775807 ≤ ts * S (rk0 P) - pr3 R T ∧ ts * S (rk0 P) - pr3 R T ≤ 9223372036854775807 := by
  have a := pr3_bd (h.rb hB) (h.tb hB)
  have b := yy_bd (K := K) hB n (Nat.le_refl _)
  have c := hB.1
  have d := mul_bd (a := ts) (A := 235224) (by rw [h.1.2.2]; omega) (h.sb hB)
  omega
theorem xr_bd (hB : TbB X Y n) {r : Nat} (hr : r < n) {g : Nat → Int} (hg : ∀ j, j < 3 → g j = X (r * 3 + j)) : ∀ j, j < 3 → -9 ≤ g j ∧ g j ≤ 9 := fun j hj => by rw [hg j hj]; exact (hB.2 r hr).1 j hj
theorem SqOk.ms (h : SqOk X Y K n P R T S ts rk) {r : Nat} {g : Nat → Int} (hg : ∀ j, j < 3 → g j = X (r * 3 + j)) : Y r * S (rk0 P) - pr3 g T = msG X Y K n r := by
  unfold msG; rw [h.pure.2, pr3_congr hg h.pure.1]
theorem SqOk.msb (h : SqOk X Y K n P R T S ts rk) (hB : TbB X Y n) {r : Nat} (hr : r < n) {g : Nat → Int} (hg : ∀ j, j < 3 → g j = X (r * 3 + j)) : -9223372036854775807 ≤ Y r * S (rk0 P) - pr3 g T ∧ Y r * S (rk0 P) - pr3 g T ≤ 9223372036854775807 := by
  have a := pr3_bd (xr_bd hB hr hg) (h.tb hB)
  have d := mul_bd (hB.2 r hr).2 (h.sb hB)
  omega
theorem SqOk.sv (h : SqOk X Y K n P R T S ts rk) {f f' g : Nat → Int} (hf : ∀ j, j < 3 → f j = f' j) (hg : ∀ i, i < 3 → g i = slvF P S f (rk0 P) i) : ∀ i, i < 3 → g i = slv (PG X K n) f' i := fun i hi => by
  rw [slv_of h.2.1 hg i hi]; exact slv_congr (PG_at h.1) hf hi
theorem SqOk.pl (h : SqOk X Y K n P R T S ts rk) {r : Nat} {g g' : Nat → Int} (hg : ∀ j, j < 3 → g j = X (r * 3 + j)) (hs : ∀ i, i < 3 → g' i = slvF P S g (rk0 P) i) : pr3 g g' = plG X K n r := pr3_congr hg (h.sv hg hs)
theorem SqOk.svb (h : SqOk X Y K n P R T S ts rk) (hB : TbB X Y n) {r : Nat} (hr : r < n) {g g' : Nat → Int} (hg : ∀ j, j < 3 → g j = X (r * 3 + j)) (hs : ∀ i, i < 3 → g' i = slvF P S g (rk0 P) i) : ∀ i, i < 3 → -816293376 ≤ g' i ∧ g' i ≤ 816293376 := fun i hi => by
  rw [slv_of h.2.1 hs i hi]
  have := slv_bd (F := 9) (h.1.pb hB) (xr_bd hB hr hg) hi
  omega
theorem SqOk.plb (h : SqOk X Y K n P R T S ts rk) (hB : TbB X Y n) {r : Nat} (hr : r < n) {g g' : Nat → Int} (hg : ∀ j, j < 3 → g j = X (r * 3 + j)) (hs : ∀ i, i < 3 → g' i = slvF P S g (rk0 P) i) : -9223372036854775807 ≤ pr3 g g' ∧ pr3 g g' ≤ 9223372036854775807 := by
  have a := pr3_bd (xr_bd hB hr hg) (h.svb hB hr hg hs)
  omega
end SO
