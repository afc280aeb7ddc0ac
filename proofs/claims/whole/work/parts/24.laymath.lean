def dig (p c : Nat) : Nat := p / 3 ^ c % 3
def sgP (p c : Nat) : Int := if dig p c = 2 then -1 else (dig p c : Int)
def dbP (R : Nat → Int) (p c : Nat) : Int := if dig p c = 0 then 0 else 2 * R c
def mskC (p : Nat) : Nat → Nat
  | 0 => 0
  | c + 1 => mskC p c ||| (if dig p c = 0 then 0 else 1 <<< c)
def mskP (p : Nat) : Nat := mskC p 3
def cpP (P : Nat → Int) (mk k : Nat) : Int := if mk.testBit (k / 3) = true ∧ mk.testBit (k % 3) = true then P k else 0
def QP (P : Nat → Int) (p : Nat) : Nat → Int := cpP P (mskP p)
theorem dig_lt (p c : Nat) : dig p c < 3 := Nat.mod_lt _ (by decide)
theorem shl_c {c : Nat} (h : c < 3) : iI 1 <<< (iI ((c : Nat) : Int) &&& 31) = iI ((1 <<< c : Nat) : Int) := by
  have : ∀ c : Fin 3, iI 1 <<< (iI ((c.val : Nat) : Int) &&& 31) = iI ((1 <<< c.val : Nat) : Int) := by decide +kernel
  exact this ⟨c, h⟩
theorem or_8 {a b : Nat} (ha : a < 8) (hb : b < 8) : iI ((a : Nat) : Int) ||| iI ((b : Nat) : Int) = iI ((a ||| b : Nat) : Int) := by
  have : ∀ a b : Fin 8, iI ((a.val : Nat) : Int) ||| iI ((b.val : Nat) : Int) = iI ((a.val ||| b.val : Nat) : Int) := by decide +kernel
  exact this ⟨a, ha⟩ ⟨b, hb⟩
theorem or_lt8 {a b : Nat} (ha : a < 8) (hb : b < 8) : a ||| b < 8 := Nat.or_lt_two_pow (n := 3) ha hb
theorem shl_lt {c : Nat} (h : c < 3) : 1 <<< c < 8 := by
  have : ∀ c : Fin 3, 1 <<< c.val < 8 := by decide
  exact this ⟨c, h⟩
theorem mskC_lt (p : Nat) : ∀ c, c ≤ 3 → mskC p c < 8
  | 0, _ => (by decide : 0 < 8)
  | c + 1, h => or_lt8 (mskC_lt p c (by omega)) (by split; decide; exact shl_lt (by omega))
theorem msk_8 {r c j : Nat} (hc : c < 3) (h : (¬ ((r % 3 : Nat) : Int) = 0 ∧ j = 1 <<< c) ∨ (((r % 3 : Nat) : Int) = 0 ∧ j = 0)) : j < 8 := by
  rcases h with ⟨-, rfl⟩ | ⟨-, rfl⟩
  · exact shl_lt hc
  · decide
theorem msk_step {p r c j : Nat} (hr : r = p / 3 ^ c) (h : (¬ ((r % 3 : Nat) : Int) = 0 ∧ j = 1 <<< c) ∨ (((r % 3 : Nat) : Int) = 0 ∧ j = 0)) : mskC p c ||| j = mskC p (c + 1) := by
  subst hr
  show _ = mskC p c ||| (if dig p c = 0 then 0 else 1 <<< c)
  unfold dig
  rcases h with ⟨h, rfl⟩ | ⟨h, rfl⟩
  · rw [if_neg (by omega)]
  · rw [if_pos (by omega)]
theorem sg_step {p r c : Nat} {j : Int} (hr : r = p / 3 ^ c) (h : (¬ ((r % 3 : Nat) : Int) = 2 ∧ j = ((r % 3 : Nat) : Int)) ∨ (((r % 3 : Nat) : Int) = 2 ∧ j = -1)) : j = sgP p c := by
  subst hr
  unfold sgP dig
  rcases h with ⟨h, rfl⟩ | ⟨h, rfl⟩
  · rw [if_neg (by omega)]
  · rw [if_pos (by omega)]
theorem db_step {R : Nat → Int} {p r c : Nat} {j : Int} (hr : r = p / 3 ^ c) (h : (¬ ((r % 3 : Nat) : Int) = 0 ∧ j = 2 * R c) ∨ (((r % 3 : Nat) : Int) = 0 ∧ j = 0)) : j = dbP R p c := by
  subst hr
  unfold dbP dig
  rcases h with ⟨h, rfl⟩ | ⟨h, rfl⟩
  · rw [if_neg (by omega)]
  · rw [if_pos (by omega)]
theorem sg_bd (p c : Nat) : -1 ≤ sgP p c ∧ sgP p c ≤ 1 := by
  have := dig_lt p c
  unfold sgP
  split <;> omega
theorem sg_ne {p c : Nat} (h : ¬ sgP p c = 0) : ¬ dig p c = 0 := by
  intro e; apply h; unfold sgP; rw [e]; rfl
theorem sg_eq {p c : Nat} (h : sgP p c = 0) : dig p c = 0 := by
  unfold sgP at h
  split at h <;> omega
theorem qp_agree {P P2 : Nat → Int} {p mk : Nat} (hm : mk = mskP p) (h : ∀ i j, i < 3 → j < 3 → P2 (i * 3 + j) = if mk.testBit i = true ∧ mk.testBit j = true then P (i * 3 + j) else 0) : ∀ k, k < 9 → P2 k = QP P p k := by
  intro k hk
  have h1 := h (k / 3) (k % 3) (by omega) (by omega)
  rw [show k / 3 * 3 + k % 3 = k by omega] at h1
  rw [h1, hm]; rfl
theorem PB_congr {P Q : Nat → Int} (h : ∀ k, k < 9 → P k = Q k) (hq : PB Q) : PB P := fun j hj => by rw [h j hj]; exact hq j hj
theorem PB_qp {P : Nat → Int} (h : PB P) (p : Nat) : PB (QP P p) := by
  intro j hj
  unfold QP cpP
  split
  · exact h j hj
  · omega
theorem symF_congr {P Q : Nat → Int} (h : ∀ k, k < 9 → P k = Q k) (j : Nat) : symF P j = symF Q j := by
  unfold symF e1 e2 e3
  rw [h 0 (by omega), h 1 (by omega), h 2 (by omega), h 3 (by omega), h 4 (by omega), h 5 (by omega), h 6 (by omega), h 7 (by omega), h 8 (by omega)]
theorem rk0_congr {P Q : Nat → Int} (h : ∀ k, k < 9 → P k = Q k) : rk0 P = rk0 Q := by
  have a := symF_congr h 1; have b := symF_congr h 2; have c := symF_congr h 3
  simp only [symF] at a b c
  unfold rk0; rw [a, b, c]
theorem rp_congr {P Q : Nat → Int} (h : ∀ k, k < 9 → P k = Q k) {i : Nat} (hi : i < 3) {a b c a' b' c' : Int} (ha : a = a') (hb : b = b') (hc : c = c') : rp P i a b c = rp Q i a' b' c' := by
  unfold rp; rw [h (i * 3) (by omega), h (i * 3 + 1) (by omega), h (i * 3 + 2) (by omega), ha, hb, hc]
theorem slvF_congr2 {P Q S S' f f' : Nat → Int} (hP : ∀ k, k < 9 → P k = Q k) (hS : ∀ k, k ≤ 3 → S k = S' k) (hf : ∀ i, i < 3 → f i = f' i) : ∀ n, n ≤ 3 → ∀ i, i < 3 → slvF P S f n i = slvF Q S' f' n i
  | 0, _, _, _ => rfl
  | 1, _, i, hi => hf i hi
  | n + 2, hn, i, hi => by
    have ih := slvF_congr2 hP hS hf (n + 1) (by omega)
    show S (n + 1) * f i - rp P i _ _ _ = S' (n + 1) * f' i - rp Q i _ _ _
    rw [hS (n + 1) (by omega), hf i hi, rp_congr hP hi (ih 0 (by omega)) (ih 1 (by omega)) (ih 2 (by omega))]
def bsP (P R : Nat → Int) (p i : Nat) : Int := slvF (QP P p) (symF (QP P p)) (dbP R p) (rk0 (QP P p)) i
def slP (P : Nat → Int) (p i : Nat) : Int := slvF (QP P p) (symF (QP P p)) (sgP p) (rk0 (QP P p)) i
def boP (P : Nat → Int) (p : Nat) : Int := symF (QP P p) (rk0 (QP P p))
def drP (P R : Nat → Int) (p c : Nat) : Int := 2 * R c * boP P p - rp P c (bsP P R p 0) (bsP P R p 1) (bsP P R p 2)
def moP (P : Nat → Int) (p c : Nat) : Int := rp P c (slP P p 0) (slP P p 1) (slP P p 2)
def cdC (P R : Nat → Int) (p : Nat) (Φ : Int → Int → Bool → Prop) (c : Nat) : Prop := if dig p c = 0 then Φ (-drP P R p c) (boP P p - moP P p c) false ∧ Φ (drP P R p c) (boP P p + moP P p c) false else Φ (sgP p c * bsP P R p c) (-sgP p c * slP P p c) true
def CdI (P R : Nat → Int) (p c n : Nat) (fx rs : Nat → Int) (st : Nat → Bool) : Prop := n ≤ 2 * c ∧ ∀ Φ : Int → Int → Bool → Prop, (∀ q, q < n → Φ (fx q) (rs q) (st q)) ↔ ∀ c', c' < c → cdC P R p Φ c'
theorem CdI.init {P R : Nat → Int} {p : Nat} {fx rs : Nat → Int} {st : Nat → Bool} : CdI P R p 0 0 fx rs st := ⟨Nat.le_refl _, fun Φ => ⟨fun _ c h => absurd h (Nat.not_lt_zero _), fun _ q h => absurd h (Nat.not_lt_zero _)⟩⟩
theorem CdI.push1 {P R : Nat → Int} {p c n : Nat} {fx rs : Nat → Int} {st : Nat → Bool} {a b : Int} (h : CdI P R p c n fx rs st) (_ : n < 6) (hd : ¬ dig p c = 0) (ha : a = sgP p c * bsP P R p c) (hb : b = -sgP p c * slP P p c) : CdI P R p (c + 1) (n + 1) (upZ fx n a) (upZ rs n b) (upB st n true) := by
  obtain ⟨h1, h2⟩ := h
  refine ⟨by omega, fun Φ => ⟨fun hq c' hc' => ?_, fun hq q hq' => ?_⟩⟩
  · rcases Nat.lt_or_ge c' c with h3 | h3
    · refine (h2 Φ).mp (fun q hq2 => ?_) c' h3
      have := hq q (by omega)
      rwa [upZ_n _ _ (by omega), upZ_n _ _ (by omega), upB_n _ _ (by omega)] at this
    · have : c' = c := by omega
      subst this
      have := hq n (by omega)
      rw [upZ_s, upZ_s, upB_s, ha, hb] at this
      unfold cdC; rw [if_neg hd]; exact this
  · rcases Nat.lt_or_ge q n with h3 | h3
    · rw [upZ_n _ _ (by omega), upZ_n _ _ (by omega), upB_n _ _ (by omega)]
      exact (h2 Φ).mpr (fun c' hc' => hq c' (by omega)) q h3
    · have : q = n := by omega
      subst this
      have := hq c (by omega)
      unfold cdC at this
      rw [if_neg hd] at this
      rw [upZ_s, upZ_s, upB_s, ha, hb]; exact this
theorem CdI.push2 {P R : Nat → Int} {p c n : Nat} {fx rs : Nat → Int} {st : Nat → Bool} {dr mo S : Int} (h : CdI P R p c n fx rs st) (_ : n < 5) (hd : dig p c = 0) (ha : dr = drP P R p c) (hb : mo = moP P p c) (hS : S = boP P p) : CdI P R p (c + 1) (n + 2) (upZ (upZ fx n (-dr)) (n + 1) dr) (upZ (upZ rs n (S - mo)) (n + 1) (S + mo)) (upB (upB st n false) (n + 1) false) := by
  obtain ⟨h1, h2⟩ := h
  subst ha; subst hb; subst hS
  have at0 : ∀ q, q < n → upZ (upZ fx n (-drP P R p c)) (n + 1) (drP P R p c) q = fx q ∧ upZ (upZ rs n (boP P p - moP P p c)) (n + 1) (boP P p + moP P p c) q = rs q ∧ upB (upB st n false) (n + 1) false q = st q := fun q hq => by
    rw [upZ_n _ _ (by omega), upZ_n _ _ (by omega), upZ_n _ _ (by omega), upZ_n _ _ (by omega), upB_n _ _ (by omega), upB_n _ _ (by omega)]; exact ⟨rfl, rfl, rfl⟩
  have at1 : upZ (upZ fx n (-drP P R p c)) (n + 1) (drP P R p c) n = -drP P R p c ∧ upZ (upZ rs n (boP P p - moP P p c)) (n + 1) (boP P p + moP P p c) n = boP P p - moP P p c ∧ upB (upB st n false) (n + 1) false n = false := by
    refine ⟨?_, ?_, ?_⟩
    · rw [upZ_n _ _ (by omega), upZ_s]
    · rw [upZ_n _ _ (by omega), upZ_s]
    · rw [upB_n _ _ (by omega), upB_s]
  refine ⟨by omega, fun Φ => ⟨fun hq c' hc' => ?_, fun hq q hq' => ?_⟩⟩
  · rcases Nat.lt_or_ge c' c with h3 | h3
    · refine (h2 Φ).mp (fun q hq2 => ?_) c' h3
      have := hq q (by omega)
      obtain ⟨e1, e2, e3⟩ := at0 q hq2
      rwa [e1, e2, e3] at this
    · have : c' = c := by omega
      subst this
      have a := hq n (by omega)
      have b := hq (n + 1) (by omega)
      rw [at1.1, at1.2.1, at1.2.2] at a
      rw [upZ_s, upZ_s, upB_s] at b
      unfold cdC; rw [if_pos hd]; exact ⟨a, b⟩
  · rcases Nat.lt_or_ge q n with h3 | h3
    · obtain ⟨e1, e2, e3⟩ := at0 q h3
      rw [e1, e2, e3]
      exact (h2 Φ).mpr (fun c' hc' => hq c' (by omega)) q h3
    · have hc := hq c (by omega)
      unfold cdC at hc
      rw [if_pos hd] at hc
      rcases (show q = n ∨ q = n + 1 by omega) with rfl | rfl
      · rw [at1.1, at1.2.1, at1.2.2]; exact hc.1
      · rw [upZ_s, upZ_s, upB_s]; exact hc.2
theorem bc_le (s : Nat) : bcN s ≤ 3 := by
  unfold bcN
  have h1 : s &&& 1 ≤ 1 := Nat.and_le_right
  have h2 : s >>> 1 &&& 1 ≤ 1 := Nat.and_le_right
  have h3 : s >>> 2 &&& 1 ≤ 1 := Nat.and_le_right
  omega
theorem lay_fin {P P2 S R sg db bs sl : Nat → Int} {p c : Nat} (e3 : c = 3) (hq : ∀ k, k < 9 → P2 k = QP P p k) (hS : ∀ k, k ≤ 3 → S k = symF P2 k) (hb : ∀ i, i < 3 → bs i = slvF P2 S db (rk0 P2) i) (hl : ∀ i, i < 3 → sl i = slvF P2 S sg (rk0 P2) i) (hsg : ∀ i, i < c → sg i = sgP p i) (hdb : ∀ i, i < c → db i = dbP R p i) :
    S (rk0 P2) = boP P p ∧ (∀ i, i < 3 → bs i = bsP P R p i) ∧ (∀ i, i < 3 → sl i = slP P p i) ∧ (∀ i, i < 3 → 2 * R i * boP P p - rp P i (bs 0) (bs 1) (bs 2) = drP P R p i) ∧ ∀ i, i < 3 → rp P i (sl 0) (sl 1) (sl 2) = moP P p i := by
  subst e3
  have hrk := rk0_congr hq
  have hS2 : ∀ k, k ≤ 3 → S k = symF (QP P p) k := fun k hk => by rw [hS k hk, symF_congr hq]
  have b1 : ∀ i, i < 3 → bs i = bsP P R p i := fun i hi => by rw [hb i hi, hrk]; exact slvF_congr2 hq hS2 hdb _ (rk_le _) i hi
  have l1 : ∀ i, i < 3 → sl i = slP P p i := fun i hi => by rw [hl i hi, hrk]; exact slvF_congr2 hq hS2 hsg _ (rk_le _) i hi
  refine ⟨by rw [hrk]; exact hS2 _ (rk_le _), b1, l1, fun i hi => ?_, fun i hi => ?_⟩
  · rw [b1 0 (by omega), b1 1 (by omega), b1 2 (by omega)]; rfl
  · rw [l1 0 (by omega), l1 1 (by omega), l1 2 (by omega)]; rfl
def CdR (P R : Nat → Int) (p n : Nat) (fx rs : Nat → Int) (st : Nat → Bool) : Prop := ∀ Φ : Int → Int → Bool → Prop, (∀ q, q < n → Φ (fx q) (rs q) (st q)) ↔ ∀ c, c < 3 → cdC P R p Φ c
def LayR (P R : Nat → Int) (ts9 : Int) (p : Nat) (v : Bool) (cn2 ts2 : Int) (r2 : Nat) (S2 sg2 db2 bs2 sl2 fx2 rs2 : Nat → Int) (st2 : Nat → Bool) : Prop :=
  ts2 = ts9 ∧ r2 = rk0 (QP P p) ∧ (∀ k, k ≤ 3 → S2 k = symF (QP P p) k) ∧ (∀ c, c < 3 → sg2 c = sgP p c) ∧ (∀ c, c < 3 → db2 c = dbP R p c) ∧ v = decide (rk0 (QP P p) = bcN (mskP p)) ∧ (v = true → (∀ i, i < 3 → bs2 i = bsP P R p i) ∧ (∀ i, i < 3 → sl2 i = slP P p i) ∧ ∃ n : Nat, cn2 = n ∧ n ≤ 6 ∧ CdR P R p n fx2 rs2 st2)
theorem LayR.no {P P2 R S sg db bs sl fx rs : Nat → Int} {st : Nat → Bool} {ts cn : Int} {p c mk : Nat} (hq : ∀ k, k < 9 → P2 k = QP P p k) (hS : ∀ k, k ≤ 3 → S k = symF P2 k) (hm : mk = mskC p c) (e3 : c = 3) (h : ¬ ((rk0 P2 : Nat) : Int) = ((bcN mk : Nat) : Int)) (hsg : ∀ i, i < c → sg i = sgP p i) (hdb : ∀ i, i < c → db i = dbP R p i) : LayR P R ts p false cn ts (rk0 P2) S sg db bs sl fx rs st := by
  subst e3
  have hrk := rk0_congr hq
  refine ⟨rfl, hrk, fun k hk => by rw [hS k hk, symF_congr hq], hsg, hdb, ?_, fun h => by cases h⟩
  rw [← hrk, show mskP p = mk from hm.symm]
  exact (decide_eq_false (by omega)).symm
theorem LayR.yes {P P2 R S sg db bs sl fx rs : Nat → Int} {st : Nat → Bool} {ts : Int} {p c mk c5 n : Nat} (hq : ∀ k, k < 9 → P2 k = QP P p k) (hS : ∀ k, k ≤ 3 → S k = symF P2 k) (hm : mk = mskC p c) (e3 : c = 3) (h : ((rk0 P2 : Nat) : Int) = ((bcN mk : Nat) : Int)) (hsg : ∀ i, i < c → sg i = sgP p i) (hdb : ∀ i, i < c → db i = dbP R p i)
    (hf : S (rk0 P2) = boP P p ∧ (∀ i, i < 3 → bs i = bsP P R p i) ∧ (∀ i, i < 3 → sl i = slP P p i) ∧ (∀ i, i < 3 → 2 * R i * boP P p - rp P i (bs 0) (bs 1) (bs 2) = drP P R p i) ∧ ∀ i, i < 3 → rp P i (sl 0) (sl 1) (sl 2) = moP P p i) (h5 : c5 = 3) (hI : CdI P R p c5 n fx rs st) : LayR P R ts p true ((n : Nat) : Int) ts (rk0 P2) S sg db bs sl fx rs st := by
  subst e3; subst h5
  have hrk := rk0_congr hq
  refine ⟨rfl, hrk, fun k hk => by rw [hS k hk, symF_congr hq], hsg, hdb, ?_, fun _ => ⟨hf.2.1, hf.2.2.1, n, rfl, by have := hI.1; omega, hI.2⟩⟩
  rw [← hrk, show mskP p = mk from hm.symm]
  exact (decide_eq_true (by omega)).symm
