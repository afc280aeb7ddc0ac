/-! pure: sizes -/
section SZ8
variable {X : Nat → Int} {x : Nat → Nat → Int} {Y A B C T W9 : Nat → Int} {K : Nat → Bool} {m n : Nat}
/-- the pool's rows -/
theorem PoOk.at (h : PoOk X Y K n A B C T W9 ((cntK K n : Nat) : Int)) (ht : TabR X x Y m n) {j : Nat} (hj : j < cntK K n) : A j = x (nthK K n j) 0 ∧ B j = x (nthK K n j) 1 ∧ C j = x (nthK K n j) 2 ∧ T j = Y (nthK K n j) := by
  obtain ⟨h1, h2, h3⟩ := nth_ok hj
  have q := h.1 _ h1 h2
  rw [h3] at q
  have t := (ht.2.2.1 _ h1).1
  exact ⟨by rw [q.1]; exact ((t 0 (by omega)).1).symm, by rw [q.2.1]; exact ((t 1 (by omega)).1).symm, by rw [q.2.2.1]; exact ((t 2 (by omega)).1).symm, q.2.2.2.1⟩
/-- a sum over the rows that are there is one over the places -/
def smR (K : Nat → Bool) (f : Nat → Int) : Nat → Int
  | 0 => 0
  | r + 1 => smR K f r + if K r = true then f r else 0
def smP (f : Nat → Int) : Nat → Int
  | 0 => 0
  | j + 1 => smP f j + f j
theorem smP_congr {f g : Nat → Int} : ∀ {z}, (∀ j, j < z → f j = g j) → smP f z = smP g z
  | 0, _ => rfl
  | z + 1, h => by show smP f z + _ = smP g z + _; rw [smP_congr (fun j hj => h j (by omega)), h z (by omega)]
theorem nth_ext {n j : Nat} (h : j < cntK K n) : nthK K (n + 1) j = nthK K n j := by
  show (if K n = true ∧ cntK K n = j then n else nthK K n j) = _
  rw [if_neg (by omega)]
theorem smR_P {f : Nat → Int} (n : Nat) : smR K f n = smP (fun j => f (nthK K n j)) (cntK K n) := by
  induction n with
  | zero => rfl
  | succ n ih =>
    show smR K f n + _ = _
    by_cases e : K n = true
    · rw [if_pos e, cnt_t e]
      show _ = smP (fun j => f (nthK K (n + 1) j)) (cntK K n) + f (nthK K (n + 1) (cntK K n))
      rw [smP_congr (g := fun j => f (nthK K n j)) (fun j hj => by rw [nth_ext hj]), ih, nth_cnt K (show n < n + 1 by omega) e]
    · have e' : K n = false := by simpa using e
      rw [if_neg e, cnt_f e', ih, Int.add_zero]
      exact smP_congr (fun j hj => by rw [nth_ext hj])
theorem szU_R {W : Nat → Int} {den : Int} (n : Nat) : szU x Y K m W den n = smR K (fun r => ((Y r * den - dtk (x r) W m).natAbs : Int)) n := by
  induction n with
  | zero => rfl
  | succ n ih => show szU x Y K m W den n + _ = smR K _ n + _; rw [ih]
theorem sumA_P {a b c d : Int} (z : Nat) : sumA A B C T a b c d z = smP (fun r => ((T r * d - A r * a - B r * b - C r * c).natAbs : Int)) z := by
  induction z with
  | zero => rfl
  | succ z ih => show sumA A B C T a b c d z + _ = smP _ z + _; rw [ih]
theorem smP_mul {f g : Nat → Int} {p q : Int} : ∀ {z}, (∀ j, j < z → f j * p = g j * q) → smP f z * p = smP g z * q
  | 0, _ => by simp [smP]
  | z + 1, h => by
    have ih := smP_mul (p := p) (q := q) (z := z) (fun j hj => h j (by omega))
    have := h z (by omega)
    show (smP f z + f z) * p = (smP g z + g z) * q
    rw [Int.add_mul, Int.add_mul, ih, this]
def szs (m : Nat) : Int := if m = 1 then -1 else 1
/-- the class's choice of rows is the reference's, but for a sign -/
theorem dv_det (h : PoOk X Y K n A B C T W9 ((cntK K n : Nat) : Int)) (ht : TabR X x Y m n) {pl : List Nat} (hp : PlOk K n pl) (hl : pl.length = m) : dvZ A B C (plc pl (cntK K n) 0) (plc pl (cntK K n) 1) (plc pl (cntK K n) 2) = szs m * detM (szM x K n pl) m ∧
    (∀ r, r < cntK K n → A r * nuA A B C T (plc pl (cntK K n) 0) (plc pl (cntK K n) 1) (plc pl (cntK K n) 2) + B r * nuB A B C T (plc pl (cntK K n) 0) (plc pl (cntK K n) 1) (plc pl (cntK K n) 2) + C r * nuC A B C T (plc pl (cntK K n) 0) (plc pl (cntK K n) 1) (plc pl (cntK K n) 2) = szs m * dtk (x (nthK K n r)) (fun c => crS (szM x K n pl) (szV Y K n pl) m c m) m) ∧
    (0 < m → nuA A B C T (plc pl (cntK K n) 0) (plc pl (cntK K n) 1) (plc pl (cntK K n) 2) = szs m * crS (szM x K n pl) (szV Y K n pl) m 0 m) ∧ (1 < m → nuB A B C T (plc pl (cntK K n) 0) (plc pl (cntK K n) 1) (plc pl (cntK K n) 2) = szs m * crS (szM x K n pl) (szV Y K n pl) m 1 m) ∧ (2 < m → nuC A B C T (plc pl (cntK K n) 0) (plc pl (cntK K n) 1) (plc pl (cntK K n) 2) = szs m * crS (szM x K n pl) (szV Y K n pl) m 2 m) := by
  have hm := ht.1
  obtain ⟨-, tie, -⟩ := id h
  generalize hz : cntK K n = z at *
  obtain ⟨⟨t1, t2, t3, t4⟩, t5, t6, t7, t8⟩ := tie
  have pat : ∀ j, j < z → A j = x (nthK K n j) 0 ∧ B j = x (nthK K n j) 1 ∧ C j = x (nthK K n j) 2 ∧ T j = Y (nthK K n j) := fun j hj => by subst hz; exact h.at ht hj
  have zc : ∀ j, j < z → ∀ c, m ≤ c → c < 3 → x (nthK K n j) c = 0 := fun j hj c h1 h2 => by subst hz; exact ht.2.2.2 _ (nth_ok hj).1 c h1 h2
  have pb : ∀ i, i < m → pl.getD i 0 < z := fun i hi => by subst hz; exact hp.2 i (by omega)
  have pe : ∀ i, plc pl z i = if i < m then pl.getD i 0 else z + i - m := fun i => by unfold plc; rw [hl]
  match m, hm with
  | 1, _ =>
    have e0 : plc pl z 0 = pl.getD 0 0 := by rw [pe]; rfl
    have e1 : plc pl z 1 = z := by rw [pe]; simp
    have e2 : plc pl z 2 = z + 1 := by rw [pe]; simp
    rw [e0, e1, e2]
    obtain ⟨a1, a2, a3, a4⟩ := pat _ (pb 0 (by omega))
    refine ⟨?_, fun r hr => ?_, fun _ => ?_, fun q => by omega, fun q => by omega⟩
    · unfold dvZ; rw [t1, t2, t3, t5, t6, t7, a1]; simp [szs, detM, szM]
    · obtain ⟨b1, b2, b3, b4⟩ := pat r hr
      unfold nuA nuB nuC; simp only [t1, t2, t3, t4, t5, t6, t7, t8, b1, a4]; simp [szs, dtk, crS, cofM, szM, szV, Int.mul_neg]
    · unfold nuA; simp only [t1, t2, t3, t4, t5, t6, t7, t8, a4]; simp [szs, crS, cofM, szM, szV]
  | 2, _ =>
    have e0 : plc pl z 0 = pl.getD 0 0 := by rw [pe]; rfl
    have e1 : plc pl z 1 = pl.getD 1 0 := by rw [pe]; rfl
    have e2 : plc pl z 2 = z := by rw [pe]; simp
    rw [e0, e1, e2]
    obtain ⟨a1, a2, a3, a4⟩ := pat _ (pb 0 (by omega))
    obtain ⟨c1, c2, c3, c4⟩ := pat _ (pb 1 (by omega))
    refine ⟨?_, fun r hr => ?_, fun _ => ?_, fun _ => ?_, fun q => by omega⟩
    · unfold dvZ; rw [t1, t2, t3, a1, a2, c1, c2]; simp [szs, detM, szM]; grind
    · obtain ⟨b1, b2, b3, b4⟩ := pat r hr
      unfold nuA nuB nuC; rw [t1, t2, t3, t4, b1, b2, a1, a2, a4, c1, c2, c4]; simp [szs, dtk, crS, cofM, szM, szV]; grind
    · unfold nuA; simp only [t1, t2, t3, t4, a2, a4, c2, c4]; simp [szs, crS, cofM, szM, szV]; grind
    · unfold nuB; simp only [t1, t2, t3, t4, a1, a4, c1, c4]; simp [szs, crS, cofM, szM, szV]; grind
  | 3, _ =>
    have e0 : plc pl z 0 = pl.getD 0 0 := by rw [pe]; rfl
    have e1 : plc pl z 1 = pl.getD 1 0 := by rw [pe]; rfl
    have e2 : plc pl z 2 = pl.getD 2 0 := by rw [pe]; rfl
    rw [e0, e1, e2]
    obtain ⟨a1, a2, a3, a4⟩ := pat _ (pb 0 (by omega))
    obtain ⟨c1, c2, c3, c4⟩ := pat _ (pb 1 (by omega))
    obtain ⟨d1, d2, d3, d4⟩ := pat _ (pb 2 (by omega))
    have eA : nuA A B C T (pl.getD 0 0) (pl.getD 1 0) (pl.getD 2 0) = crS (szM x K n pl) (szV Y K n pl) 3 0 3 := by
      unfold nuA; rw [a2, a3, a4, c2, c3, c4, d2, d3, d4]; simp [crS, cofM, minM, r1, r2, szM, szV]; grind
    have eB : nuB A B C T (pl.getD 0 0) (pl.getD 1 0) (pl.getD 2 0) = crS (szM x K n pl) (szV Y K n pl) 3 1 3 := by
      unfold nuB; rw [a1, a3, a4, c1, c3, c4, d1, d3, d4]; simp [crS, cofM, minM, r1, r2, szM, szV]; grind
    have eC : nuC A B C T (pl.getD 0 0) (pl.getD 1 0) (pl.getD 2 0) = crS (szM x K n pl) (szV Y K n pl) 3 2 3 := by
      unfold nuC; rw [a1, a2, a4, c1, c2, c4, d1, d2, d4]; simp [crS, cofM, minM, r1, r2, szM, szV]; grind
    refine ⟨?_, fun r hr => ?_, fun _ => ?_, fun _ => ?_, fun _ => ?_⟩
    · unfold dvZ; rw [a1, a2, a3, c1, c2, c3, d1, d2, d3]; simp [szs, detM, minM, r1, r2, szM]; grind
    · obtain ⟨b1, b2, b3, b4⟩ := pat r hr
      rw [eA, eB, eC, b1, b2, b3]; simp [szs, dtk]
    · rw [eA]; simp [szs]
    · rw [eB]; simp [szs]
    · rw [eC]; simp [szs]
def szd (A B C : Nat → Int) (z : Nat) (pl : List Nat) : Int := ((dvZ A B C (plc pl z 0) (plc pl z 1) (plc pl z 2)).natAbs : Int)
def szn (A B C T : Nat → Int) (z : Nat) (pl : List Nat) (c : Nat) : Int := sgD (dvZ A B C (plc pl z 0) (plc pl z 1) (plc pl z 2)) * (if c = 0 then nuA A B C T (plc pl z 0) (plc pl z 1) (plc pl z 2) else if c = 1 then nuB A B C T (plc pl z 0) (plc pl z 1) (plc pl z 2) else nuC A B C T (plc pl z 0) (plc pl z 1) (plc pl z 2))
def szt (A B C T : Nat → Int) (z : Nat) (pl : List Nat) : Int := sumA A B C T (nuA A B C T (plc pl z 0) (plc pl z 1) (plc pl z 2)) (nuB A B C T (plc pl z 0) (plc pl z 1) (plc pl z 2)) (nuC A B C T (plc pl z 0) (plc pl z 1) (plc pl z 2)) (dvZ A B C (plc pl z 0) (plc pl z 1) (plc pl z 2)) z
theorem szStep_G (z : Nat) : szStep A B C T z = szG (szd A B C z) (szt A B C T z) (szn A B C T z) := by
  funext a pl
  unfold szStep szG szd szt szn
  by_cases e : dvZ A B C (plc pl z 0) (plc pl z 1) (plc pl z 2) = 0
  · simp [e]
  · have e2 : ¬ (((dvZ A B C (plc pl z 0) (plc pl z 1) (plc pl z 2)).natAbs : Int) = 0) := by omega
    simp only [if_neg e, if_neg e2]
    rfl
theorem szs_ne (m : Nat) : szs m = 1 ∨ szs m = -1 := by unfold szs; split <;> simp
theorem sgD_abs (d : Int) : ((d.natAbs : Nat) : Int) = sgD d * d := by unfold sgD; split <;> omega
theorem SzH.of (h : PoOk X Y K n A B C T W9 ((cntK K n : Nat) : Int)) (ht : TabR X x Y m n) : SzH x Y K m n (szd A B C (cntK K n)) (szt A B C T (cntK K n)) (szn A B C T (cntK K n)) := fun pl hp hl => by
  obtain ⟨k1, k2, k3, k4, k5⟩ := dv_det h ht hp hl
  have hm := ht.1
  have hb := h.plb ht.tb
  have pl3 : ∀ i, i < 3 → plc pl (cntK K n) i < cntK K n + 2 := fun i hi => by
    unfold plc; split
    · have := hp.2 i (by assumption); omega
    · omega
  have db := dv_bd hb (pl3 0 (by omega)) (pl3 1 (by omega)) (pl3 2 (by omega))
  have nb := nu_SzB (x := _) (y := _) (w := _) (d := _) hb (pl3 0 (by omega)) (pl3 1 (by omega)) (pl3 2 (by omega)) rfl ⟨rfl, rfl, rfl⟩
  unfold szd szt szn
  generalize dvZ A B C (plc pl (cntK K n) 0) (plc pl (cntK K n) 1) (plc pl (cntK K n) 2) = D at *
  generalize nuA A B C T (plc pl (cntK K n) 0) (plc pl (cntK K n) 1) (plc pl (cntK K n) 2) = a at *
  generalize nuB A B C T (plc pl (cntK K n) 0) (plc pl (cntK K n) 1) (plc pl (cntK K n) 2) = b at *
  generalize nuC A B C T (plc pl (cntK K n) 0) (plc pl (cntK K n) 1) (plc pl (cntK K n) 2) = c at *
  generalize hdet : detM (szM x K n pl) m = dt at *
  have s1 := szs_ne m
  generalize szs m = sg at *
  have dz : dt = 0 ↔ D = 0 := by rcases s1 with e | e <;> rw [k1, e] <;> omega
  refine ⟨by omega, by rw [dz]; omega, fun W den hs => ?_⟩
  obtain ⟨s, hs0, hsd, hpos, hsw⟩ := hs
  rw [hdet] at hsd
  have dle := le_of_mul hs0 hsd
  have dD : (dt.natAbs : Int) = (D.natAbs : Int) := by rcases s1 with e | e <;> rw [k1, e] <;> omega
  have wb : ∀ c', c' < m → -1000000 ≤ W c' ∧ W c' ≤ 1000000 := fun c' hc' => by
    have e := le_of_mul hs0 (hsw c' hc')
    obtain ⟨nb1, nb2, nb3, -⟩ := nb
    have : (((crS (szM x K n pl) (szV Y K n pl) m c' m).natAbs : Nat) : Int) ≤ 48114 := by
      have h3 : c' = 0 ∨ c' = 1 ∨ c' = 2 := by omega
      rcases h3 with rfl | rfl | rfl
      · have := k3 hc'; rcases s1 with e2 | e2 <;> rw [e2] at this <;> omega
      · have := k4 hc'; rcases s1 with e2 | e2 <;> rw [e2] at this <;> omega
      · have := k5 hc'; rcases s1 with e2 | e2 <;> rw [e2] at this <;> omega
    omega
  refine ⟨⟨hpos, by omega⟩, wb, ?_, fun c' hc' => ?_⟩
  · rw [szU_R, smR_P, sumA_P]
    refine smP_mul (fun j hj => ?_)
    have k2j := k2 j hj
    have pj := h.at ht hj
    have eW : dtk (x (nthK K n j)) (fun c => crS (szM x K n pl) (szV Y K n pl) m c m) m = s * dtk (x (nthK K n j)) W m := by
      have : ∀ q, q ≤ m → dtk (x (nthK K n j)) (fun c => crS (szM x K n pl) (szV Y K n pl) m c m) q = s * dtk (x (nthK K n j)) W q := by
        intro q
        induction q with
        | zero => intro _; simp [dtk]
        | succ q ih =>
          intro hq
          show dtk (x (nthK K n j)) (fun c => crS (szM x K n pl) (szV Y K n pl) m c m) q + x (nthK K n j) q * crS (szM x K n pl) (szV Y K n pl) m q m = s * (dtk (x (nthK K n j)) W q + x (nthK K n j) q * W q)
          rw [ih (by omega), hsw q (by omega)]; grind
      exact this m (Nat.le_refl _)
    have e1 : T j * D - A j * a - B j * b - C j * c = sg * s * (Y (nthK K n j) * den - dtk (x (nthK K n j)) W m) := by
      have e2 : T j * D - A j * a - B j * b - C j * c = T j * D - (A j * a + B j * b + C j * c) := by omega
      rw [e2, k2j, eW, k1, hsd, pj.2.2.2]
      generalize dtk (x (nthK K n j)) W m = Q; generalize Y (nthK K n j) = y
      grind
    have e3 : D = sg * s * den := by rw [k1, hsd]; grind
    show ((Y (nthK K n j) * den - dtk (x (nthK K n j)) W m).natAbs : Int) * ((D.natAbs : Nat) : Int) = (((T j * D - A j * a - B j * b - C j * c).natAbs : Nat) : Int) * den
    rw [e1, e3, Int.natAbs_mul (sg * s), Int.natAbs_mul (sg * s)]
    have e4 : ((den.natAbs : Nat) : Int) = den := by omega
    simp only [Int.natCast_mul, e4]
    generalize ((sg * s).natAbs : Int) = p; generalize ((Y (nthK K n j) * den - dtk (x (nthK K n j)) W m).natAbs : Int) = q
    grind
  · rw [sgD_abs]
    have ec : (if c' = 0 then a else if c' = 1 then b else c) = sg * (s * W c') := by
      have h3 : c' = 0 ∨ c' = 1 ∨ c' = 2 := by omega
      rcases h3 with rfl | rfl | rfl
      · rw [if_pos rfl, k3 hc', hsw 0 hc']
      · rw [if_neg (by decide), if_pos rfl, k4 hc', hsw 1 hc']
      · rw [if_neg (by decide), if_neg (by decide), k5 hc', hsw 2 hc']
    rw [ec, k1, hsd]
    generalize W c' = w; generalize sgD (sg * (s * den)) = t
    grind
/-! independent rows -/
def lst (K : Nat → Bool) : List Nat → List Nat := List.map (cntK K)
theorem rows1 (h : gmA x K n 0 0 ≠ 0) : ∃ r, r < n ∧ K r = true ∧ x r 0 ≠ 0 := by
  by_cases q : ∃ r, r < n ∧ K r = true ∧ x r 0 ≠ 0
  · exact q
  · exfalso; apply h
    exact gm2_zr (fun r hr hk => by by_cases e : x r 0 = 0; exact e; exact absurd ⟨r, hr, hk, e⟩ q)
theorem rows3 (h : q3 (gmA x K n) ≠ 0) : ∃ r s t, (r < n ∧ K r = true) ∧ (s < n ∧ K s = true) ∧ (t < n ∧ K t = true) ∧ Dt (x t) (x r 1 * x s 2 - x r 2 * x s 1) (x r 2 * x s 0 - x r 0 * x s 2) (x r 0 * x s 1 - x r 1 * x s 0) ≠ 0 := by
  have gs := (gram (x := x) (K := K) (n := n)).1
  by_cases q : ∃ r s t, (r < n ∧ K r = true) ∧ (s < n ∧ K s = true) ∧ (t < n ∧ K t = true) ∧ Dt (x t) (x r 1 * x s 2 - x r 2 * x s 1) (x r 2 * x s 0 - x r 0 * x s 2) (x r 0 * x s 1 - x r 1 * x s 0) ≠ 0
  · exact q
  · exfalso
    have nul : ∀ a b c, (∀ t, t < n → K t = true → Dt (x t) a b c = 0) → a = 0 ∧ b = 0 ∧ c = 0 := fun a b c hz => null3 gs h (fun i hi => gm_row hz)
    have all : ∀ r s, r < n → K r = true → s < n → K s = true → (x r 1 * x s 2 - x r 2 * x s 1 = 0 ∧ x r 2 * x s 0 - x r 0 * x s 2 = 0 ∧ x r 0 * x s 1 - x r 1 * x s 0 = 0) := fun r s hr hkr hs hks =>
      nul _ _ _ (fun t ht hkt => by
        by_cases e : Dt (x t) (x r 1 * x s 2 - x r 2 * x s 1) (x r 2 * x s 0 - x r 0 * x s 2) (x r 0 * x s 1 - x r 1 * x s 0) = 0
        · exact e
        · exact absurd ⟨r, s, t, ⟨hr, hkr⟩, ⟨hs, hks⟩, ⟨ht, hkt⟩, e⟩ q)
    by_cases z : ∃ r, (r < n ∧ K r = true) ∧ (x r 0 ≠ 0 ∨ x r 1 ≠ 0)
    · obtain ⟨r, ⟨hr, hk⟩, hx⟩ := z
      have := nul (x r 1) (-x r 0) 0 (fun t ht hkt => by have := (all r t hr hk ht hkt).2.2; unfold Dt; grind)
      rcases hx with e | e
      · apply e; omega
      · exact e this.1
    · have z0 : ∀ t, t < n → K t = true → x t 0 = 0 := fun t ht hk => by
        by_cases e : x t 0 = 0
        · exact e
        · exact absurd ⟨t, ⟨ht, hk⟩, Or.inl e⟩ z
      have := nul 1 0 0 (fun t ht hkt => by unfold Dt; rw [z0 t ht hkt]; simp)
      omega
theorem rows2 (h : p2 (gmA x K n) ≠ 0) (hz : ∀ r, r < n → x r 2 = 0) : ∃ r s, (r < n ∧ K r = true) ∧ (s < n ∧ K s = true) ∧ x r 0 * x s 1 - x r 1 * x s 0 ≠ 0 := by
  by_cases q : ∃ r s, (r < n ∧ K r = true) ∧ (s < n ∧ K s = true) ∧ x r 0 * x s 1 - x r 1 * x s 0 ≠ 0
  · exact q
  · exfalso
    have nul : ∀ a b, (∀ t, t < n → K t = true → x t 0 * a + x t 1 * b = 0) → a = 0 ∧ b = 0 := fun a b hh => by
      have r0 := gm_row (x := x) (K := K) (a := a) (b := b) (c := 0) (i := 0) (n := n) (fun t ht hk => by have := hh t ht hk; unfold Dt; omega)
      have r1 := gm_row (x := x) (K := K) (a := a) (b := b) (c := 0) (i := 1) (n := n) (fun t ht hk => by have := hh t ht hk; unfold Dt; omega)
      unfold Dt at r0 r1
      have s1 : gmA x K n 1 0 = gmA x K n 0 1 := gm2_sym n
      rw [s1] at r1
      unfold p2 at h
      generalize gmA x K n 0 0 = p at *; generalize gmA x K n 0 1 = q' at *; generalize gmA x K n 1 1 = r at *
      have ea : (p * r - q' * q') * a = 0 := by
        have e9 : (p * r - q' * q') * a = r * (p * a + q' * b + gmA x K n 0 2 * 0) - q' * (q' * a + r * b + gmA x K n 1 2 * 0) := by grind
        rw [e9, r0, r1]; simp
      have eb : (p * r - q' * q') * b = 0 := by
        have e9 : (p * r - q' * q') * b = p * (q' * a + r * b + gmA x K n 1 2 * 0) - q' * (p * a + q' * b + gmA x K n 0 2 * 0) := by grind
        rw [e9, r0, r1]; simp
      refine ⟨?_, ?_⟩
      · rcases Int.mul_eq_zero.mp ea with e | e; exact absurd e h; exact e
      · rcases Int.mul_eq_zero.mp eb with e | e; exact absurd e h; exact e
    have all : ∀ r s, r < n → K r = true → s < n → K s = true → x r 0 * x s 1 - x r 1 * x s 0 = 0 := fun r s hr hkr hs hks => by
      by_cases e : x r 0 * x s 1 - x r 1 * x s 0 = 0
      · exact e
      · exact absurd ⟨r, s, ⟨hr, hkr⟩, ⟨hs, hks⟩, e⟩ q
    by_cases z : ∃ r, (r < n ∧ K r = true) ∧ (x r 0 ≠ 0 ∨ x r 1 ≠ 0)
    · obtain ⟨r, ⟨hr, hk⟩, hx⟩ := z
      have := nul (x r 1) (-x r 0) (fun t ht hkt => by have := all r t hr hk ht hkt; grind)
      rcases hx with e | e
      · apply e; omega
      · exact e this.1
    · have := nul 1 0 (fun t ht hkt => by
        have : x t 0 = 0 := by
          by_cases e : x t 0 = 0
          · exact e
          · exact absurd ⟨t, ⟨ht, hkt⟩, Or.inl e⟩ z
        rw [this]; simp)
      omega
end SZ8
