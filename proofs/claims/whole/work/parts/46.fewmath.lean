/-! the best few columns and the most alike rows: canonical folds -/
abbrev BsA : Type := Bool × Int × Int × Int
def ofF (a : BsA) (t b x : Int) : BsA := if a.1 = true ∨ t * a.2.2.1 - a.2.1 * b < 0 then (false, t, b, x) else a
def bsT (a : BsA) (wh : Int) : Int := bsTell a.1 a.2.1 a.2.2.1 a.2.2.2 wh
theorem OfR.eq {e e2 : Bool} {t b x t9 b9 x9 t2 b2 x2 : Int} (h : OfR e t b x t9 b9 x9 e2 t2 b2 x2) : (e2, t2, b2, x2) = ofF (e, t, b, x) t9 b9 x9 := by
  unfold ofF
  rcases h with ⟨h1, rfl, rfl, rfl, rfl⟩ | ⟨h1, rfl, rfl, rfl, rfl⟩
  · rw [if_pos h1]
  · rw [if_neg]
    rintro (h | h)
    · rw [h1.1] at h; cases h
    · exact h1.2 h
theorem OfR.bo {e e2 : Bool} {t b x t9 b9 x9 t2 b2 x2 : Int} (h : OfR e t b x t9 b9 x9 e2 t2 b2 x2) (hb : BO e t b) (ht : 0 ≤ t9 ∧ t9 ≤ 9223372036854775807) (hb9 : 0 < b9 ∧ b9 ≤ 9223372036854775807) : BO e2 t2 b2 := by
  rcases h with ⟨h1, rfl, rfl, rfl, rfl⟩ | ⟨h1, rfl, rfl, rfl, rfl⟩
  · exact Or.inr ⟨ht, hb9⟩
  · exact hb
def fwF (k : Nat) (S B : Nat → Int) (a : BsA) : Nat → BsA
  | 0 => a
  | j + 1 => if bcN j = k then ofF (fwF k S B a j) (S j) (B j) j else fwF k S B a j
def cpR (R : Nat → Int) (mk i : Nat) : Int := if mk.testBit i = true then R i else 0
def fwB (P : Nat → Int) (mk : Nat) : Int := symF (cpP P mk) (rk0 (cpP P mk))
def fwS (P R : Nat → Int) (yy : Int) (mk : Nat) : Int := yy * fwB P mk - pr3 (cpR R mk) (slv (cpP P mk) (cpR R mk))
theorem cp_agree {P P2 : Nat → Int} {mk : Nat} (h : ∀ i j, i < 3 → j < 3 → P2 (i * 3 + j) = if mk.testBit i = true ∧ mk.testBit j = true then P (i * 3 + j) else 0) : ∀ k, k < 9 → P2 k = cpP P mk k := by
  intro k hk
  have h1 := h (k / 3) (k % 3) (by omega) (by omega)
  rw [show k / 3 * 3 + k % 3 = k by omega] at h1
  rw [h1]; rfl
theorem cpP_congr {P Q : Nat → Int} (h : ∀ k, k < 9 → P k = Q k) (mk : Nat) : ∀ k, k < 9 → cpP P mk k = cpP Q mk k := fun k hk => by unfold cpP; rw [h k hk]
theorem PB_cp {P : Nat → Int} (h : PB P) (mk : Nat) : PB (cpP P mk) := by
  intro j hj
  unfold cpP
  split
  · exact h j hj
  · omega
theorem fw_eq {P9 R9 P R P2 R2 S2 T2 : Nat → Int} {ts yy : Int} {mk : Nat} (hP9 : ∀ k, k < 9 → P9 k = P k) (hR9 : ∀ i, i < 3 → R9 i = R i) (hts : ts = yy)
    (hP : ∀ i j, i < 3 → j < 3 → P2 (i * 3 + j) = if mk.testBit i = true ∧ mk.testBit j = true then P9 (i * 3 + j) else 0) (hR : ∀ i, i < 3 → R2 i = if mk.testBit i = true then R9 i else 0)
    (hS : ∀ k, k ≤ 3 → S2 k = symF P2 k) (hT : ∀ i, i < 3 → T2 i = slv P2 R2 i) : ts * S2 (rk0 P2) - pr3 R2 T2 = fwS P R yy mk ∧ S2 (rk0 P2) = fwB P mk := by
  have hq : ∀ k, k < 9 → P2 k = cpP P mk k := fun k hk => by rw [cp_agree hP k hk]; exact cpP_congr hP9 mk k hk
  have hr : ∀ i, i < 3 → R2 i = cpR R mk i := fun i hi => by rw [hR i hi, hR9 i hi]; rfl
  have e : S2 (rk0 P2) = fwB P mk := by rw [hS _ (rk_le _)]; unfold fwB; rw [rk0_congr hq, symF_congr hq]
  refine ⟨?_, e⟩
  unfold fwS
  rw [e, hts, pr3_congr hr (g' := slv (cpP P mk) (cpR R mk)) (fun i hi => by rw [hT i hi]; exact slv_congr hq hr hi)]
theorem pow2_le {m : Nat} (h : m ≤ 3) : 2 ^ m ≤ 8 := by
  have : ∀ m : Fin 4, 2 ^ m.val ≤ 8 := by decide
  exact this ⟨m, by omega⟩
theorem shl_2m {m : Nat} (h : m ≤ 3) : iI 1 <<< (iI ((m : Nat) : Int) &&& 31) = iI ((2 ^ m : Nat) : Int) := by
  have : ∀ c : Fin 4, iI 1 <<< (iI ((c.val : Nat) : Int) &&& 31) = iI ((2 ^ c.val : Nat) : Int) := by decide +kernel
  exact this ⟨m, by omega⟩
theorem shl_24 {m : Nat} (h : m < 24) : iI 1 <<< (iI ((m : Nat) : Int) &&& 31) = iI ((2 ^ m : Nat) : Int) := by
  have : ∀ c : Fin 24, iI 1 <<< (iI ((c.val : Nat) : Int) &&& 31) = iI ((2 ^ c.val : Nat) : Int) := by decide +kernel
  exact this ⟨m, h⟩
theorem iI_or (a b : Nat) : iI ((a : Nat) : Int) ||| iI ((b : Nat) : Int) = iI ((a ||| b : Nat) : Int) := by
  have e : ∀ c : Nat, iI ((c : Nat) : Int) = Int32.ofNat c := fun c => rfl
  rw [e, e, e]
  apply Int32.toBitVec_inj.mp
  simp [Int32.toBitVec_or, BitVec.ofNat_or]
/-- the row that stands at a place of the pool -/
def nthK (K : Nat → Bool) : Nat → Nat → Nat
  | 0, _ => 0
  | n + 1, j => if K n = true ∧ cntK K n = j then n else nthK K n j
theorem nth_cnt (K : Nat → Bool) : ∀ {n r : Nat}, r < n → K r = true → nthK K n (cntK K r) = r
  | 0, _, h, _ => absurd h (Nat.not_lt_zero _)
  | n + 1, r, h, hk => by
    show (if K n = true ∧ cntK K n = cntK K r then n else nthK K n (cntK K r)) = r
    by_cases e : r = n
    · subst e; rw [if_pos ⟨hk, rfl⟩]
    · have hl := cnt_lt K (show r < n by omega) hk
      rw [if_neg (by omega)]
      exact nth_cnt K (by omega) hk
theorem nth_ok {K : Nat → Bool} {n j : Nat} (h : j < cntK K n) : nthK K n j < n ∧ K (nthK K n j) = true ∧ cntK K (nthK K n j) = j := by
  obtain ⟨r, h1, h2, rfl⟩ := cnt_ex h
  rw [nth_cnt K h1 h2]; exact ⟨h1, h2, rfl⟩
theorem nth_lt {K : Nat → Bool} {n i j : Nat} (hij : i < j) (h : j < cntK K n) : nthK K n i < nthK K n j := by
  obtain ⟨-, -, a⟩ := nth_ok (K := K) (n := n) (j := i) (by omega)
  obtain ⟨-, -, b⟩ := nth_ok h
  rcases Nat.lt_or_ge (nthK K n i) (nthK K n j) with h1 | h1
  · exact h1
  · have := cnt_mono K h1; omega
theorem PoOk.w {X Y A B C T W : Nat → Int} {K : Nat → Bool} {n : Nat} {z : Int} (h : PoOk X Y K n A B C T W z) {j : Nat} (hj : j < cntK K n) : W j = ((nthK K n j : Nat) : Int) := by
  obtain ⟨h1, h2, h3⟩ := nth_ok hj
  have := (h.1 _ h1 h2).2.2.2.2
  rw [h3] at this; exact this
def kf (rw : Nat → Nat) (pl : List Nat) : Nat → Nat → Bool
  | 0 => fun _ => false
  | i + 1 => upB (kf rw pl i) (rw (pl.getD i 0)) true
def bf (rw : Nat → Nat) (pl : List Nat) : Nat → Nat
  | 0 => 0
  | i + 1 => bf rw pl i ||| 2 ^ rw (pl.getD i 0)
theorem gm_put {X : Nat → Int} {K : Nat → Bool} {r i j : Nat} (hk : K r = false) : ∀ n, gmF X (upB K r true) i j n = gmF X K i j n + if r < n then X (r * 3 + i) * X (r * 3 + j) else 0
  | 0 => by simp [gmF]
  | n + 1 => by
    show gmF X (upB K r true) i j n + _ = gmF X K i j n + _ + _
    rw [gm_put hk n]
    by_cases e : n = r
    · subst e; rw [if_neg (by omega), upB_s, if_pos rfl, if_neg (by rw [hk]; simp), if_pos (show n < n + 1 by omega)]
    · rw [upB_n _ _ e]
      by_cases h1 : r < n
      · rw [if_pos h1, if_pos (show r < n + 1 by omega)]; ac_rfl
      · rw [if_neg h1, if_neg (show ¬ r < n + 1 by omega)]; simp
theorem rh_put {X Y : Nat → Int} {K : Nat → Bool} {r i : Nat} (hk : K r = false) : ∀ n, rhF X Y (upB K r true) i n = rhF X Y K i n + if r < n then X (r * 3 + i) * Y r else 0
  | 0 => by simp [rhF]
  | n + 1 => by
    show rhF X Y (upB K r true) i n + _ = rhF X Y K i n + _ + _
    rw [rh_put hk n]
    by_cases e : n = r
    · subst e; rw [if_neg (by omega), upB_s, if_pos rfl, if_neg (by rw [hk]; simp), if_pos (show n < n + 1 by omega)]
    · rw [upB_n _ _ e]
      by_cases h1 : r < n
      · rw [if_pos h1, if_pos (show r < n + 1 by omega)]; ac_rfl
      · rw [if_neg h1, if_neg (show ¬ r < n + 1 by omega)]; simp
theorem yy_put {Y : Nat → Int} {K : Nat → Bool} {r : Nat} (hk : K r = false) : ∀ n, yyF Y (upB K r true) n = yyF Y K n + if r < n then Y r * Y r else 0
  | 0 => by simp [yyF]
  | n + 1 => by
    show yyF Y (upB K r true) n + _ = yyF Y K n + _ + _
    rw [yy_put hk n]
    by_cases e : n = r
    · subst e; rw [if_neg (by omega), upB_s, if_pos rfl, if_neg (by rw [hk]; simp), if_pos (show n < n + 1 by omega)]
    · rw [upB_n _ _ e]
      by_cases h1 : r < n
      · rw [if_pos h1, if_pos (show r < n + 1 by omega)]; ac_rfl
      · rw [if_neg h1, if_neg (show ¬ r < n + 1 by omega)]; simp
theorem gm_none {X : Nat → Int} {K : Nat → Bool} (h : ∀ r, K r = false) {i j : Nat} : ∀ n, gmF X K i j n = 0
  | 0 => rfl
  | n + 1 => by show gmF X K i j n + _ = 0; rw [gm_none h n, if_neg (by rw [h n]; simp)]; rfl
theorem rh_none {X Y : Nat → Int} {K : Nat → Bool} (h : ∀ r, K r = false) {i : Nat} : ∀ n, rhF X Y K i n = 0
  | 0 => rfl
  | n + 1 => by show rhF X Y K i n + _ = 0; rw [rh_none h n, if_neg (by rw [h n]; simp)]; rfl
theorem yy_none {Y : Nat → Int} {K : Nat → Bool} (h : ∀ r, K r = false) : ∀ n, yyF Y K n = 0
  | 0 => rfl
  | n + 1 => by show yyF Y K n + _ = 0; rw [yy_none h n, if_neg (by rw [h n]; simp)]; rfl
theorem GrR.none {X Y P R : Nat → Int} {n : Nat} (hP : ∀ j, j < 9 → P j = 0) (hR : ∀ j, j < 3 → R j = 0) : GrR X Y (fun _ => false) n P R 0 :=
  ⟨fun i j hi hj => by rw [hP _ (by omega), gm_none (fun _ => rfl)], fun i hi => by rw [hR i hi, rh_none (fun _ => rfl)], by rw [yy_none (fun _ => rfl)]⟩
theorem GrR.put {X Y P R P2 R2 : Nat → Int} {K : Nat → Bool} {r n : Nat} {ts t2 : Int} (h : GrR X Y K n P R ts) (hr : r < n) (hk : K r = false) (hP : ∀ i j, i < 3 → j < 3 → P2 (i * 3 + j) = P (i * 3 + j) + X (r * 3 + i) * X (r * 3 + j)) (hR : ∀ i, i < 3 → R2 i = R i + X (r * 3 + i) * Y r) (ht : t2 = ts + Y r * Y r) : GrR X Y (upB K r true) n P2 R2 t2 :=
  ⟨fun i j hi hj => by rw [hP i j hi hj, h.1 i j hi hj, gm_put hk, if_pos hr], fun i hi => by rw [hR i hi, h.2.1 i hi, rh_put hk, if_pos hr], by rw [ht, h.2.2, yy_put hk, if_pos hr]⟩
/-! rising choices -/
theorem adv_ris {z : Nat} : ∀ {p p' : List Nat}, adv z p = some p' → p.Pairwise (· < ·) → p'.Pairwise (· < ·) ∧ ∀ a, (∀ x ∈ p, a < x) → ∀ x ∈ p', a < x
  | [], p', h, _ => by cases h
  | x :: xs, p', h, hp => by
    have hx := List.pairwise_cons.mp hp
    have h' : (match adv z xs with | some ys => some (x :: ys) | none => if x + (xs.length + 1) < z then some (List.range' (x + 1) (xs.length + 1)) else none) = some p' := h
    cases e : adv z xs with
    | some ys =>
      rw [e] at h'
      have h2 : x :: ys = p' := Option.some.inj h'
      subst h2
      obtain ⟨a1, a2⟩ := adv_ris e hx.2
      refine ⟨List.pairwise_cons.mpr ⟨a2 x hx.1, a1⟩, fun a ha y hy => ?_⟩
      rcases List.mem_cons.mp hy with rfl | hy
      · exact ha _ (List.mem_cons_self ..)
      · exact a2 a (fun q hq => ha q (List.mem_cons_of_mem _ hq)) y hy
    | none =>
      rw [e] at h'
      have h3 : (if x + (xs.length + 1) < z then some (List.range' (x + 1) (xs.length + 1)) else none) = some p' := h'
      split at h3
      · have h2 := Option.some.inj h3
        subst h2
        refine ⟨List.pairwise_lt_range', fun a ha y hy => ?_⟩
        have := ha x (List.mem_cons_self ..)
        have := (List.mem_range'_1.mp hy).1
        omega
      · cases h3
theorem ris_at {p : List Nat} (h : p.Pairwise (· < ·)) {i j : Nat} (hij : i < j) (hj : j < p.length) : p.getD i 0 < p.getD j 0 := by
  have := List.pairwise_iff_getElem.mp h i j (by omega) hj hij
  simp [List.getD_eq_getElem?_getD, hj, show i < p.length by omega]; exact this
theorem ris_range (m : Nat) : (List.range m).Pairwise (· < ·) := List.pairwise_lt_range
section HF
variable {K : Nat → Bool} {n : Nat} {pl : List Nat}
/-- a choice of places of those that are there -/
def PlOk (K : Nat → Bool) (n : Nat) (pl : List Nat) : Prop := pl.Pairwise (· < ·) ∧ ∀ i, i < pl.length → pl.getD i 0 < cntK K n
theorem kf_no (h : PlOk K n pl) : ∀ i j, i ≤ j → j < pl.length → kf (nthK K n) pl i (nthK K n (pl.getD j 0)) = false
  | 0, _, _, _ => rfl
  | i + 1, j, hij, hj => by
    have := nth_lt (K := K) (n := n) (ris_at h.1 (show i < j by omega) hj) (h.2 j hj)
    show upB _ _ _ _ = false
    rw [upB_n _ _ (by omega)]
    exact kf_no h i j (by omega) hj
theorem bf_lt (h : PlOk K n pl) : ∀ i j, i ≤ j → j < pl.length → bf (nthK K n) pl i < 2 ^ nthK K n (pl.getD j 0)
  | 0, _, _, _ => Nat.two_pow_pos _
  | i + 1, j, hij, hj => by
    have h1 := nth_lt (K := K) (n := n) (ris_at h.1 (show i < j by omega) hj) (h.2 j hj)
    have h2 := bf_lt h i j (by omega) hj
    exact Nat.or_lt_two_pow h2 (Nat.pow_lt_pow_right (by decide) h1)
theorem bf_24 (h : PlOk K n pl) (hn : n ≤ 24) : ∀ i, i ≤ pl.length → bf (nthK K n) pl i < 16777216
  | 0, _ => (by decide : (0 : Nat) < 16777216)
  | i + 1, hi => by
    have h1 := (nth_ok (h.2 i (by omega))).1
    exact Nat.or_lt_two_pow (n := 24) (bf_24 h hn i (by omega)) (Nat.pow_lt_pow_right (by decide) (by omega))
end HF
def hfStep (X Y : Nat → Int) (K : Nat → Bool) (n : Nat) (a : BsA) (pl : List Nat) : BsA := ofF a (smG X Y (kf (nthK K n) pl pl.length) n) (boG X (kf (nthK K n) pl pl.length) n) ((bf (nthK K n) pl pl.length : Nat) : Int)
def hfAll (X Y : Nat → Int) (K : Nat → Bool) (n k : Nat) (a : BsA) : BsA := itr (cntK K n) (hfStep X Y K n) 10000 (List.range k) a
def ItP {α : Type} (z k : Nat) (step : α → List Nat → α) (fin : α) (tu : Nat) (a : α) (p : Nat → Int) (k9 z9 : Int) (pl : List Nat) : Prop := tu ≤ 10000 ∧ k ≤ z ∧ (k9 = k ∧ z9 = z) ∧ PkL k z p pl ∧ pl.Pairwise (· < ·) ∧ fin = itr z step (10000 - tu) pl a
def ItI {α : Type} (z k : Nat) (step : α → List Nat → α) (fin : α) (mo : Bool) (tu : Nat) (a : α) (p : Nat → Int) (k9 z9 : Int) : Prop := (mo = false ∧ fin = a) ∨ (mo = true ∧ ∃ pl, ItP z k step fin tu a p k9 z9 pl)
section IT
variable {α : Type} {z k : Nat} {step : α → List Nat → α} {fin : α} {mo : Bool} {tu : Nat} {a : α} {p : Nat → Int} {k9 z9 : Int} {pl : List Nat}
theorem ItI.some (h : ItI z k step fin mo tu a p k9 z9) (hm : mo = true) : ∃ pl, ItP z k step fin tu a p k9 z9 pl := by
  rcases h with h | h
  · rw [hm] at h; cases h.1
  · exact h.2
theorem ItI.out (h : ItI z k step fin mo tu a p k9 z9) (hx : mo = false ∨ 10000 ≤ tu) : a = fin := by
  rcases h with h | ⟨h1, pl, h2⟩
  · exact h.2.symm
  · rcases hx with hx | hx
    · rw [h1] at hx; cases hx
    · obtain ⟨h3, -, -, -, -, h4⟩ := h2
      have : tu = 10000 := by omega
      subst this
      exact h4.symm
theorem ItI.init {v : Bool} {k2 z2 : Int} {p2 : Nat → Int} (hkz : k ≤ z) (hk : k ≤ 10) (h : (v = false ∧ ¬ (0 ≤ (k : Int) ∧ (k : Int) ≤ (z : Int) ∧ (k : Int) ≤ 10)) ∨ (v = true ∧ (0 ≤ (k : Int) ∧ (k : Int) ≤ (z : Int) ∧ (k : Int) ≤ 10) ∧ k2 = (k : Int) ∧ z2 = (z : Int) ∧ ∀ i : Nat, (i : Int) < (k : Int) → p2 i = i)) : ItI z k step (itr z step 10000 (List.range k) a) v 0 a p2 k2 z2 := by
  rcases h with ⟨h1, h2⟩ | ⟨h1, h2, h3, h4, h5⟩
  · omega
  · refine Or.inr ⟨h1, List.range k, by omega, hkz, ⟨h3, h4⟩, ⟨by simp, fun i hi => ?_, fun i hi => ?_⟩, ris_range k, rfl⟩
    · rw [h5 i (by omega)]; simp [List.getD_eq_getElem?_getD, List.getElem?_range hi]
    · simp [List.getD_eq_getElem?_getD, List.getElem?_range hi]; omega
theorem ItP.pos (h : ItP z k step fin tu a p k9 z9 pl) (hz : z ≤ 100) : ∀ i, i < k → 0 ≤ p i ∧ p i ≤ 1000 := by
  obtain ⟨-, -, -, ⟨-, h1, h2⟩, -, -⟩ := h
  intro i hi
  rw [h1 i hi]; have := h2 i hi; omega
theorem ItP.at (h : ItP z k step fin tu a p k9 z9 pl) {i : Nat} (hi : i < k) : (if i < k then p i else ((z : Int) + i - k)) = ((pl.getD i 0 : Nat) : Int) := by
  obtain ⟨-, -, -, ⟨-, h1, h2⟩, -, -⟩ := h
  rw [if_pos hi, h1 i hi]
theorem ItP.len (h : ItP z k step fin tu a p k9 z9 pl) : pl.length = k := h.2.2.2.1.1
theorem ItP.lt (h : ItP z k step fin tu a p k9 z9 pl) {i : Nat} (hi : i < k) : pl.getD i 0 < z := by have := h.2.2.2.1.2.2 i hi; omega
theorem ItP.next {a' : α} {p2 : Nat → Int} {v : Bool} (h : ItP z k step fin tu a p k9 z9 pl) (htu : tu < 10000) (hs : a' = step a pl) (ha : AdvR k z p v p2) : ItI z k step fin v (tu + 1) a' p2 (k : Int) (z : Int) := by
  obtain ⟨h2, h3, h4, h5, h6, h7⟩ := h
  obtain ⟨n, hn⟩ : ∃ n, 10000 - tu = n + 1 := ⟨10000 - tu - 1, by omega⟩
  have hn2 : 10000 - (tu + 1) = n := by omega
  rw [hn] at h7
  rcases h5.adv ha with ⟨hv, e⟩ | ⟨hv, p', e, hp'⟩
  · refine Or.inl ⟨hv, ?_⟩
    rw [h7, hs]
    show (match adv z pl with | none => _ | some p' => _) = _
    rw [e]
  · refine Or.inr ⟨hv, p', by omega, h3, ⟨rfl, rfl⟩, hp', (adv_ris e h6).1, ?_⟩
    rw [h7, hn2, hs]
    show (match adv z pl with | none => _ | some p' => _) = _
    rw [e]
end IT
theorem ItP.plok {K : Nat → Bool} {n k tu : Nat} {step : BsA → List Nat → BsA} {fin a : BsA} {p : Nat → Int} {k9 z9 : Int} {pl : List Nat} (h : ItP (cntK K n) k step fin tu a p k9 z9 pl) : PlOk K n pl := ⟨h.2.2.2.2.1, fun i hi => h.lt (by rw [h.len] at hi; exact hi)⟩
def HfOk (X Y : Nat → Int) (K : Nat → Bool) (n : Nat) (kh : Int) (e : Bool) (t b x : Int) : Prop := BO e t b ∧ ∃ t0 b0 x0, (e, t, b, x) = hfAll X Y K n kh.toNat (true, t0, b0, x0)
