/-! a callee's cells, in the caller's order: a faster frame -/
def wpk : List Bool → va_W → va_W
  | true :: bs, c :: ws => c :: wpk bs ws
  | false :: bs, _ :: ws => wpk bs ws
  | _, _ => []
def wmg : List Bool → va_W → va_W → va_W
  | true :: bs, _ :: ws, q :: qs => q :: wmg bs ws qs
  | false :: bs, c :: ws, w1 => c :: wmg bs ws w1
  | _, ws, _ => ws
theorem wpk_sub : ∀ (bs : List Bool) (ws : va_W), (wpk bs ws).Sublist ws
  | [], ws => List.nil_sublist ws
  | true :: bs, [] => List.Sublist.slnil
  | false :: bs, [] => List.Sublist.slnil
  | true :: bs, c :: ws => (wpk_sub bs ws).cons_cons c
  | false :: bs, c :: ws => (wpk_sub bs ws).cons c
theorem wmg_fst : ∀ (bs : List Bool) (ws w1 : va_W), w1.map Prod.fst = (wpk bs ws).map Prod.fst → (wmg bs ws w1).map Prod.fst = ws.map Prod.fst
  | [], ws, w1, _ => rfl
  | true :: bs, [], w1, _ => rfl
  | false :: bs, [], w1, _ => rfl
  | true :: bs, c :: ws, [], h => rfl
  | true :: bs, c :: ws, q :: qs, h => by
    have h' : q.1 :: qs.map Prod.fst = c.1 :: (wpk bs ws).map Prod.fst := h
    have h1 := List.cons.inj h'
    show q.1 :: (wmg bs ws qs).map Prod.fst = c.1 :: ws.map Prod.fst
    rw [wmg_fst bs ws qs h1.2, h1.1]
  | false :: bs, c :: ws, w1, h => by
    show c.1 :: (wmg bs ws w1).map Prod.fst = c.1 :: ws.map Prod.fst
    rw [wmg_fst bs ws w1 h]
theorem wmg_mem : ∀ (bs : List Bool) (ws w1 : va_W), w1.map Prod.fst = (wpk bs ws).map Prod.fst → (ws.map Prod.fst).Nodup → ∀ q ∈ wmg bs ws w1, q ∈ w1 ∨ (q ∈ ws ∧ ∀ q' ∈ wpk bs ws, q'.1 ≠ q.1)
  | [], ws, w1, _, _, q, hq => Or.inr ⟨hq, fun q' h => by cases h⟩
  | true :: bs, [], w1, _, _, q, hq => by cases hq
  | false :: bs, [], w1, _, _, q, hq => by cases hq
  | true :: bs, c :: ws, [], h, _, q, hq => by cases h
  | true :: bs, c :: ws, x :: xs, h, hn, q, hq => by
    have h' : x.1 :: xs.map Prod.fst = c.1 :: (wpk bs ws).map Prod.fst := h
    have h1 := List.cons.inj h'
    have hn' : (c.1 :: ws.map Prod.fst).Nodup := hn
    have hn2 := List.nodup_cons.mp hn'
    have hq' : q ∈ x :: wmg bs ws xs := hq
    rcases List.mem_cons.mp hq' with e | hq2
    · exact Or.inl (by rw [e]; exact List.mem_cons_self ..)
    · rcases wmg_mem bs ws xs h1.2 hn2.2 q hq2 with h2 | ⟨h2, h3⟩
      · exact Or.inl (List.mem_cons_of_mem _ h2)
      · refine Or.inr ⟨List.mem_cons_of_mem _ h2, fun q' hq3 => ?_⟩
        have hq4 : q' ∈ c :: wpk bs ws := hq3
        rcases List.mem_cons.mp hq4 with e | hq5
        · intro e2; exact hn2.1 (by rw [← e, e2]; exact List.mem_map_of_mem h2)
        · exact h3 q' hq5
  | false :: bs, c :: ws, w1, h, hn, q, hq => by
    have hn' : (c.1 :: ws.map Prod.fst).Nodup := hn
    have hn2 := List.nodup_cons.mp hn'
    have hq' : q ∈ c :: wmg bs ws w1 := hq
    rcases List.mem_cons.mp hq' with e | hq2
    · refine Or.inr ⟨by rw [e]; exact List.mem_cons_self .., fun q' hq3 e2 => hn2.1 ?_⟩
      have hq4 : q' ∈ wpk bs ws := hq3
      have := List.mem_map_of_mem (f := Prod.fst) ((wpk_sub bs ws).subset hq4)
      rw [e2, e] at this; exact this
    · rcases wmg_mem bs ws w1 h hn2.2 q hq2 with h2 | ⟨h2, h3⟩
      · exact Or.inl h2
      · exact Or.inr ⟨List.mem_cons_of_mem _ h2, h3⟩
theorem nd_of {l : List Nat} (h : ∀ (i j a : Nat), l[i]? = some a → l[j]? = some a → i = j) : l.Nodup := by
  refine List.pairwise_iff_getElem.mpr fun i j hi hj hij e => ?_
  have := h i j l[i] (by simp) (by rw [e]; simp)
  omega
theorem of_nd {l : List Nat} (h : l.Nodup) : ∀ (i j a : Nat), l[i]? = some a → l[j]? = some a → i = j := by
  intro i j a hi hj
  obtain ⟨h1, e1⟩ := List.getElem?_eq_some_iff.mp hi
  obtain ⟨h2, e2⟩ := List.getElem?_eq_some_iff.mp hj
  have h3 := List.pairwise_iff_getElem.mp h
  rcases Nat.lt_trichotomy i j with h4 | h4 | h4
  · exact absurd (e1.trans e2.symm) (h3 i j h1 h2 h4)
  · exact h4
  · exact absurd (e2.trans e1.symm) (h3 j i h2 h1 h4)
theorem Sp.mg {ws w0 : va_W} (bs : List Bool) (hs : wpk bs ws = w0) : Sp ws w0 (wmg bs ws) := by
  subst hs
  have mem' : ∀ {w : va_W} {k : Nat} {q : Nat × va_E}, w[k]? = some q → q ∈ w := fun h => List.mem_of_getElem? h
  have at' : ∀ {w : va_W} {q : Nat × va_E}, q ∈ w → ∃ i : Nat, w[i]? = some q := fun h => by
    obtain ⟨i, hi, e⟩ := List.getElem_of_mem h
    exact ⟨i, by rw [List.getElem?_eq_getElem hi, e]⟩
  refine ⟨fun k q hq => at' ((wpk_sub bs ws).subset (mem' hq)), fun hd => ⟨?_, fun w1 h1 => ⟨wmg_fst bs ws w1 h1, fun k q hk => ?_⟩⟩⟩
  · exact of_nd (((wpk_sub bs ws).map Prod.fst).nodup (nd_of hd))
  · rcases wmg_mem bs ws w1 h1 (nd_of hd) q (mem' hk) with h | ⟨h, h2⟩
    · exact Or.inl (at' h)
    · exact Or.inr ⟨at' h, fun j q' hq' => h2 q' (mem' hq')⟩
/-! the reference: rows of rows, its determinants -/
def up2 (X : Nat → Nat → Int) (k c : Nat) (v : Int) : Nat → Nat → Int := fun i => if i = k then upZ (X k) c v else X i
theorem up2_s (X : Nat → Nat → Int) (k c : Nat) (v : Int) : up2 X k c v k c = v := by simp [up2, upZ]
theorem up2_n (X : Nat → Nat → Int) {k c i j : Nat} (v : Int) (h : ¬ (i = k ∧ j = c)) : up2 X k c v i j = X i j := by
  unfold up2
  by_cases e : i = k
  · subst e; rw [if_pos rfl, upZ_n _ _ (by omega)]
  · rw [if_neg e]
theorem rw_at (pre post : va_W) (n : Nat) (f : Nat → Nat × va_E) {k : Nat} (hk : k < n) : (pre ++ ((List.range n).map f ++ post))[pre.length + k]? = some (f k) := by
  rw [List.getElem?_append_right (by omega), Nat.add_sub_cancel_left, List.getElem?_append_left (by simpa using hk), List.getElem?_map, List.getElem?_range hk]; rfl
theorem rw_set (pre post : va_W) {n : Nat} {f g : Nat → Nat × va_E} {k : Nat} {e : Nat × va_E} (hk : k < n) (hg : ∀ i, g i = if i = k then e else f i) : (pre ++ ((List.range n).map f ++ post)).set (pre.length + k) e = pre ++ ((List.range n).map g ++ post) := by
  rw [List.set_append_right _ _ (by omega), Nat.add_sub_cancel_left, List.set_append_left _ _ (by simpa using hk)]
  congr 2
  apply List.ext_getElem?
  intro i
  rw [List.getElem?_set, List.getElem?_map, List.getElem?_map]
  by_cases hi : i < n
  · rw [List.getElem?_range hi]
    by_cases e2 : k = i
    · subst e2; simp [hk, hg]
    · simp [e2, hg, show ¬ i = k by omega]
  · have h1 : (List.range n)[i]? = none := by rw [List.getElem?_eq_none_iff]; simp; omega
    rw [h1]
    have : ¬ k = i := by omega
    simp [this]
theorem rw_setL (pre post : va_W) {ad : Nat → Nat} {cL : ClassId} {b n k c : Nat} {v : Int} {X : Nat → Nat → Int} (hk : k < n) : (pre ++ ((List.range n).map (fun i => (ad (b + i), aL cL 3 (X i))) ++ post)).set (pre.length + k) (ad (b + k), aL cL 3 (upZ (X k) c v)) = pre ++ ((List.range n).map (fun i => (ad (b + i), aL cL 3 (up2 X k c v i))) ++ post) := by
  refine rw_set pre post hk fun i => ?_
  by_cases e : i = k
  · subst e; rw [if_pos rfl]; simp [up2]
  · rw [if_neg e]; simp [up2, e]
theorem rw_setI (pre post : va_W) {ad : Nat → Nat} {cI : ClassId} {b n k c : Nat} {v : Int} {X : Nat → Nat → Int} (hk : k < n) : (pre ++ ((List.range n).map (fun i => (ad (b + i), aI cI 3 (X i))) ++ post)).set (pre.length + k) (ad (b + k), aI cI 3 (upZ (X k) c v)) = pre ++ ((List.range n).map (fun i => (ad (b + i), aI cI 3 (up2 X k c v i))) ++ post) := by
  refine rw_set pre post hk fun i => ?_
  by_cases e : i = k
  · subst e; rw [if_pos rfl]; simp [up2]
  · rw [if_neg e]; simp [up2, e]
def mAt (X : Nat → Nat → Int) (Y : Nat → Int) (m n : Nat) (r c : Int) : Int := if 0 ≤ r ∧ r < ((n : Nat) : Int) then (if c = -1 then Y r.toNat else if 0 ≤ c ∧ c < ((m : Nat) : Int) then X r.toNat c.toNat else 0) else 0
def MAddR (X : Nat → Nat → Int) (Y : Nat → Int) (K : Nat → Bool) (m n : Nat) (t a b c v2 : Int) (X2 : Nat → Nat → Int) (Y2 : Nat → Int) (K2 : Nat → Bool) (n2 : Nat) : Prop :=
  let fit : Prop := (-99 ≤ t ∧ t ≤ 99) ∧ (-9 ≤ a ∧ a ≤ 9) ∧ (m < 2 ∨ (-9 ≤ b ∧ b ≤ 9)) ∧ (m < 3 ∨ (-9 ≤ c ∧ c ≤ 9))
  ((¬ (n < 24 ∧ fit)) ∧ v2 = -1 ∧ X2 = X ∧ Y2 = Y ∧ K2 = K ∧ n2 = n) ∨
  ((n < 24 ∧ fit) ∧ v2 = n ∧ X2 = up2 (up2 (up2 X n 0 a) n 1 (if m < 2 then 0 else b)) n 2 (if m < 3 then 0 else c) ∧ Y2 = upZ Y n t ∧ K2 = upB K n true ∧ n2 = n + 1)
/-- the row behind: the row at a place, or the end -/
def nx (K : Nat → Bool) (n j : Nat) : Nat := if j < cntK K n then nthK K n j else n
theorem nx_out {K : Nat → Bool} {n i j : Nat} (hi : i ≤ n) (hc : cntK K i = j) (h : i = n ∨ (i < n ∧ K i = true)) : i = nx K n j := by
  subst hc
  unfold nx
  rcases h with rfl | ⟨h1, h2⟩
  · rw [if_neg (by omega)]
  · have := cnt_lt K h1 h2
    rw [if_pos this, nth_cnt K h1 h2]
theorem cnt_f {K : Nat → Bool} {i : Nat} (h : K i = false) : cntK K (i + 1) = cntK K i := by show cntK K i + _ = _; rw [if_neg (by rw [h]; simp)]; rfl
theorem cnt_t {K : Nat → Bool} {i : Nat} (h : K i = true) : cntK K (i + 1) = cntK K i + 1 := by show cntK K i + _ = _; rw [if_pos h]
theorem nx_lt {K : Nat → Bool} {n j : Nat} (h : nx K n j < n) : j < cntK K n ∧ nx K n j = nthK K n j ∧ K (nx K n j) = true ∧ cntK K (nx K n j) = j := by
  unfold nx at h ⊢
  by_cases e : j < cntK K n
  · rw [if_pos e]; exact ⟨e, rfl, (nth_ok e).2⟩
  · rw [if_neg e] at h; omega
theorem nx_ge {K : Nat → Bool} {n j : Nat} (h : ¬ nx K n j < n) : cntK K n ≤ j := by
  unfold nx at h
  by_cases e : j < cntK K n
  · rw [if_pos e] at h; exact absurd (nth_ok e).1 h
  · omega
/-- the reference's choice: rows of places -/
def PkN (K : Nat → Bool) (n k : Nat) (pk : Nat → Int) (pl : List Nat) : Prop := pl.length = k ∧ (∀ j, j < k → pk j = ((nthK K n (pl.getD j 0) : Nat) : Int)) ∧ ∀ j, j < k → pl.getD j 0 + (k - j) ≤ cntK K n
theorem PkN.lt {K : Nat → Bool} {n k j : Nat} {pk : Nat → Int} {pl : List Nat} (h : PkN K n k pk pl) (hj : j < k) : pl.getD j 0 < cntK K n := by have := h.2.2 j hj; omega
def NxI (K : Nat → Bool) (n k : Nat) (pl : List Nat) (j q : Nat) (p9 : Nat → Int) : Prop := j ≤ q ∧ q ≤ k ∧ ∀ i, j ≤ i → i < q → pl.getD j 0 + 1 + (i - j) < cntK K n ∧ p9 i = ((nthK K n (pl.getD j 0 + 1 + (i - j)) : Nat) : Int)
theorem NxI.init {K : Nat → Bool} {n k j : Nat} {pl : List Nat} {p9 : Nat → Int} (h : j < k) : NxI K n k pl j j p9 := ⟨Nat.le_refl _, by omega, fun i h1 h2 => by omega⟩
theorem NxI.step {K : Nat → Bool} {n k j q : Nat} {pl : List Nat} {p9 : Nat → Int} (h : NxI K n k pl j q p9) (hq : q < k) (hi : nx K n (pl.getD j 0 + 1 + (q - j)) < n) : NxI K n k pl j (q + 1) (upZ p9 q ((nx K n (pl.getD j 0 + 1 + (q - j)) : Nat) : Int)) := by
  obtain ⟨h1, h2, h3⟩ := h
  refine ⟨by omega, by omega, fun i a b => ?_⟩
  by_cases e : i = q
  · subst e
    obtain ⟨c1, c2, -⟩ := nx_lt hi
    rw [upZ_s, c2]; exact ⟨c1, rfl⟩
  · rw [upZ_n _ _ e]; exact h3 i a (by omega)
def NextR (K : Nat → Bool) (n k : Nat) (pl : List Nat) (v : Bool) (p2 : Nat → Int) : Prop := (v = false ∧ adv (cntK K n) pl = none) ∨ (v = true ∧ ∃ pl', adv (cntK K n) pl = some pl' ∧ PkN K n k p2 pl')
theorem NextR.no {K : Nat → Bool} {n k : Nat} {pl : List Nat} {pk p2 : Nat → Int} (hp : PkN K n k pk pl) (h : ∀ q : Nat, (-1 : Int) < q → q < k → ¬ pl.getD q 0 + (k - q) < cntK K n) : NextR K n k pl false p2 := by
  obtain ⟨hk, -, -⟩ := hp
  subst hk
  exact Or.inl ⟨rfl, adv_none pl fun i hi => h i (by omega) hi⟩
theorem NextR.yes {K : Nat → Bool} {n k j q : Nat} {pl : List Nat} {pk p9 p2 : Nat → Int} (hp : PkN K n k pk pl) (hj : j < k) (hn : ∀ q : Nat, j < q → q < k → ¬ pl.getD q 0 + (k - q) < cntK K n) (h : NxI K n k pl j q p9) (hq : q = k) (h1 : ∀ i, i < j → p2 i = pk i) (h2 : ∀ i, j ≤ i → i < k → p2 i = p9 i) : NextR K n k pl true p2 := by
  obtain ⟨hk, hP, hb⟩ := hp
  subst hk; subst hq
  obtain ⟨-, -, h3⟩ := h
  have hl := (h3 (pl.length - 1) (by omega) (by omega)).1
  have e := adv_some (z := cntK K n) pl j hj (by omega) hn
  refine Or.inr ⟨rfl, _, e, ?_⟩
  have hlen : (pl.take j ++ List.range' (pl.getD j 0 + 1) (pl.length - j)).length = pl.length := by simp; omega
  have at1 : ∀ i, i < j → (pl.take j ++ List.range' (pl.getD j 0 + 1) (pl.length - j)).getD i 0 = pl.getD i 0 := by
    intro i hi
    have hj2 : i < pl.length := by omega
    have hmin : min j pl.length = j := by omega
    simp [List.getD_eq_getElem?_getD, List.getElem?_append, hi, hj2, hmin, List.getElem?_take]
  have at2 : ∀ i, j ≤ i → i < pl.length → (pl.take j ++ List.range' (pl.getD j 0 + 1) (pl.length - j)).getD i 0 = pl.getD j 0 + 1 + (i - j) := by
    intro i h5 h6
    have hmin : min j pl.length = j := by omega
    have h7 : ¬ i < j := by omega
    have h8 : i - j < pl.length - j := by omega
    simp [List.getD_eq_getElem?_getD, List.getElem?_append, h7, hmin, List.getElem?_range', h8]
  refine ⟨hlen, fun i hi => ?_, fun i hi => ?_⟩
  · rcases Nat.lt_or_ge i j with h5 | h5
    · rw [h1 i h5, at1 i h5, hP i hi]
    · rw [h2 i h5 hi, at2 i h5 hi, (h3 i h5 hi).2]
  · rcases Nat.lt_or_ge i j with h5 | h5
    · rw [at1 i h5]; exact hb i hi
    · rw [at2 i h5 hi]; omega
theorem PkN.init {K : Nat → Bool} {n k : Nat} {pk : Nat → Int} (hk : k ≤ cntK K n) (h : ∀ j, j < k → pk j = ((nthK K n j : Nat) : Int)) : PkN K n k pk (List.range k) := by
  refine ⟨by simp, fun j hj => ?_, fun j hj => ?_⟩
  · rw [h j hj]; simp [List.getD_eq_getElem?_getD, List.getElem?_range hj]
  · simp [List.getD_eq_getElem?_getD, List.getElem?_range hj]; omega
/-! determinants -/
def r1 (r : Nat) : Nat := if r = 0 then 1 else 0
def r2 (r : Nat) : Nat := if r = 2 then 1 else 2
def minM (M : Nat → Nat → Int) (r c : Nat) : Int := M (r1 r) (r1 c) * M (r2 r) (r2 c) - M (r1 r) (r2 c) * M (r2 r) (r1 c)
def detM (M : Nat → Nat → Int) (n : Nat) : Int := if n = 0 then 1 else if n = 1 then M 0 0 else if n = 2 then M 0 0 * M 1 1 - M 0 1 * M 1 0 else M 0 0 * minM M 0 0 - M 0 1 * minM M 0 1 + M 0 2 * minM M 0 2
def cofM (M : Nat → Nat → Int) (n r c : Nat) : Int := if n = 1 then 1 else if n = 2 then (if (r + c) % 2 = 0 then M (1 - r) (1 - c) else -M (1 - r) (1 - c)) else if (r + c) % 2 = 0 then minM M r c else -minM M r c
def crS (M : Nat → Nat → Int) (v : Nat → Int) (n c : Nat) : Nat → Int
  | 0 => 0
  | r + 1 => crS M v n c r + cofM M n r c * v r
theorem and_1 {a : Nat} (h : a < 8) : iI ((a : Nat) : Int) &&& iI 1 = iI ((a % 2 : Nat) : Int) := by
  have : ∀ a : Fin 8, iI ((a.val : Nat) : Int) &&& iI 1 = iI ((a.val % 2 : Nat) : Int) := by decide +kernel
  exact this ⟨a, h⟩
theorem and_1i {z : Int} {a : Nat} (hz : z = ((a : Nat) : Int)) (h : a < 8) : iI z &&& iI 1 = iI ((a % 2 : Nat) : Int) := by subst hz; exact and_1 h
def MBd (r : Nat) : Int := if r = 2 then 7558272 else 1944
/-- a small matrix and a small right side -/
def SmM (M : Nat → Nat → Int) (v : Nat → Int) (n : Nat) : Prop := (∀ r c, r < n → c < n → -MBd r ≤ M r c ∧ M r c ≤ MBd r) ∧ ∀ r, r < n → -21384 ≤ v r ∧ v r ≤ 21384
theorem r1_lt (r : Nat) : r1 r < 3 := by unfold r1; split <;> omega
theorem r2_lt (r : Nat) : r2 r < 3 := by unfold r2; split <;> omega
theorem min_bd {M : Nat → Nat → Int} {A B : Int} {r c : Nat} (h1 : ∀ c, c < 3 → -A ≤ M (r1 r) c ∧ M (r1 r) c ≤ A) (h2 : ∀ c, c < 3 → -B ≤ M (r2 r) c ∧ M (r2 r) c ≤ B) : -(2 * (A * B)) ≤ minM M r c ∧ minM M r c ≤ 2 * (A * B) := by
  have a := mul_bd (h1 (r1 c) (r1_lt c)) (h2 (r2 c) (r2_lt c))
  have b := mul_bd (h1 (r2 c) (r2_lt c)) (h2 (r1 c) (r1_lt c))
  unfold minM; omega
theorem min_b0 {M : Nat → Nat → Int} {v : Nat → Int} (h : SmM M v 3) (c : Nat) : -29386561536 ≤ minM M 0 c ∧ minM M 0 c ≤ 29386561536 := by
  have := min_bd (M := M) (A := 1944) (B := 7558272) (r := 0) (c := c) (fun c hc => h.1 1 c (by omega) hc) (fun c hc => h.1 2 c (by omega) hc)
  omega
theorem min_b1 {M : Nat → Nat → Int} {v : Nat → Int} (h : SmM M v 3) (c : Nat) : -29386561536 ≤ minM M 1 c ∧ minM M 1 c ≤ 29386561536 := by
  have := min_bd (M := M) (A := 1944) (B := 7558272) (r := 1) (c := c) (fun c hc => h.1 0 c (by omega) hc) (fun c hc => h.1 2 c (by omega) hc)
  omega
theorem min_b2 {M : Nat → Nat → Int} {v : Nat → Int} (h : SmM M v 3) (c : Nat) : -29386561536 ≤ minM M 2 c ∧ minM M 2 c ≤ 29386561536 := by
  have := min_bd (M := M) (A := 1944) (B := 1944) (r := 2) (c := c) (fun c hc => h.1 0 c (by omega) hc) (fun c hc => h.1 1 c (by omega) hc)
  omega
theorem det_bd {M : Nat → Nat → Int} {v : Nat → Int} {n : Nat} (hn : n ≤ 3) (h : SmM M v n) : -1000000000000000 ≤ detM M n ∧ detM M n ≤ 1000000000000000 := by
  unfold detM
  match n, hn with
  | 0, _ => simp
  | 1, _ => have := h.1 0 0 (by omega) (by omega); simp [MBd] at this ⊢; omega
  | 2, _ =>
    have a := mul_bd (h.1 0 0 (by omega) (by omega)) (h.1 1 1 (by omega) (by omega))
    have b := mul_bd (h.1 0 1 (by omega) (by omega)) (h.1 1 0 (by omega) (by omega))
    simp [MBd] at a b ⊢; omega
  | 3, _ =>
    have a := mul_bd (A := 1944) (h.1 0 0 (by omega) (by omega)) (min_b0 h 0)
    have b := mul_bd (A := 1944) (h.1 0 1 (by omega) (by omega)) (min_b0 h 1)
    have c := mul_bd (A := 1944) (h.1 0 2 (by omega) (by omega)) (min_b0 h 2)
    simp; omega
theorem cof_bd {M : Nat → Nat → Int} {v : Nat → Int} {n r c : Nat} (hn : n ≤ 3) (h : SmM M v n) (hr : r < n) (hc : c < n) : -29386561536 ≤ cofM M n r c ∧ cofM M n r c ≤ 29386561536 := by
  unfold cofM
  match n, hn with
  | 1, _ => simp
  | 2, _ =>
    have := h.1 (1 - r) (1 - c) (by omega) (by omega)
    have e : MBd (1 - r) = 1944 := by unfold MBd; rw [if_neg (by omega)]
    rw [e] at this
    simp; split <;> omega
  | 3, _ =>
    have hm : -29386561536 ≤ minM M r c ∧ minM M r c ≤ 29386561536 := by
      match r, hr with
      | 0, _ => exact min_b0 h c
      | 1, _ => exact min_b1 h c
      | 2, _ => exact min_b2 h c
    simp; split <;> omega
theorem crS_bd {M : Nat → Nat → Int} {v : Nat → Int} {n c : Nat} (hn : n ≤ 3) (h : SmM M v n) (hc : c < n) : ∀ r, r ≤ n → -(628402231885824 * 100 * (r : Int)) ≤ crS M v n c r ∧ crS M v n c r ≤ 628402231885824 * 100 * (r : Int)
  | 0, _ => by simp [crS]
  | r + 1, hr => by
    have ih := crS_bd hn h hc r (by omega)
    have a := mul_bd (cof_bd hn h (show r < n by omega) hc) (h.2 r (by omega))
    show _ ≤ crS M v n c r + _ ∧ crS M v n c r + _ ≤ _
    omega
theorem crS_b {M : Nat → Nat → Int} {v : Nat → Int} {n c : Nat} (hn : n ≤ 3) (h : SmM M v n) (hc : c < n) : -1000000000000000000 ≤ crS M v n c n ∧ crS M v n c n ≤ 1000000000000000000 := by
  have := crS_bd hn h hc n (Nat.le_refl _); omega
/-- the solution by minors, cut by a common part -/
def SlR (M : Nat → Nat → Int) (v : Nat → Int) (n : Nat) (W : Nat → Int) (den : Int) : Prop := ∃ s : Int, s ≠ 0 ∧ detM M n = s * den ∧ 0 < den ∧ ∀ c, c < n → crS M v n c n = s * W c
theorem cof_j {M : Nat → Nat → Int} {n r c : Nat} {j : Int} (hn : n ≤ 3) (hr : r < n)
    (h : ((n : Int) = 1 ∧ j = 1) ∨ (¬ (n : Int) = 1 ∧ (n : Int) = 2 ∧ (((r + c) % 2 : Nat) : Int) = 0 ∧ j = M (1 - r) (1 - c)) ∨ (¬ (n : Int) = 1 ∧ (n : Int) = 2 ∧ ¬ (((r + c) % 2 : Nat) : Int) = 0 ∧ j = -M (1 - r) (1 - c)) ∨ (¬ (n : Int) = 1 ∧ ¬ (n : Int) = 2 ∧ (((r + c) % 2 : Nat) : Int) = 0 ∧ j = minM M r c) ∨ (¬ (n : Int) = 1 ∧ ¬ (n : Int) = 2 ∧ ¬ (((r + c) % 2 : Nat) : Int) = 0 ∧ j = -minM M r c)) : j = cofM M n r c := by
  unfold cofM
  rcases h with ⟨h1, e⟩ | ⟨h1, h2, h3, e⟩ | ⟨h1, h2, h3, e⟩ | ⟨h1, h2, h3, e⟩ | ⟨h1, h2, h3, e⟩
  · rw [if_pos (by omega), e]
  · rw [if_neg (by omega), if_pos (by omega), if_pos (by omega), e]
  · rw [if_neg (by omega), if_pos (by omega), if_neg (by omega), e]
  · rw [if_neg (by omega), if_neg (by omega), if_pos (by omega), e]
  · rw [if_neg (by omega), if_neg (by omega), if_neg (by omega), e]
theorem beg_yes {K : Nat → Bool} {n kk c2 i : Nat} {p9 : Nat → Int} (hk : ((n : Int) ≤ i) ∨ (¬ (n : Int) ≤ i ∧ (kk : Int) ≤ c2)) (hi : i ≤ n) (hc : c2 ≤ kk ∧ c2 ≤ i) (hcc : c2 = cntK K i ∨ (c2 = kk ∧ kk ≤ cntK K i)) (e : c2 = kk) (hp : ∀ j, j < c2 → p9 j = ((nthK K n j : Nat) : Int)) : kk ≤ cntK K n ∧ PkN K n kk p9 (List.range kk) := by
  have := cnt_mono K hi
  have h1 : kk ≤ cntK K n := by omega
  exact ⟨h1, PkN.init h1 (fun j hj => hp j (by omega))⟩
theorem beg_no {K : Nat → Bool} {n kk c2 i : Nat} (hk : ((n : Int) ≤ i) ∨ (¬ (n : Int) ≤ i ∧ (kk : Int) ≤ c2)) (hi : i ≤ n) (hc : c2 ≤ kk ∧ c2 ≤ i) (hcc : c2 = cntK K i ∨ (c2 = kk ∧ kk ≤ cntK K i)) (e : ¬ c2 = kk) : ¬ kk ≤ cntK K n := by
  have e2 : i = n := by omega
  subst e2; omega
theorem nx_le (K : Nat → Bool) (n j : Nat) : nx K n j ≤ n := by
  unfold nx
  by_cases e : j < cntK K n
  · rw [if_pos e]; exact Nat.le_of_lt (nth_ok e).1
  · rw [if_neg e]; exact Nat.le_refl _
theorem nx_no {K : Nat → Bool} {n kk j q : Nat} {pl : List Nat} {p9 : Nat → Int} (hx : NxI K n kk pl j q p9) (h56 : ((n : Int) ≤ ((nx K n (pl.getD j 0 + 1 + (q - j)) : Nat) : Int)) ∨ (¬ (n : Int) ≤ ((nx K n (pl.getD j 0 + 1 + (q - j)) : Nat) : Int) ∧ (kk : Int) ≤ q)) (h59 : ¬ ((q : Nat) : Int) = kk) : ¬ pl.getD j 0 + (kk - j) < cntK K n := by
  obtain ⟨h1, h2, -⟩ := hx
  rcases h56 with h | h
  · have := nx_ge (show ¬ nx K n (pl.getD j 0 + 1 + (q - j)) < n by omega); omega
  · omega
theorem nx_cp {pi p8 p9 : Nat → Int} {j l9 : Nat} (h : (∀ i, i < j → p8 i = pi i) ∧ ∀ i, j ≤ i → i < l9 → p8 i = p9 i) (hj : j ≤ l9) : (∀ i, i < j → upZ p8 l9 (p9 l9) i = pi i) ∧ ∀ i, j ≤ i → i < l9 + 1 → upZ p8 l9 (p9 l9) i = p9 i := by
  refine ⟨fun i hi => by rw [upZ_n _ _ (by omega)]; exact h.1 i hi, fun i a b => ?_⟩
  by_cases e : i = l9
  · subst e; rw [upZ_s]
  · rw [upZ_n _ _ e]; exact h.2 i a (by omega)
