/-! the reference: least sizes and least level -/
def szM (X : Nat → Nat → Int) (K : Nat → Bool) (n : Nat) (pl : List Nat) : Nat → Nat → Int := fun j c => X (nthK K n (pl.getD j 0)) c
def szV (Y : Nat → Int) (K : Nat → Bool) (n : Nat) (pl : List Nat) : Nat → Int := fun j => Y (nthK K n (pl.getD j 0))
def szU (X : Nat → Nat → Int) (Y : Nat → Int) (K : Nat → Bool) (m : Nat) (W : Nat → Int) (den : Int) : Nat → Int
  | 0 => 0
  | i + 1 => szU X Y K m W den i + if K i = true then ((Y i * den - dtk (X i) W m).natAbs : Int) else 0
theorem szM_sm {X : Nat → Nat → Int} {Y : Nat → Int} {K : Nat → Bool} {n m : Nat} {pl : List Nat} (hB : MbB X Y n) (hm : m ≤ 3) (hp : ∀ j, j < m → pl.getD j 0 < cntK K n) : SmM (szM X K n pl) (szV Y K n pl) m := by
  refine ⟨fun r c hr hc => ?_, fun r hr => ?_⟩
  · have h1 := nth_ok (hp r hr)
    have := (hB.2 _ h1.1).1 c (by omega)
    unfold szM MBd; split <;> omega
  · have h1 := nth_ok (hp r hr)
    have := (hB.2 _ h1.1).2
    unfold szV; omega
def szG (d sm : List Nat → Int) (nu : List Nat → Nat → Int) (a : SzA) (pl : List Nat) : SzA := if d pl = 0 then a else if a.2.1 = 0 ∨ sm pl * a.2.1 < a.1 * d pl then (sm pl, d pl, nu pl 0, nu pl 1, nu pl 2) else a
def szC (a : SzA) (c : Nat) : Int := if c = 0 then a.2.2.1 else if c = 1 then a.2.2.2.1 else a.2.2.2.2
def SzH (X : Nat → Nat → Int) (Y : Nat → Int) (K : Nat → Bool) (m n : Nat) (d sm : List Nat → Int) (nu : List Nat → Nat → Int) : Prop := ∀ pl, PlOk K n pl → pl.length = m → 0 ≤ d pl ∧ (detM (szM X K n pl) m = 0 ↔ d pl = 0) ∧ ∀ W den, SlR (szM X K n pl) (szV Y K n pl) m W den → (0 < den ∧ den ≤ 1000000) ∧ (∀ c, c < m → -1000000 ≤ W c ∧ W c ≤ 1000000) ∧ szU X Y K m W den n * d pl = sm pl * den ∧ ∀ c, c < m → W c * d pl = nu pl c * den
def SzR (acc : SzA) (m : Nat) (bt bl bd : Int) (bw : Nat → Int) : Prop := (acc.2.1 = 0 ∧ bl = 0) ∨ (0 < acc.2.1 ∧ (0 < bl ∧ bl ≤ 1000000) ∧ (0 ≤ bt ∧ bt ≤ 10000000000) ∧ bt * acc.2.1 = acc.1 * bl ∧ bd = bl ∧ (∀ c, c < m → -1000000 ≤ bw c ∧ bw c ≤ 1000000) ∧ ∀ c, c < m → bw c * acc.2.1 = szC acc c * bl)
theorem SzR.bb {acc : SzA} {m : Nat} {bt bl bd : Int} {bw : Nat → Int} (h : SzR acc m bt bl bd bw) : 0 ≤ bl ∧ bl ≤ 1000000 := by
  rcases h with h | h
  · omega
  · have := h.2.1; omega
theorem SzR.pos {acc : SzA} {m : Nat} {bt bl bd : Int} {bw : Nat → Int} (h : SzR acc m bt bl bd bw) (hb : ¬ bl = 0) : (0 < bl ∧ bl ≤ 1000000) ∧ (0 ≤ bt ∧ bt ≤ 10000000000) := by
  rcases h with h | h
  · exact absurd h.2 hb
  · exact ⟨h.2.1, h.2.2.1⟩
theorem szC_3 {t b : Int} {nu : Nat → Int} {c : Nat} (hc : c < 3) : szC (t, b, nu 0, nu 1, nu 2) c = nu c := by
  match c, hc with
  | 0, _ => rfl
  | 1, _ => rfl
  | 2, _ => rfl
theorem SzR.skip {acc : SzA} {m : Nat} {bt bl bd : Int} {bw : Nat → Int} {d sm : List Nat → Int} {nu : List Nat → Nat → Int} {pl : List Nat} (h : SzR acc m bt bl bd bw) (hd : d pl = 0) : SzR (szG d sm nu acc pl) m bt bl bd bw := by
  unfold szG; rw [if_pos hd]; exact h
theorem SzR.take {acc : SzA} {m : Nat} {bt bl bd s den : Int} {bw W bw2 : Nat → Int} {d sm : List Nat → Int} {nu : List Nat → Nat → Int} {pl : List Nat} (hm : m ≤ 3) (h : SzR acc m bt bl bd bw) (hd0 : 0 ≤ d pl) (hd : ¬ d pl = 0) (hdn : 0 < den ∧ den ≤ 1000000) (hs : 0 ≤ s ∧ s ≤ 10000000000) (h1 : s * d pl = sm pl * den) (hw : ∀ c, c < m → -1000000 ≤ W c ∧ W c ≤ 1000000) (h2 : ∀ c, c < m → W c * d pl = nu pl c * den) (hb2 : ∀ c, c < m → bw2 c = W c) (hk : bl = 0 ∨ (¬ bl = 0 ∧ ¬ 0 ≤ sgnZ (s * bl - bt * den))) : SzR (szG d sm nu acc pl) m s den den bw2 := by
  have hdp : 0 < d pl := by omega
  have hc : acc.2.1 = 0 ∨ sm pl * acc.2.1 < acc.1 * d pl := by
    rcases h with h | ⟨ha, hb, -, he, -⟩
    · exact Or.inl h.1
    · rcases hk with e | ⟨-, e⟩
      · omega
      · have hlt := sgn_lt e
        have := (cmp_sg hdn.1 hb.1 hdp ha h1 he).1.mp hlt
        exact Or.inr (by omega)
  unfold szG; rw [if_neg hd, if_pos hc]
  refine Or.inr ⟨hdp, hdn, hs, h1, rfl, fun c hc => by rw [hb2 c hc]; exact hw c hc, fun c hc => ?_⟩
  rw [hb2 c hc, szC_3 (nu := nu pl) (by omega)]; exact h2 c hc
theorem SzR.keep {acc : SzA} {m : Nat} {bt bl bd s den : Int} {bw : Nat → Int} {d sm : List Nat → Int} {nu : List Nat → Nat → Int} {pl : List Nat} (h : SzR acc m bt bl bd bw) (hd0 : 0 ≤ d pl) (hd : ¬ d pl = 0) (hdn : 0 < den ∧ den ≤ 1000000) (h1 : s * d pl = sm pl * den) (hk : ¬ bl = 0 ∧ 0 ≤ sgnZ (s * bl - bt * den)) : SzR (szG d sm nu acc pl) m bt bl bd bw := by
  have hdp : 0 < d pl := by omega
  rcases h with h | ⟨ha, hb, h3, he, h4⟩
  · exact absurd h.2 hk.1
  · have hge := sgn_ge hk.2
    unfold szG; rw [if_neg hd, if_neg]
    · exact Or.inr ⟨ha, hb, h3, he, h4⟩
    · rintro (q | q)
      · omega
      · have := (cmp_sg hdn.1 hb.1 hdp ha h1 he).1.mpr (by omega); omega
def SzM (K : Nat → Bool) (n m : Nat) (d sm : List Nat → Int) (nu : List Nat → Nat → Int) (fin : SzA) (go : Bool) (N : Nat) (pk : Nat → Int) (bt bl bd : Int) (bw : Nat → Int) : Prop := ∃ acc, SzR acc m bt bl bd bw ∧ ItM K n m (szG d sm nu) fin go N pk acc
theorem dtk_b2 {x w : Nat → Int} {k : Nat} (hx : ∀ c, c < k → -9 ≤ x c ∧ x c ≤ 9) (hw : ∀ c, c < k → -1000000 ≤ w c ∧ w c ≤ 1000000) : ∀ c, c ≤ k → -(9000000 * (c : Int)) ≤ dtk x w c ∧ dtk x w c ≤ 9000000 * (c : Int)
  | 0, _ => by simp [dtk]
  | c + 1, hc => by
    have ih := dtk_b2 hx hw c (by omega)
    have := mul_bd (hx c (by omega)) (hw c (by omega))
    show _ ≤ dtk x w c + _ ∧ dtk x w c + _ ≤ _
    omega
theorem szU_b {X : Nat → Nat → Int} {Y : Nat → Int} {K : Nat → Bool} {m n : Nat} {W : Nat → Int} {den : Int} (hm : m ≤ 3) (hB : MbB X Y n) (hd : 0 < den ∧ den ≤ 1000000) (hW : ∀ c, c < m → -1000000 ≤ W c ∧ W c ≤ 1000000) : ∀ i, i ≤ n → 0 ≤ szU X Y K m W den i ∧ szU X Y K m W den i ≤ 300000000 * (i : Int)
  | 0, _ => by simp [szU]
  | i + 1, hi => by
    have ih := szU_b (K := K) hm hB hd hW i (by omega)
    have hx := hB.2 i (by omega)
    have h1 := mul_bd hx.2 (show -1000000 ≤ den ∧ den ≤ 1000000 by omega)
    have h2 := dtk_b2 (x := X i) (w := W) (k := m) (fun c hc => hx.1 c (by omega)) hW m (Nat.le_refl _)
    show 0 ≤ szU X Y K m W den i + _ ∧ szU X Y K m W den i + _ ≤ _
    split <;> omega
theorem dtk_b6 {x w : Nat → Int} {k : Nat} (hx : ∀ c, c < k → -9 ≤ x c ∧ x c ≤ 9) (hw : ∀ c, c < k → -1000000 ≤ w c ∧ w c ≤ 1000000) (c : Nat) (hc : c ≤ k) : -(9000000 * (c : Int)) ≤ dtk x w c ∧ dtk x w c ≤ 9000000 * (c : Int) := dtk_b2 hx hw c hc
theorem szU_t {X : Nat → Nat → Int} {Y : Nat → Int} {K : Nat → Bool} {m i : Nat} {W : Nat → Int} {den : Int} (h : K i = true) : szU X Y K m W den (i + 1) = szU X Y K m W den i + ((Y i * den - dtk (X i) W m).natAbs : Int) := by show szU X Y K m W den i + _ = _; rw [if_pos h]
theorem szU_f {X : Nat → Nat → Int} {Y : Nat → Int} {K : Nat → Bool} {m i : Nat} {W : Nat → Int} {den : Int} (h : K i = false) : szU X Y K m W den (i + 1) = szU X Y K m W den i := by show szU X Y K m W den i + _ = _; rw [if_neg (by rw [h]; simp), Int.add_zero]
theorem SzR.tell {acc : SzA} {m : Nat} {bt bl bd wh : Int} {bw : Nat → Int} (h : SzR acc m bt bl bd bw) (he : acc.2.1 ≠ 0) : ((0 < bl ∧ bl ≤ 1000000) ∧ (0 ≤ bt ∧ bt ≤ 10000000000) ∧ bd = bl ∧ ∀ c, c < m → -1000000 ≤ bw c ∧ bw c ≤ 1000000) ∧ tellZ bt bl wh = tellZ acc.1 acc.2.1 wh ∧ ∀ c, c < m → tellZ (bw c) bd wh = tellZ (szC acc c) acc.2.1 wh := by
  rcases h with h | ⟨ha, hb, hc, h1, h2, h3, h4⟩
  · exact absurd h.1 he
  · refine ⟨⟨hb, hc, h2, h3⟩, tell_eq (by omega) he h1, fun c hc => ?_⟩
    rw [h2]; exact tell_eq (by omega) he (h4 c hc)
/-! level -/
def lvR (sk r : Nat) : Nat := if r < sk then r else r + 1
def lvX (X : Nat → Nat → Int) (K : Nat → Bool) (n : Nat) (pl : List Nat) (sk : Nat) : Nat → Nat → Int := fun r c => X (nthK K n (pl.getD (lvR sk r) 0)) c
def lvDt (X : Nat → Nat → Int) (K : Nat → Bool) (n m : Nat) (pl : List Nat) (sk : Nat) : Int := detM (lvX X K n pl sk) m
def lvTo (X : Nat → Nat → Int) (Y : Nat → Int) (K : Nat → Bool) (n m : Nat) (pl : List Nat) : Nat → Int
  | 0 => 0
  | sk + 1 => lvTo X Y K n m pl sk + (if sk % 2 = 0 then lvDt X K n m pl sk * Y (nthK K n (pl.getD sk 0)) else -lvDt X K n m pl sk * Y (nthK K n (pl.getD sk 0)))
def lvLo (X : Nat → Nat → Int) (K : Nat → Bool) (n m : Nat) (pl : List Nat) : Nat → Int
  | 0 => 0
  | sk + 1 => lvLo X K n m pl sk + ((lvDt X K n m pl sk).natAbs : Int)
theorem lvX_sm {X : Nat → Nat → Int} {Y : Nat → Int} {K : Nat → Bool} {n m sk : Nat} {pl : List Nat} (hB : MbB X Y n) (hm : m ≤ 3) (hp : ∀ j, j < m + 1 → pl.getD j 0 < cntK K n) : SmM (lvX X K n pl sk) (fun _ => 0) m := by
  refine ⟨fun r c hr hc => ?_, fun r hr => by simp⟩
  have h1 := nth_ok (hp (lvR sk r) (by unfold lvR; split <;> omega))
  have := (hB.2 _ h1.1).1 c (by omega)
  unfold lvX MBd; split <;> omega
theorem lvDt_b {X : Nat → Nat → Int} {Y : Nat → Int} {K : Nat → Bool} {n m sk : Nat} {pl : List Nat} (hB : MbB X Y n) (hm : m ≤ 3) (hp : ∀ j, j < m + 1 → pl.getD j 0 < cntK K n) : -1000000000000000 ≤ lvDt X K n m pl sk ∧ lvDt X K n m pl sk ≤ 1000000000000000 := det_bd hm (lvX_sm hB hm hp)
theorem lvTo_b {X : Nat → Nat → Int} {Y : Nat → Int} {K : Nat → Bool} {n m : Nat} {pl : List Nat} (hB : MbB X Y n) (hm : m ≤ 3) (hp : ∀ j, j < m + 1 → pl.getD j 0 < cntK K n) : ∀ sk, sk ≤ m + 1 → (-(99000000000000000 * (sk : Int)) ≤ lvTo X Y K n m pl sk ∧ lvTo X Y K n m pl sk ≤ 99000000000000000 * (sk : Int)) ∧ (0 ≤ lvLo X K n m pl sk ∧ lvLo X K n m pl sk ≤ 1000000000000000 * (sk : Int))
  | 0, _ => by simp [lvTo, lvLo]
  | sk + 1, h => by
    have ih := lvTo_b hB hm hp sk (by omega)
    have hd := lvDt_b (sk := sk) hB hm hp
    have hy := (hB.2 _ (nth_ok (hp sk (by omega))).1).2
    have a := mul_bd hd hy
    have b := mul_bd (a := -lvDt X K n m pl sk) (A := 1000000000000000) (by omega) hy
    refine ⟨?_, ?_⟩
    · show _ ≤ lvTo X Y K n m pl sk + _ ∧ lvTo X Y K n m pl sk + _ ≤ _
      split <;> omega
    · show 0 ≤ lvLo X K n m pl sk + _ ∧ lvLo X K n m pl sk + _ ≤ _
      omega
def lvS (X : Nat → Nat → Int) (Y : Nat → Int) (K : Nat → Bool) (n m : Nat) (a : Int × Int) (pl : List Nat) : Int × Int := if 0 < lvLo X K n m pl (m + 1) ∧ 0 < ((lvTo X Y K n m pl (m + 1)).natAbs : Int) * a.2 - a.1 * lvLo X K n m pl (m + 1) then (((lvTo X Y K n m pl (m + 1)).natAbs : Int), lvLo X K n m pl (m + 1)) else a
def lvAll (X : Nat → Nat → Int) (Y : Nat → Int) (K : Nat → Bool) (n m : Nat) : Int × Int := if m + 1 ≤ cntK K n then itr (cntK K n) (lvS X Y K n m) 20000 (List.range (m + 1)) (0, 1) else (0, 1)
def LvM (X : Nat → Nat → Int) (Y : Nat → Int) (K : Nat → Bool) (n m : Nat) (fin : Int × Int) (go : Bool) (N : Nat) (pk : Nat → Int) (a b : Int) : Prop := ((0 ≤ a ∧ a ≤ 1000000000000000000) ∧ (0 < b ∧ b ≤ 1000000000000000000)) ∧ ItM K n (m + 1) (lvS X Y K n m) fin go N pk (a, b)
theorem LvM.init {X : Nat → Nat → Int} {Y : Nat → Int} {K : Nat → Bool} {n m : Nat} {go : Bool} {pk : Nat → Int} (hm : m ≤ 3) (hz : cntK K n ≤ 24) (h : (go = true ∧ m + 1 ≤ cntK K n ∧ PkN K n (m + 1) pk (List.range (m + 1))) ∨ (go = false ∧ ¬ m + 1 ≤ cntK K n)) : LvM X Y K n m (lvAll X Y K n m) go 20000 pk 0 1 := by
  refine ⟨by omega, ?_⟩
  unfold lvAll
  rcases h with ⟨h1, h2, h3⟩ | ⟨h1, h2⟩
  · rw [if_pos h2]; exact Or.inr ⟨h1, _, h3, ris_range _, mu_24 h2 hz (by omega), rfl⟩
  · rw [if_neg h2]; exact Or.inl ⟨h1, rfl⟩
theorem lvS_eq {X : Nat → Nat → Int} {Y : Nat → Int} {K : Nat → Bool} {n m : Nat} {pl : List Nat} {a b a2 b2 top low : Int} (ht : top = ((lvTo X Y K n m pl (m + 1)).natAbs : Int)) (hl : low = lvLo X K n m pl (m + 1))
    (h : (low ≤ 0 ∧ a2 = a ∧ b2 = b) ∨ (¬ low ≤ 0 ∧ sgnZ (top * b - a * low) ≤ 0 ∧ a2 = a ∧ b2 = b) ∨ (¬ low ≤ 0 ∧ ¬ sgnZ (top * b - a * low) ≤ 0 ∧ a2 = top ∧ b2 = low)) : (a2, b2) = lvS X Y K n m (a, b) pl := by
  unfold lvS
  rw [← ht, ← hl]
  rcases h with ⟨h1, e1, e2⟩ | ⟨h1, h2, e1, e2⟩ | ⟨h1, h2, e1, e2⟩ <;> rw [e1, e2]
  · exact (if_neg (show ¬ (0 < low ∧ 0 < top * b - a * low) from by omega)).symm
  · have := sgn_le h2; exact (if_neg (show ¬ (0 < low ∧ 0 < top * b - a * low) from by omega)).symm
  · have := sgn_gt h2; exact (if_pos (show 0 < low ∧ 0 < top * b - a * low from by omega)).symm
theorem fs_step {M8 X : Nat → Nat → Int} {K : Nat → Bool} {n m j c : Nat} {pl : List Nat} {x : Int} (h : ∀ a b, (a < j ∨ (a = j ∧ b < c)) → b < m → M8 a b = szM X K n pl a b) (hx : x = X (nthK K n (pl.getD j 0)) c) : ∀ a b, (a < j ∨ (a = j ∧ b < c + 1)) → b < m → up2 M8 j c x a b = szM X K n pl a b := by
  intro a b h1 hb
  by_cases e : a = j ∧ b = c
  · obtain ⟨rfl, rfl⟩ := e; rw [up2_s, hx]; rfl
  · rw [up2_n _ _ e]; exact h a b (by omega) hb
theorem lv_step {M3 X : Nat → Nat → Int} {K : Nat → Bool} {n m nn sk j c : Nat} {pl : List Nat} {x : Int} (h : ∀ r c9, (r < nn ∨ (r = nn ∧ c9 < c)) → c9 < m → M3 r c9 = lvX X K n pl sk r c9) (hj : j = lvR sk nn) (hx : x = X (nthK K n (pl.getD j 0)) c) : ∀ r c9, (r < nn ∨ (r = nn ∧ c9 < c + 1)) → c9 < m → up2 M3 nn c x r c9 = lvX X K n pl sk r c9 := by
  intro r c9 h1 hc
  by_cases e : r = nn ∧ c9 = c
  · obtain ⟨rfl, rfl⟩ := e; rw [up2_s, hx, hj]; rfl
  · rw [up2_n _ _ e]; exact h r c9 (by omega) hc
theorem fs_no {v : Bool} {A B : Prop} (h : (v = false ∧ A) ∨ (v = true ∧ B)) (hv : v = false) : A := by
  rcases h with h | h
  · exact h.2
  · rw [h.1] at hv; cases hv
