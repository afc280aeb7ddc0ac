/-! pure: a choice of independent rows; what sizes tells -/
section IN9
variable {X : Nat → Int} {x : Nat → Nat → Int} {Y A B C T W9 : Nat → Int} {K : Nat → Bool} {m n : Nat}
def dt3 (x : Nat → Nat → Int) (r s t : Nat) : Int := Dt (x t) (x r 1 * x s 2 - x r 2 * x s 1) (x r 2 * x s 0 - x r 0 * x s 2) (x r 0 * x s 1 - x r 1 * x s 0)
theorem dt3_a (r s t : Nat) : dt3 x s r t = -dt3 x r s t := by unfold dt3 Dt; grind
theorem dt3_b (r s t : Nat) : dt3 x r t s = -dt3 x r s t := by unfold dt3 Dt; grind
theorem dt3_rr (r t : Nat) : dt3 x r r t = 0 := by unfold dt3 Dt; grind
theorem dt3_rt (r s : Nat) : dt3 x r s r = 0 := by unfold dt3 Dt; grind
theorem dt3_st (r s : Nat) : dt3 x r s s = 0 := by unfold dt3 Dt; grind
theorem pl1 {r : Nat} (hr : r < n ∧ K r = true) : PlOk K n [cntK K r] := ⟨by simp, fun i hi => by
  have : i = 0 := by simp at hi; exact hi
  subst this; exact cnt_lt K hr.1 hr.2⟩
theorem pl2 {r s : Nat} (hr : r < n ∧ K r = true) (hs : s < n ∧ K s = true) (h : r < s) : PlOk K n [cntK K r, cntK K s] := by
  have h1 := cnt_lt K h hr.2
  have h2 := cnt_lt K hs.1 hs.2
  refine ⟨by simp; exact h1, fun i hi => ?_⟩
  have : i = 0 ∨ i = 1 := by simp at hi; omega
  rcases this with rfl | rfl
  · show cntK K r < _; omega
  · exact h2
theorem pl3' {r s t : Nat} (hr : r < n ∧ K r = true) (hs : s < n ∧ K s = true) (ht : t < n ∧ K t = true) (h : r < s) (h' : s < t) : PlOk K n [cntK K r, cntK K s, cntK K t] := by
  have h1 := cnt_lt K h hr.2
  have h2 := cnt_lt K h' hs.2
  have h3 := cnt_lt K ht.1 ht.2
  refine ⟨by simp; omega, fun i hi => ?_⟩
  have : i = 0 ∨ i = 1 ∨ i = 2 := by simp at hi; omega
  rcases this with rfl | rfl | rfl
  · show cntK K r < _; omega
  · show cntK K s < _; omega
  · exact h3
theorem tri {r s t : Nat} (hr : r < n ∧ K r = true) (hs : s < n ∧ K s = true) (ht : t < n ∧ K t = true) (h : r < s) (h' : s < t) (hd : dt3 x r s t ≠ 0) : ∃ pl, PlOk K n pl ∧ pl.length = 3 ∧ detM (szM x K n pl) 3 ≠ 0 := by
  refine ⟨_, pl3' hr hs ht h h', rfl, fun q => hd ?_⟩
  rw [← q]
  have e0 : szM x K n [cntK K r, cntK K s, cntK K t] 0 = x r := by funext c; show x (nthK K n (cntK K r)) c = _; rw [nth_cnt K hr.1 hr.2]
  have e1 : szM x K n [cntK K r, cntK K s, cntK K t] 1 = x s := by funext c; show x (nthK K n (cntK K s)) c = _; rw [nth_cnt K hs.1 hs.2]
  have e2 : szM x K n [cntK K r, cntK K s, cntK K t] 2 = x t := by funext c; show x (nthK K n (cntK K t)) c = _; rw [nth_cnt K ht.1 ht.2]
  simp [detM, minM, r1, r2, e0, e1, e2]
  unfold dt3 Dt; grind
theorem indep (ht : TabR X x Y m n) (hd : detM (gmA x K n) m ≠ 0) : ∃ pl, PlOk K n pl ∧ pl.length = m ∧ detM (szM x K n pl) m ≠ 0 := by
  have gs := (gram (x := x) (K := K) (n := n)).1
  have hm := ht.1
  match m, hm with
  | 1, _ =>
    obtain ⟨r, hr, hk, hx⟩ := rows1 (x := x) (K := K) (n := n) (by simpa [detM] using hd)
    refine ⟨_, pl1 ⟨hr, hk⟩, rfl, ?_⟩
    show x (nthK K n (cntK K r)) 0 ≠ 0
    rw [nth_cnt K hr hk]; exact hx
  | 2, _ =>
    obtain ⟨r, s, hr, hs, hx⟩ := rows2 (x := x) (K := K) (n := n) (by rw [← det2_p gs]; exact hd) (fun r hr => ht.2.2.2 r hr 2 (by omega) (by omega))
    rcases Nat.lt_trichotomy r s with h | h | h
    · refine ⟨_, pl2 hr hs h, rfl, ?_⟩
      show x (nthK K n (cntK K r)) 0 * x (nthK K n (cntK K s)) 1 - x (nthK K n (cntK K r)) 1 * x (nthK K n (cntK K s)) 0 ≠ 0
      rw [nth_cnt K hr.1 hr.2, nth_cnt K hs.1 hs.2]; exact hx
    · subst h; exfalso; apply hx; grind
    · refine ⟨_, pl2 hs hr h, rfl, ?_⟩
      show x (nthK K n (cntK K s)) 0 * x (nthK K n (cntK K r)) 1 - x (nthK K n (cntK K s)) 1 * x (nthK K n (cntK K r)) 0 ≠ 0
      rw [nth_cnt K hr.1 hr.2, nth_cnt K hs.1 hs.2]; intro q; apply hx; grind
  | 3, _ =>
    obtain ⟨r, s, t, hr, hs, htt, hx⟩ := rows3 (x := x) (K := K) (n := n) (by rw [← det3_q gs]; exact hd)
    have hx' : dt3 x r s t ≠ 0 := hx
    have n1 : r ≠ s := fun e => hx' (by rw [e]; exact dt3_rr s t)
    have n2 : r ≠ t := fun e => hx' (by rw [e]; exact dt3_rt t s)
    have n3 : s ≠ t := fun e => hx' (by rw [e]; exact dt3_st r t)
    have a1 := dt3_a (x := x) r s t; have b1 := dt3_b (x := x) r s t
    have a2 := dt3_a (x := x) r t s; have b2 := dt3_b (x := x) s r t
    have a3 := dt3_a (x := x) s t r
    rcases Nat.lt_or_ge r s with h1 | h1
    · rcases Nat.lt_or_ge s t with h2 | h2
      · exact tri hr hs htt h1 h2 hx'
      · rcases Nat.lt_or_ge r t with h3 | h3
        · exact tri hr htt hs h3 (by omega) (by omega)
        · exact tri htt hr hs (by omega) h1 (by omega)
    · rcases Nat.lt_or_ge r t with h2 | h2
      · exact tri hs hr htt (by omega) h2 (by omega)
      · rcases Nat.lt_or_ge s t with h3 | h3
        · exact tri hs htt hr h3 (by omega) (by omega)
        · exact tri htt hs hr (by omega) (by omega) (by omega)
theorem PlOk.mem {pl : List Nat} (h : PlOk K n pl) : ∀ y ∈ pl, y < cntK K n := fun y hy => by
  obtain ⟨i, hi, e⟩ := List.getElem_of_mem hy
  have := h.2 i hi
  simp [List.getD_eq_getElem?_getD, hi] at this
  rw [← e]; exact this
theorem szG_ne {d sm : List Nat → Int} {nu : List Nat → Nat → Int} {q : List Nat} (hq : d q ≠ 0) (a : SzA) : (szG d sm nu a q).2.1 ≠ 0 := by
  unfold szG; rw [if_neg hq]
  split
  · exact hq
  · rename_i h; exact fun e => h (Or.inl e)
theorem szG_keep {d sm : List Nat → Int} {nu : List Nat → Nat → Int} (a : SzA) (p : List Nat) (h : a.2.1 ≠ 0) : (szG d sm nu a p).2.1 ≠ 0 := by
  unfold szG
  split
  · exact h
  · split
    · assumption
    · exact h
/-- the fold of sizes is not empty where the form is whole -/
theorem sz_ne (h : PoOk X Y K n A B C T W9 ((cntK K n : Nat) : Int)) (ht : TabR X x Y m n) (hd : detM (gmA x K n) m ≠ 0) (f0 f1 f2 : Int) : m ≤ cntK K n ∧ (itr (cntK K n) (szG (szd A B C (cntK K n)) (szt A B C T (cntK K n)) (szn A B C T (cntK K n))) 10000 (List.range m) (0, 0, f0, f1, f2)).2.1 ≠ 0 := by
  have hmz := det_rows ht.1 hd
  refine ⟨hmz, ?_⟩
  obtain ⟨pl, hp, hl, hq⟩ := indep ht hd
  have hs := SzH.of h ht pl hp hl
  have hz : cntK K n ≤ 24 := by have := cnt_le K n; have := ht.2.1; omega
  exact itr_all (fun a : SzA => a.2.1 ≠ 0) hmz (mu_3 hmz hz ht.1.2) hl hp.1 hp.mem (fun a => szG_ne (fun e => hq (hs.2.1.mpr e)) a) (fun a p => szG_keep a p) _
theorem szAll_eq (hmz : m ≤ cntK K n) (f0 f1 f2 : Int) : szAll A B C T (cntK K n) m f0 f1 f2 = itr (cntK K n) (szG (szd A B C (cntK K n)) (szt A B C T (cntK K n)) (szn A B C T (cntK K n))) 10000 (List.range m) (0, 0, f0, f1, f2) := by
  unfold szAll; rw [if_pos hmz, szStep_G]
/-- the class's own bounds of sizes -/
theorem itr_keep {α : Type} {z : Nat} {step : α → List Nat → α} (P : α → Prop) (Q : List Nat → Prop) (hk : ∀ a p, Q p → P a → P (step a p)) (hQ : ∀ p p', Q p → adv z p = some p' → Q p') : ∀ N p a, Q p → P a → P (itr z step N p a)
  | 0, p, a, _, h => h
  | N + 1, p, a, hq, h => by
    show P (match adv z p with | none => step a p | some p' => itr z step N p' (step a p))
    cases e : adv z p with
    | none => exact hk a p hq h
    | some p' => exact itr_keep P Q hk hQ N p' _ (hQ p p' hq e) (hk a p hq h)
def QpL (z k : Nat) (p : List Nat) : Prop := p.length = k ∧ ∀ y ∈ p, y < z
theorem qp_adv {z : Nat} : ∀ {p p' : List Nat}, adv z p = some p' → (∀ y ∈ p, y < z) → ∀ y ∈ p', y < z
  | [], p', h, _ => by cases h
  | a :: xs, p', h, hb => by
    have h' : (match adv z xs with | some ys => some (a :: ys) | none => if a + (xs.length + 1) < z then some (List.range' (a + 1) (xs.length + 1)) else none) = some p' := h
    cases e : adv z xs with
    | some ys =>
      rw [e] at h'
      have h2 : a :: ys = p' := Option.some.inj h'
      rw [← h2]
      intro y hy
      rcases List.mem_cons.mp hy with rfl | hy
      · exact hb _ (List.mem_cons_self ..)
      · exact qp_adv e (fun y hy => hb y (List.mem_cons_of_mem _ hy)) y hy
    | none =>
      rw [e] at h'
      have h3 : (if a + (xs.length + 1) < z then some (List.range' (a + 1) (xs.length + 1)) else none) = some p' := h'
      split at h3
      · rw [← Option.some.inj h3]; intro y hy
        have h9 : a + 1 ≤ y ∧ y < a + 1 + (xs.length + 1) := List.mem_range'_1.mp hy
        omega
      · cases h3
theorem sz_bd (h : PoOk X Y K n A B C T W9 ((cntK K n : Nat) : Int)) (ht : TabR X x Y m n) (hmz : m ≤ cntK K n) (f0 f1 f2 : Int) : (szAll A B C T (cntK K n) m f0 f1 f2).2.1 = 0 ∨ (B63 (szAll A B C T (cntK K n) m f0 f1 f2).1 ∧ B63 (szAll A B C T (cntK K n) m f0 f1 f2).2.1 ∧ B63 (szAll A B C T (cntK K n) m f0 f1 f2).2.2.1 ∧ B63 (szAll A B C T (cntK K n) m f0 f1 f2).2.2.2.1 ∧ B63 (szAll A B C T (cntK K n) m f0 f1 f2).2.2.2.2) := by
  have hb := h.plb ht.tb
  have hz : cntK K n ≤ 24 := by have := cnt_le K n; have := ht.2.1; omega
  have hm := ht.1
  unfold szAll; rw [if_pos hmz]
  refine itr_keep (fun a : SzA => a.2.1 = 0 ∨ (B63 a.1 ∧ B63 a.2.1 ∧ B63 a.2.2.1 ∧ B63 a.2.2.2.1 ∧ B63 a.2.2.2.2)) (QpL (cntK K n) m) (fun a p hq ha => ?_) (fun p p' hq e => ⟨by rw [adv_len e]; exact hq.1, qp_adv e hq.2⟩) 10000 _ _ ⟨by simp, fun y hy => by have := List.mem_range.mp hy; omega⟩ (Or.inl rfl)
  have pl3 : ∀ i, i < 3 → plc p (cntK K n) i < cntK K n + 2 := fun i hi => by
    unfold plc; split
    · rename_i hi2
      have : p.getD i 0 ∈ p := by rw [List.getD_eq_getElem?_getD]; simp [hi2]
      have := hq.2 _ this; omega
    · have := hq.1; omega
  have db := dv_bd hb (pl3 0 (by omega)) (pl3 1 (by omega)) (pl3 2 (by omega))
  have nb := nu_SzB (x := _) (y := _) (w := _) (d := _) hb (pl3 0 (by omega)) (pl3 1 (by omega)) (pl3 2 (by omega)) rfl ⟨rfl, rfl, rfl⟩
  have sb := sum_bd hb nb (show cntK K n ≤ cntK K n + 2 by omega)
  obtain ⟨n1, n2, n3, n4⟩ := nb
  show (szStep A B C T (cntK K n) a p).2.1 = 0 ∨ _
  unfold szStep
  simp only
  split
  · exact ha
  · split
    · right
      have s1 : ∀ d v : Int, (-48114 ≤ v ∧ v ≤ 48114) → B63 (sgD d * v) := fun d v hv => by unfold sgD B63; split <;> omega
      exact ⟨by show B63 (sumA _ _ _ _ _ _ _ _ _); unfold B63; omega, by show B63 ((_ : Nat) : Int); unfold B63; omega, s1 _ _ n1, s1 _ _ n2, s1 _ _ n3⟩
    · exact ha
theorem szC_eq (t b : Int) (f : Nat → Int) {a : SzA} (h : (t, b, f 0, f 1, f 2) = a) {c : Nat} (hc : c < 3) : szC a c = f c := by
  rw [← h]; exact szC_3 (nu := f) hc
end IN9
