/-! pure: level -/
theorem itr_all2 {α : Type} {z k N : Nat} {step : α → List Nat → α} (J P : α → Prop) {q : List Nat} (hkz : k ≤ z) (hN : mu z (List.range k) < N) (hl : q.length = k) (hr : q.Pairwise (· < ·)) (hb : ∀ y ∈ q, y < z) (hJ : ∀ a p, J a → J (step a p)) (hq : ∀ a, J a → P (step a q)) (hk : ∀ a p, J a → P a → P (step a p)) {a : α} (ha : J a) : P (itr z step N (List.range k) a) := by
  have stay : ∀ N p a, J a → P a → P (itr z step N p a) := by
    intro N
    induction N with
    | zero => intro p a _ h; exact h
    | succ N ih =>
      intro p a hj h
      show P (match adv z p with | none => step a p | some p' => itr z step N p' (step a p))
      cases adv z p with
      | none => exact hk a p hj h
      | some p' => exact ih p' _ (hJ a p hj) (hk a p hj h)
  have go : ∀ (i N : Nat) (p : List Nat) (a : α), i < N → advN z i p = some q → J a → P (itr z step N p a) := by
    intro i
    induction i with
    | zero =>
      intro N p a hN h hj
      have : p = q := Option.some.inj h
      subst this
      obtain ⟨M, rfl⟩ : ∃ M, N = M + 1 := ⟨N - 1, by omega⟩
      show P (match adv z p with | none => step a p | some p' => itr z step M p' (step a p))
      cases adv z p with
      | none => exact hq a hj
      | some p' => exact stay M p' _ (hJ a p hj) (hq a hj)
    | succ i ih =>
      intro N p a hN h hj
      obtain ⟨M, rfl⟩ : ∃ M, N = M + 1 := ⟨N - 1, by omega⟩
      have h' : (match adv z p with | none => none | some p' => advN z i p') = some q := h
      show P (match adv z p with | none => step a p | some p' => itr z step M p' (step a p))
      cases e : adv z p with
      | none => rw [e] at h'; cases h'
      | some p' => rw [e] at h'; exact ih M p' _ (by omega) h' (hJ a p hj)
  obtain ⟨i, hi⟩ := visit (z := z) k 0 q hl hr (fun y hy => ⟨Nat.zero_le _, hb y hy⟩)
  rw [← List.range_eq_range'] at hi
  have := mu_advN i hi
  exact go i N _ a (by omega) hi ha
theorem adv_mem {z : Nat} {K : Nat → Bool} {n : Nat} (hz : z = cntK K n) {p p' : List Nat} (h : PlOk K n p) (e : adv z p = some p') : PlOk K n p' ∧ p'.length = p.length := by
  subst hz
  refine ⟨⟨(adv_ris e h.1).1, fun i hi => ?_⟩, adv_len e⟩
  have hm := qp_adv e h.mem
  exact hm _ (by rw [List.getD_eq_getElem?_getD]; simp [hi])
theorem range_pl {K : Nat → Bool} {n k : Nat} (h : k ≤ cntK K n) : PlOk K n (List.range k) := ⟨ris_range k, fun i hi => by
  have hi' : i < k := by simpa using hi
  simp [List.getD_eq_getElem?_getD, List.getElem?_range hi']; omega⟩
section LV10
variable {X : Nat → Int} {x : Nat → Nat → Int} {Y A B C T W9 : Nat → Int} {K : Nat → Bool} {m n : Nat}
/-- a choice of one row more than there are columns, as the class and as the reference have it -/
theorem lv_q (h : PoOk X Y K n A B C T W9 ((cntK K n : Nat) : Int)) (ht : TabR X x Y m n) {i j k l : Nat} {pl : List Nat} (hpl : (m = 1 ∧ pl = [i, j] ∧ j < cntK K n ∧ k = cntK K n ∧ l = cntK K n + 1) ∨ (m = 2 ∧ pl = [i, j, k] ∧ k < cntK K n ∧ l = cntK K n) ∨ (m = 3 ∧ pl = [i, j, k, l] ∧ l < cntK K n)) (hij : i < j) (hjk : j < k) (hkl : k < l) : lvT A B C T i j k l = ((lvTo x Y K n m pl (m + 1)).natAbs : Int) ∧ lvB A B C i j k l = lvLo x K n m pl (m + 1) := by
  obtain ⟨-, tie, -⟩ := id h
  obtain ⟨⟨t1, t2, t3, t4⟩, t5, t6, t7, t8⟩ := tie
  have pat : ∀ j, j < cntK K n → A j = x (nthK K n j) 0 ∧ B j = x (nthK K n j) 1 ∧ C j = x (nthK K n j) 2 ∧ T j = Y (nthK K n j) := fun j hj => h.at ht hj
  have zc : ∀ j, j < cntK K n → ∀ c, m ≤ c → c < 3 → x (nthK K n j) c = 0 := fun j hj c h1 h2 => ht.2.2.2 _ (nth_ok hj).1 c h1 h2
  rcases hpl with ⟨rfl, rfl, hj, rfl, rfl⟩ | ⟨rfl, rfl, hk, rfl⟩ | ⟨rfl, rfl, hl⟩
  · obtain ⟨a1, a2, a3, a4⟩ := pat i (by omega)
    obtain ⟨b1, b2, b3, b4⟩ := pat j hj
    have z1 := zc i (by omega) 1 (by omega) (by omega); have z2 := zc i (by omega) 2 (by omega) (by omega)
    have y1 := zc j hj 1 (by omega) (by omega); have y2 := zc j hj 2 (by omega) (by omega)
    rw [z1] at a2; rw [z2] at a3; rw [y1] at b2; rw [y2] at b3
    have d0 : dvZ A B C j (cntK K n) (cntK K n + 1) = -x (nthK K n j) 0 := by unfold dvZ; simp only [t1, t2, t3, t5, t6, t7, b1, b2, b3]; simp
    have d1 : dvZ A B C i (cntK K n) (cntK K n + 1) = -x (nthK K n i) 0 := by unfold dvZ; simp only [t1, t2, t3, t5, t6, t7, a1, a2, a3]; simp
    have d2 : dvZ A B C i j (cntK K n + 1) = 0 := by unfold dvZ; simp only [t5, t6, t7, a1, a2, a3, b1, b2, b3]; simp
    have d3 : dvZ A B C i j (cntK K n) = 0 := by unfold dvZ; simp only [t1, t2, t3, a1, a2, a3, b1, b2, b3]; simp
    unfold lvT lvB
    rw [d0, d1, d2, d3, a4, b4]
    have e0 : lvDt x K n 1 [i, j] 0 = x (nthK K n j) 0 := by simp [lvDt, detM, lvX, lvR]
    have e1 : lvDt x K n 1 [i, j] 1 = x (nthK K n i) 0 := by simp [lvDt, detM, lvX, lvR]
    simp only [lvTo, lvLo, e0, e1]
    refine ⟨?_, ?_⟩
    · simp
      rw [← Int.natAbs_neg]; congr 1; grind
    · simp
  · obtain ⟨a1, a2, a3, a4⟩ := pat i (by omega)
    obtain ⟨b1, b2, b3, b4⟩ := pat j (by omega)
    obtain ⟨c1, c2, c3, c4⟩ := pat k hk
    rw [zc i (by omega) 2 (by omega) (by omega)] at a3; rw [zc j (by omega) 2 (by omega) (by omega)] at b3; rw [zc k hk 2 (by omega) (by omega)] at c3
    have d0 : dvZ A B C j k (cntK K n) = x (nthK K n j) 0 * x (nthK K n k) 1 - x (nthK K n j) 1 * x (nthK K n k) 0 := by unfold dvZ; simp only [t1, t2, t3, b1, b2, b3, c1, c2, c3]; simp; grind
    have d1 : dvZ A B C i k (cntK K n) = x (nthK K n i) 0 * x (nthK K n k) 1 - x (nthK K n i) 1 * x (nthK K n k) 0 := by unfold dvZ; simp only [t1, t2, t3, a1, a2, a3, c1, c2, c3]; simp; grind
    have d2 : dvZ A B C i j (cntK K n) = x (nthK K n i) 0 * x (nthK K n j) 1 - x (nthK K n i) 1 * x (nthK K n j) 0 := by unfold dvZ; simp only [t1, t2, t3, a1, a2, a3, b1, b2, b3]; simp; grind
    have d3 : dvZ A B C i j k = 0 := by unfold dvZ; simp only [a3, b3, c3]; simp
    have e0 : lvDt x K n 2 [i, j, k] 0 = x (nthK K n j) 0 * x (nthK K n k) 1 - x (nthK K n j) 1 * x (nthK K n k) 0 := by simp [lvDt, detM, lvX, lvR]
    have e1 : lvDt x K n 2 [i, j, k] 1 = x (nthK K n i) 0 * x (nthK K n k) 1 - x (nthK K n i) 1 * x (nthK K n k) 0 := by simp [lvDt, detM, lvX, lvR]
    have e2 : lvDt x K n 2 [i, j, k] 2 = x (nthK K n i) 0 * x (nthK K n j) 1 - x (nthK K n i) 1 * x (nthK K n j) 0 := by simp [lvDt, detM, lvX, lvR]
    unfold lvT lvB
    simp only [lvTo, lvLo, e0, e1, e2]
    rw [d0, d1, d2, d3, a4, b4, c4]
    refine ⟨?_, ?_⟩
    · simp
      congr 1; grind
    · simp
  · obtain ⟨a1, a2, a3, a4⟩ := pat i (by omega)
    obtain ⟨b1, b2, b3, b4⟩ := pat j (by omega)
    obtain ⟨c1, c2, c3, c4⟩ := pat k (by omega)
    obtain ⟨f1, f2, f3, f4⟩ := pat l hl
    have d0 : dvZ A B C j k l = lvDt x K n 3 [i, j, k, l] 0 := by unfold dvZ; simp only [b1, b2, b3, c1, c2, c3, f1, f2, f3]; simp [lvDt, detM, minM, r1, r2, lvX, lvR]; grind
    have d1 : dvZ A B C i k l = lvDt x K n 3 [i, j, k, l] 1 := by unfold dvZ; simp only [a1, a2, a3, c1, c2, c3, f1, f2, f3]; simp [lvDt, detM, minM, r1, r2, lvX, lvR]; grind
    have d2 : dvZ A B C i j l = lvDt x K n 3 [i, j, k, l] 2 := by unfold dvZ; simp only [a1, a2, a3, b1, b2, b3, f1, f2, f3]; simp [lvDt, detM, minM, r1, r2, lvX, lvR]; grind
    have d3 : dvZ A B C i j k = lvDt x K n 3 [i, j, k, l] 3 := by unfold dvZ; simp only [a1, a2, a3, b1, b2, b3, c1, c2, c3]; simp [lvDt, detM, minM, r1, r2, lvX, lvR]; grind
    unfold lvT lvB
    simp only [lvTo, lvLo]
    rw [d0, d1, d2, d3, a4, b4, c4, f4]
    refine ⟨?_, ?_⟩
    · simp
      congr 1; grind
    · simp
theorem lv_of_pl {pl : List Nat} (hm : 1 ≤ m ∧ m ≤ 3) (hp : PlOk K n pl) (hl : pl.length = m + 1) : ∃ i j k l, LvD m (cntK K n) i j k l ∧ ((m = 1 ∧ pl = [i, j] ∧ j < cntK K n ∧ k = cntK K n ∧ l = cntK K n + 1) ∨ (m = 2 ∧ pl = [i, j, k] ∧ k < cntK K n ∧ l = cntK K n) ∨ (m = 3 ∧ pl = [i, j, k, l] ∧ l < cntK K n)) := by
  match m, hm, pl, hl with
  | 1, _, [i, j], _ =>
    have h1 : i < j := ris_at hp.1 (i := 0) (j := 1) (by omega) (by simp)
    have h2 : j < cntK K n := hp.2 1 (by simp)
    exact ⟨i, j, cntK K n, cntK K n + 1, ⟨h1, h2, by omega, by omega, fun _ => by omega, fun _ => rfl⟩, Or.inl ⟨rfl, rfl, h2, rfl, rfl⟩⟩
  | 2, _, [i, j, k], _ =>
    have h1 : i < j := ris_at hp.1 (i := 0) (j := 1) (by omega) (by simp)
    have h2 : j < k := ris_at hp.1 (i := 1) (j := 2) (by omega) (by simp)
    have h3 : k < cntK K n := hp.2 2 (by simp)
    exact ⟨i, j, k, cntK K n, ⟨h1, h2, h3, by omega, fun _ => by omega, fun _ => by omega⟩, Or.inr (Or.inl ⟨rfl, rfl, h3, rfl⟩)⟩
  | 3, _, [i, j, k, l], _ =>
    have h1 : i < j := ris_at hp.1 (i := 0) (j := 1) (by omega) (by simp)
    have h2 : j < k := ris_at hp.1 (i := 1) (j := 2) (by omega) (by simp)
    have h3 : k < l := ris_at hp.1 (i := 2) (j := 3) (by omega) (by simp)
    have h4 : l < cntK K n := hp.2 3 (by simp)
    exact ⟨i, j, k, l, ⟨h1, h2, h3, by omega, fun _ => by omega, fun _ => by omega⟩, Or.inr (Or.inr ⟨rfl, rfl, h4⟩)⟩
theorem pl_of_lv {i j k l : Nat} (hm : 1 ≤ m ∧ m ≤ 3) (h : LvD m (cntK K n) i j k l) : ∃ pl, PlOk K n pl ∧ pl.length = m + 1 ∧ ((m = 1 ∧ pl = [i, j] ∧ j < cntK K n ∧ k = cntK K n ∧ l = cntK K n + 1) ∨ (m = 2 ∧ pl = [i, j, k] ∧ k < cntK K n ∧ l = cntK K n) ∨ (m = 3 ∧ pl = [i, j, k, l] ∧ l < cntK K n)) := by
  obtain ⟨h1, h2, h3, h4, h5, h6⟩ := h
  match m, hm with
  | 1, _ =>
    have e1 := h5 (by omega); have e2 := h6 (by omega)
    refine ⟨[i, j], ⟨by simp; exact h1, fun a ha => ?_⟩, rfl, Or.inl ⟨rfl, rfl, by omega, e2, by omega⟩⟩
    rcases (show a = 0 ∨ a = 1 by simp at ha; omega) with rfl | rfl
    · show i < _; omega
    · show j < _; omega
  | 2, _ =>
    have e1 := h5 (by omega)
    refine ⟨[i, j, k], ⟨by simp; omega, fun a ha => ?_⟩, rfl, Or.inr (Or.inl ⟨rfl, rfl, by omega, by omega⟩)⟩
    rcases (show a = 0 ∨ a = 1 ∨ a = 2 by simp at ha; omega) with rfl | rfl | rfl
    · show i < _; omega
    · show j < _; omega
    · show k < _; omega
  | 3, _ =>
    refine ⟨[i, j, k, l], ⟨by simp; omega, fun a ha => ?_⟩, rfl, Or.inr (Or.inr ⟨rfl, rfl, by omega⟩)⟩
    rcases (show a = 0 ∨ a = 1 ∨ a = 2 ∨ a = 3 by simp at ha; omega) with rfl | rfl | rfl | rfl
    · show i < _; omega
    · show j < _; omega
    · show k < _; omega
    · show l < _; omega
theorem lo_nn (pl : List Nat) : ∀ s, 0 ≤ lvLo x K n m pl s
  | 0 => Int.le_refl _
  | s + 1 => by have := lo_nn pl s; show 0 ≤ lvLo x K n m pl s + _; omega
theorem fr_tr {a b c d e f : Int} (hb : 0 < b) (hd : 0 < d) (hf : 0 < f) (h1 : a * d ≤ c * b) (h2 : c * f ≤ e * d) : a * f ≤ e * b := by
  have e1 : (e * b - a * f) * d = (e * d - c * f) * b + (c * b - a * d) * f := by grind
  have h3 := Int.mul_nonneg (show 0 ≤ e * d - c * f by omega) (Int.le_of_lt hb)
  have h4 := Int.mul_nonneg (show 0 ≤ c * b - a * d by omega) (Int.le_of_lt hf)
  have h5 : 0 ≤ d * (e * b - a * f) := by rw [Int.mul_comm, e1]; omega
  have := nn_of_mul hd h5
  omega
theorem lvAll_ok (ht : TabR X x Y m n) : (0 ≤ (lvAll x Y K n m).1 ∧ 0 < (lvAll x Y K n m).2) ∧ (∀ pl, PlOk K n pl → pl.length = m + 1 → ((lvTo x Y K n m pl (m + 1)).natAbs : Int) * (lvAll x Y K n m).2 ≤ (lvAll x Y K n m).1 * lvLo x K n m pl (m + 1)) ∧ (lvAll x Y K n m = (0, 1) ∨ ∃ pl, PlOk K n pl ∧ pl.length = m + 1 ∧ lvAll x Y K n m = (((lvTo x Y K n m pl (m + 1)).natAbs : Int), lvLo x K n m pl (m + 1)) ∧ 0 < lvLo x K n m pl (m + 1)) := by
  have hz : cntK K n ≤ 24 := by have := cnt_le K n; have := ht.2.1; omega
  have tz : ∀ pl, lvLo x K n m pl (m + 1) = 0 → lvTo x Y K n m pl (m + 1) = 0 := fun pl e => by
    have key : ∀ s, lvLo x K n m pl s = 0 → lvTo x Y K n m pl s = 0 := by
      intro s
      induction s with
      | zero => intro _; rfl
      | succ s ih =>
        intro h
        have h' : lvLo x K n m pl s + ((lvDt x K n m pl s).natAbs : Int) = 0 := h
        have l0 := lo_nn (x := x) (K := K) (n := n) (m := m) pl s
        have e1 : lvDt x K n m pl s = 0 := by omega
        show lvTo x Y K n m pl s + _ = 0
        rw [ih (by omega), e1]; simp
    exact key _ e
  by_cases hc : m + 1 ≤ cntK K n
  · have e : lvAll x Y K n m = itr (cntK K n) (lvS x Y K n m) 20000 (List.range (m + 1)) (0, 1) := by unfold lvAll; rw [if_pos hc]
    have J : ∀ a p, (0 ≤ a.1 ∧ 0 < a.2) → (0 ≤ (lvS x Y K n m a p).1 ∧ 0 < (lvS x Y K n m a p).2) := fun a p h => by
      unfold lvS; split
      · rename_i q; exact ⟨by show 0 ≤ ((_ : Nat) : Int); omega, q.1⟩
      · exact h
    refine ⟨?_, fun pl hp hl => ?_, ?_⟩
    · rw [e]
      exact itr_keep (fun a : Int × Int => 0 ≤ a.1 ∧ 0 < a.2) (fun _ => True) (fun a p _ h => J a p h) (fun _ _ _ _ => trivial) 20000 _ _ trivial ⟨by decide, by decide⟩
    · rw [e]
      by_cases l0 : lvLo x K n m pl (m + 1) = 0
      · rw [l0, tz pl l0]; simp
      · have l1 := lo_nn (x := x) (K := K) (n := n) (m := m) pl (m + 1)
        refine itr_all2 (fun a : Int × Int => 0 ≤ a.1 ∧ 0 < a.2) (fun a : Int × Int => ((lvTo x Y K n m pl (m + 1)).natAbs : Int) * a.2 ≤ a.1 * lvLo x K n m pl (m + 1)) hc (mu_24 hc hz (by have := ht.1; omega)) hl hp.1 hp.mem J (fun a ha => ?_) (fun a p ha hP => ?_) ⟨by decide, by decide⟩
        · unfold lvS; split
          · exact Int.le_refl _
          · rename_i q; omega
        · show _ * (lvS x Y K n m a p).2 ≤ (lvS x Y K n m a p).1 * _
          unfold lvS; split
          · rename_i q
            exact fr_tr (show 0 < lvLo x K n m pl (m + 1) by omega) ha.2 q.1 hP (show a.1 * lvLo x K n m p (m + 1) ≤ ((lvTo x Y K n m p (m + 1)).natAbs : Int) * a.2 by have q2 := q.2; omega)
          · exact hP
    · rw [e]
      refine itr_keep (fun a : Int × Int => a = (0, 1) ∨ ∃ pl, PlOk K n pl ∧ pl.length = m + 1 ∧ a = (((lvTo x Y K n m pl (m + 1)).natAbs : Int), lvLo x K n m pl (m + 1)) ∧ 0 < lvLo x K n m pl (m + 1)) (fun p => PlOk K n p ∧ p.length = m + 1) (fun a p hq h => ?_) (fun p p' hq e => ⟨(adv_mem rfl hq.1 e).1, by rw [(adv_mem rfl hq.1 e).2]; exact hq.2⟩) 20000 _ _ ⟨range_pl hc, by simp⟩ (Or.inl rfl)
      show lvS x Y K n m a p = (0, 1) ∨ _
      unfold lvS; split
      · rename_i q; exact Or.inr ⟨p, hq.1, hq.2, rfl, q.1⟩
      · exact h
  · have e : lvAll x Y K n m = (0, 1) := by unfold lvAll; rw [if_neg hc]
    rw [e]
    refine ⟨⟨by decide, by decide⟩, fun pl hp hl => ?_, Or.inl rfl⟩
    exfalso
    obtain ⟨i, j, k, l, hd, hh⟩ := lv_of_pl ht.1 hp hl
    obtain ⟨h1, h2, h3, -⟩ := hd
    omega
theorem eq_level (ht : TabR X x Y m n) {t b : Int} (h : LvOk X Y K n m t b) (wh : Int) : tellZ t b wh = tellZ (lvAll x Y K n m).1 (lvAll x Y K n m).2 wh := by
  obtain ⟨A, B, C, T, W, hp, ⟨⟨ht0, -⟩, hb0, -⟩, hmax, hat⟩ := h
  obtain ⟨⟨f0, f1⟩, f2, f3⟩ := lvAll_ok (K := K) ht
  generalize lvAll x Y K n m = F at *
  refine tell_eq (by omega) (by omega) ?_
  have le1 : t * F.2 ≤ F.1 * b := by
    rcases hat with ⟨rfl, rfl⟩ | ⟨i, j, k, l, hd, e1, e2⟩
    · omega
    · obtain ⟨pl, h1, h2, h3⟩ := pl_of_lv ht.1 hd
      have q := lv_q hp ht h3 hd.1 hd.2.1 hd.2.2.1
      rw [e1, e2, q.1, q.2]; exact f2 pl h1 h2
  have le2 : F.1 * b ≤ t * F.2 := by
    rcases f3 with rfl | ⟨pl, h1, h2, h3, h4⟩
    · show 0 * b ≤ t * 1; omega
    · obtain ⟨i, j, k, l, hd, hh⟩ := lv_of_pl ht.1 h1 h2
      have q := lv_q hp ht hh hd.1 hd.2.1 hd.2.2.1
      have := hmax i j k l hd
      rw [h3]
      show ((lvTo x Y K n m pl (m + 1)).natAbs : Int) * b ≤ t * lvLo x K n m pl (m + 1)
      rw [← q.1, ← q.2]; exact this
  omega
end LV10
