/-! how many choices are left: a measure that falls -/
def ch : Nat → Nat → Nat
  | _, 0 => 1
  | 0, _ + 1 => 0
  | n + 1, k + 1 => ch n k + ch n (k + 1)
def mu (z : Nat) : List Nat → Nat
  | [] => 0
  | x :: xs => ch (z - 1 - x) (xs.length + 1) + mu z xs
theorem mu_range' {z : Nat} : ∀ (n s : Nat), s + n ≤ z → mu z (List.range' s n) + 1 = ch (z - s) n
  | 0, s, _ => by cases h : z - s <;> rfl
  | n + 1, s, h => by
    have ih := mu_range' (z := z) n (s + 1) (by omega)
    have e : z - s = (z - 1 - s) + 1 := by omega
    have e2 : z - (s + 1) = z - 1 - s := by omega
    rw [e2] at ih
    rw [List.range'_succ, e]
    show ch (z - 1 - s) ((List.range' (s + 1) n).length + 1) + mu z (List.range' (s + 1) n) + 1 = ch (z - 1 - s) n + ch (z - 1 - s) (n + 1)
    rw [List.length_range']
    omega
theorem adv_len {z : Nat} : ∀ {p p' : List Nat}, adv z p = some p' → p'.length = p.length
  | [], p', h => by cases h
  | x :: xs, p', h => by
    have h' : (match adv z xs with | some ys => some (x :: ys) | none => if x + (xs.length + 1) < z then some (List.range' (x + 1) (xs.length + 1)) else none) = some p' := h
    cases e : adv z xs with
    | some ys =>
      rw [e] at h'
      have h2 : x :: ys = p' := Option.some.inj h'
      rw [← h2]; simp [adv_len e]
    | none =>
      rw [e] at h'
      have h3 : (if x + (xs.length + 1) < z then some (List.range' (x + 1) (xs.length + 1)) else none) = some p' := h'
      split at h3
      · rw [← Option.some.inj h3]; simp
      · cases h3
theorem mu_adv {z : Nat} : ∀ {p p' : List Nat}, adv z p = some p' → mu z p' < mu z p
  | [], p', h => by cases h
  | x :: xs, p', h => by
    have h' : (match adv z xs with | some ys => some (x :: ys) | none => if x + (xs.length + 1) < z then some (List.range' (x + 1) (xs.length + 1)) else none) = some p' := h
    cases e : adv z xs with
    | some ys =>
      rw [e] at h'
      have h2 : x :: ys = p' := Option.some.inj h'
      rw [← h2]
      have ih := mu_adv e
      show ch (z - 1 - x) (ys.length + 1) + mu z ys < ch (z - 1 - x) (xs.length + 1) + mu z xs
      rw [adv_len e]; omega
    | none =>
      rw [e] at h'
      have h3 : (if x + (xs.length + 1) < z then some (List.range' (x + 1) (xs.length + 1)) else none) = some p' := h'
      split at h3
      · rename_i hl
        rw [← Option.some.inj h3]
        have := mu_range' (z := z) (xs.length + 1) (x + 1) (by omega)
        rw [show z - (x + 1) = z - 1 - x by omega] at this
        show _ < ch (z - 1 - x) (xs.length + 1) + mu z xs
        omega
      · cases h3
theorem mu_r {z k : Nat} (h : k ≤ z) : mu z (List.range k) + 1 = ch z k := by
  have := mu_range' (z := z) k 0 (by omega)
  rw [List.range_eq_range']; exact this
theorem mu_24 {z k : Nat} (hk : k ≤ z) (hz : z ≤ 24) (hk3 : k ≤ 4) : mu z (List.range k) < 20000 := by
  have h := mu_r hk
  have d : ∀ z : Fin 25, ∀ k : Fin 5, ch z.val k.val < 20000 := by decide +kernel
  have := d ⟨z, by omega⟩ ⟨k, by omega⟩
  simp at this; omega
theorem mu_3 {z k : Nat} (hk : k ≤ z) (hz : z ≤ 24) (hk3 : k ≤ 3) : mu z (List.range k) < 10000 := by
  have h := mu_r hk
  have d : ∀ z : Fin 25, ∀ k : Fin 4, ch z.val k.val < 10000 := by decide +kernel
  have := d ⟨z, by omega⟩ ⟨k, by omega⟩
  simp at this; omega
theorem mu_10 {z k : Nat} (hk : k ≤ z) (hz : z ≤ 10) : mu z (List.range k) < 10000 := by
  have h := mu_r hk
  have d : ∀ z : Fin 11, ∀ k : Fin 11, ch z.val k.val < 10000 := by decide +kernel
  have := d ⟨z, by omega⟩ ⟨k, by omega⟩
  simp at this; omega
/-- the reference's walk over the choices -/
def ItM {α : Type} (K : Nat → Bool) (n k : Nat) (step : α → List Nat → α) (fin : α) (go : Bool) (N : Nat) (pk : Nat → Int) (acc : α) : Prop := (go = false ∧ fin = acc) ∨ (go = true ∧ ∃ pl, PkN K n k pk pl ∧ pl.Pairwise (· < ·) ∧ mu (cntK K n) pl < N ∧ fin = itr (cntK K n) step N pl acc)
section IM
variable {α : Type} {K : Nat → Bool} {n k N : Nat} {step : α → List Nat → α} {fin : α} {go : Bool} {pk p2 : Nat → Int} {acc : α} {pl : List Nat}
theorem ItM.init (h : (go = true ∧ k ≤ cntK K n ∧ PkN K n k pk (List.range k)) ∨ (go = false ∧ ¬ k ≤ cntK K n)) (hk : k ≤ cntK K n) (hN : mu (cntK K n) (List.range k) < N) : ItM K n k step (itr (cntK K n) step N (List.range k) acc) go N pk acc := by
  rcases h with ⟨h1, -, h2⟩ | h
  · exact Or.inr ⟨h1, _, h2, ris_range k, hN, rfl⟩
  · exact absurd hk h.2
theorem ItM.some (h : ItM K n k step fin go N pk acc) (hg : go = true) : ∃ pl, PkN K n k pk pl ∧ PlOk K n pl ∧ pl.Pairwise (· < ·) ∧ mu (cntK K n) pl < N ∧ fin = itr (cntK K n) step N pl acc := by
  rcases h with h | ⟨-, pl, h1, h2, h3, h4⟩
  · rw [hg] at h; cases h.1
  · exact ⟨pl, h1, ⟨h2, fun i hi => h1.lt (by rw [h1.1] at hi; exact hi)⟩, h2, h3, h4⟩
theorem ItM.out (h : ItM K n k step fin go N pk acc) (hg : go = false) : fin = acc := by
  rcases h with h | h
  · exact h.2
  · rw [hg] at h; cases h.1
theorem ItM.next {v : Bool} (hr : pl.Pairwise (· < ·)) (hN : mu (cntK K n) pl < N) (hf : fin = itr (cntK K n) step N pl acc) (hv : NextR K n k pl v p2) : ItM K n k step fin v (N - 1) p2 (step acc pl) := by
  obtain ⟨M, rfl⟩ : ∃ M, N = M + 1 := ⟨N - 1, by omega⟩
  have hf' : fin = (match adv (cntK K n) pl with | none => step acc pl | Option.some p' => itr (cntK K n) step M p' (step acc pl)) := hf
  rcases hv with ⟨h1, h2⟩ | ⟨h1, pl', h2, h3⟩
  · rw [h2] at hf'; exact Or.inl ⟨h1, hf'⟩
  · rw [h2] at hf'
    have := mu_adv h2
    exact Or.inr ⟨h1, pl', h3, (adv_ris h2 hr).1, by omega, hf'⟩
end IM
def hfS (K : Nat → Bool) (n : Nat) (S B : List Nat → Int) (a : BsA) (pl : List Nat) : BsA := ofF a (S pl) (B pl) ((bf (nthK K n) pl pl.length : Nat) : Int)
def HfM (K : Nat → Bool) (n k : Nat) (S B : List Nat → Int) (fin : BsA) (go : Bool) (N : Nat) (pk : Nat → Int) (a b bs : Int) : Prop := ∃ acc, BsR acc a b bs ∧ ItM K n k (hfS K n S B) fin go N pk acc
theorem BsR.pos {acc : BsA} {a b bs : Int} (h : BsR acc a b bs) (hb : ¬ b = 0) : (0 < b ∧ b ≤ 9223372036854775807) ∧ B63 a := by
  rcases h with h | h
  · exact absurd h.2.2 hb
  · exact ⟨h.2.1, h.2.2.1⟩
theorem BsR.bb {acc : BsA} {a b bs : Int} (h : BsR acc a b bs) : (0 ≤ b ∧ b ≤ 9223372036854775807) ∧ B63 a := by
  rcases h with h | h
  · rw [h.2.1, h.2.2]; unfold B63; decide
  · exact ⟨⟨by have := h.2.1; omega, h.2.1.2⟩, h.2.2.1⟩
theorem BsR.tell {acc : BsA} {a b bs wh : Int} (h : BsR acc a b bs) (he : acc.1 = false) : (0 < b) ∧ (wh = 2 → bs = bsT acc wh) ∧ (¬ wh = 2 → tellZ a b wh = bsT acc wh) := by
  rcases h with h | ⟨-, hb, ha, hc, h2, h3⟩
  · rw [he] at h; cases h.1
  · refine ⟨hb.1, fun e => ?_, fun e => ?_⟩
    · unfold bsT bsTell; rw [he, if_neg (by simp), if_pos e]; exact h3
    · unfold bsT bsTell; rw [he, if_neg (by simp), if_neg e]; exact tell_eq (by omega) (by omega) h2
theorem fwF_yes {k j : Nat} {S B : Nat → Int} {a : BsA} (h : bcN j = k) : fwF k S B a (j + 1) = ofF (fwF k S B a j) (S j) (B j) j := by show (if bcN j = k then _ else _) = _; rw [if_pos h]
theorem fwF_no {k j : Nat} {S B : Nat → Int} {a : BsA} (h : ¬ bcN j = k) : fwF k S B a (j + 1) = fwF k S B a j := by show (if bcN j = k then _ else _) = _; rw [if_neg h]
def FwH (X : Nat → Nat → Int) (Y : Nat → Int) (K : Nat → Bool) (m n : Nat) (S B : Nat → Int) : Prop := ∀ st, st < 2 ^ m → 0 < B st ∧ ∀ W den, FitR (gmC X K n st) (cb st m) (rhC X Y K n st) W den → (0 < den ∧ den ≤ 9223372036854775807) ∧ B63 (mis (yyF Y K n) den (rhC X Y K n st) W (cb st m)) ∧ mis (yyF Y K n) den (rhC X Y K n st) W (cb st m) * B st = S st * den
def HfH (X : Nat → Nat → Int) (Y : Nat → Int) (K : Nat → Bool) (m n : Nat) (S B : List Nat → Int) : Prop := ∀ pl, PlOk K n pl → 0 < B pl ∧ ∀ W den, FitR (gmA X (kf (nthK K n) pl pl.length) n) m (rhA X Y (kf (nthK K n) pl pl.length) n) W den → (0 < den ∧ den ≤ 9223372036854775807) ∧ B63 (mis (yyF Y (kf (nthK K n) pl pl.length) n) den (rhA X Y (kf (nthK K n) pl pl.length) n) W m) ∧ mis (yyF Y (kf (nthK K n) pl pl.length) n) den (rhA X Y (kf (nthK K n) pl pl.length) n) W m * B pl = S pl * den
theorem gmC_congr {X : Nat → Nat → Int} {U K : Nat → Bool} {n st : Nat} (h : ∀ r, r < n → U r = K r) (a b : Nat) : gmC X U n st a b = gmC X K n st a b := gm2_congr h
theorem rhC_congr {X : Nat → Nat → Int} {Y : Nat → Int} {U K : Nat → Bool} {n st : Nat} (h : ∀ r, r < n → U r = K r) (a : Nat) : rhC X Y U n st a = rhC X Y K n st a := rh2_congr h
/-- what a set of columns takes -/
theorem take_h {X : Nat → Nat → Int} {Y : Nat → Int} {U : Nat → Bool} {m n st k2 : Nat} {G2 : Nat → Nat → Int} {h2 : Nat → Int} (hm : m ≤ 3) (hB : MbB X Y n) (hs : st < 8) (hk : k2 = cb st m) (hh : ∀ a, a < k2 → h2 a = rhC X Y U n st a) (hg : ∀ a b, a < k2 → b < k2 → G2 a b = gmC X U n st a b) : (k2 ≤ 3) ∧ (∀ a b, a < k2 → b < k2 → -1944 ≤ G2 a b ∧ G2 a b ≤ 1944) ∧ (∀ j, j < k2 → -21384 ≤ h2 j ∧ h2 j ≤ 21384) ∧ ((∃ a b, a < k2 ∧ b < k2 ∧ G2 a b ≠ 0) → ∃ a, a < k2 ∧ G2 a a ≠ 0) := by
  have := cb_le st m
  refine ⟨by omega, fun a b ha hb => ?_, fun j hj => ?_, fun ⟨a, b, ha, hb, h0⟩ => ⟨a, ha, ?_⟩⟩
  · rw [hg a b ha hb]; exact gm2_bd hB (clF_lt hs (by omega)) (clF_lt hs (by omega))
  · rw [hh j hj]; exact rh2_bd hB (clF_lt hs (by omega))
  · rw [hg a a ha ha]; rw [hg a b ha hb] at h0; exact gm2_diag h0
def FarT (W W' : Nat → Int) (den den' : Int) (c : Nat) : Int := -((W c).tdiv ((Int.gcd (W c) (W' c) : Nat) : Int)) * den'.tdiv ((Int.gcd den den' : Nat) : Int)
def FarB (W W' : Nat → Int) (den den' : Int) (c : Nat) : Int := (W' c).tdiv ((Int.gcd (W c) (W' c) : Nat) : Int) * den.tdiv ((Int.gcd den den' : Nat) : Int)
theorem kf_step {U7 : Nat → Bool} {rw : Nat → Nat} {pl : List Nat} {n j : Nat} (h : ∀ r, r < n → U7 r = kf rw pl j r) : ∀ r, r < n → upB U7 (rw (pl.getD j 0)) true r = kf rw pl (j + 1) r := by
  intro r hr
  show _ = upB (kf rw pl j) (rw (pl.getD j 0)) true r
  by_cases e : r = rw (pl.getD j 0)
  · rw [e, upB_s, upB_s]
  · rw [upB_n _ _ e, upB_n _ _ e]; exact h r hr
