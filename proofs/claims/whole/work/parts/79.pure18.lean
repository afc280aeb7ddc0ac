/-! pure: bars and corners of a table -/
theorem CrI.dec {T B : Nat → Int} {n : Nat} (h : CrI T B n) : ∀ i j, i < j → j < n → T j * B i < T i * B j := by
  intro i j hij
  induction j with
  | zero => omega
  | succ j ih =>
    intro hj
    have a := h.2 j hj
    rcases Nat.eq_or_lt_of_le (show i ≤ j by omega) with e | e
    · subst e; omega
    · have b := ih e (by omega)
      have x := frac_tr (a := T i) (b := B i) (c := T j) (d := B j) (e := T (j + 1)) (f := B (j + 1)) (h.1 i (by omega)).2.1 (h.1 j (by omega)).2.1 (h.1 (j + 1) hj).2.1 (by omega) (by omega)
      omega
section TB
variable {X : Nat → Int} {x : Nat → Nat → Int} {Y : Nat → Int} {K : Nat → Bool} {m n : Nat}
theorem TabR.bar (h : TabR X x Y m n) (hd : ¬ detM (gmA x K n) m = 0) : Bar (gmA x K n) (rhA x Y K n) m := ⟨gram, pd_of gram h.1 hd, h.1, h.gz, h.hz⟩
theorem TabR.gB (h : TabR X x Y m n) : ∀ a b, a < 3 → b < 3 → -1944 ≤ gmA x K n a b ∧ gmA x K n a b ≤ 1944 := fun a b ha hb => gm2_bd h.mb ha hb
theorem TabR.hB (h : TabR X x Y m n) : ∀ c, c < 3 → -21384 ≤ rhA x Y K n c ∧ rhA x Y K n c ≤ 21384 := fun c hc => rh2_bd h.mb hc
theorem TabR.pB (h : TabR X x Y m n) : PB (PG X K n) := fun k hk => by rw [h.g k hk]; exact h.gB _ _ (by omega) (by omega)
theorem TabR.yB (h : TabR X x Y m n) : 0 ≤ yyF Y K n ∧ yyF Y K n ≤ 235224 := by
  have hy := yy_bd (K := K) h.tb n (Nat.le_refl _)
  have hn := h.2.1
  omega
theorem TabR.bab (h : TabR X x Y m n) : BaB (PG X K n) (RG X Y K n) (yyF Y K n) := bab_of h.pB (fun c hc => by rw [h.h c hc]; exact h.hB c hc) h.yB
theorem TabR.besb (h : TabR X x Y m n) (hr : rk0 (PG X K n) = m) : BesB (PG X K n) (RG X Y K n) m := BesB.congr ((h.bar ((whole_iff h).mp hr)).besb h.gB h.hB) h.g h.h h.1.2
theorem TabR.pab (h : TabR X x Y m n) (hd : ¬ detM (gmA x K n) m = 0) : PaB (gmA x K n) (rhA x Y K n) m := (h.bar hd).pab h.gB h.hB
theorem TabR.hex (h : TabR X x Y m n) (hd : ¬ detM (gmA x K n) m = 0) {b : Int} (hb : 0 ≤ b) : ∃ p, p < 3 ^ m ∧ RightM (gmA x K n) (rhA x Y K n) m p b := (h.bar hd).hex hb
theorem BarV.congr {P Q R R' : Nat → Int} {bar : Nat} {Φ Ψ : Nat → Int} {v : Int} (hv : BarV P R m bar Φ v) (hP : ∀ k, k < 9 → P k = Q k) (hR : ∀ i, i < 3 → R i = R' i) (hf : ∀ p, p < 3 ^ m → Φ p = Ψ p) : BarV Q R' m bar Ψ v := by
  rcases hv with ⟨p, hp, hr, e⟩ | ⟨hn, e⟩
  · exact Or.inl ⟨p, hp, (Right_congr hP hR p bar).mp hr, by rw [e, hf p hp]⟩
  · exact Or.inr ⟨fun p hp q => hn p hp ((Right_congr hP hR p bar).mpr q), e⟩
theorem csP_congr {P Q R R' : Nat → Int} (hP : ∀ k, k < 9 → P k = Q k) (hR : ∀ i, i < 3 → R i = R' i) (p bar : Nat) : csP P R p bar = csP Q R' p bar := csZ_congr (fun _ _ => rfl) (fun c hc => by unfold dbP; rw [hR c hc]) (fun c hc => bsP_congr hP hR p hc) (fun c hc => slP_congr hP p hc)
theorem eq_barred (h : TabR X x Y m n) (hr : rk0 (PG X K n) = m) {bar c q : Nat} {v w wh : Int} (hc : c < m) (h1 : BarV (PG X K n) (RG X Y K n) m bar (fun p => tellZ (bsP (PG X K n) (RG X Y K n) p c - slP (PG X K n) p c * ((bar : Nat) : Int)) (2 * boP (PG X K n) p) wh) v) (hq : q < 3 ^ m) (h2 : RightM (gmA x K n) (rhA x Y K n) m q ((bar : Nat) : Int)) (hw : w = tellZ (baM (gmA x K n) (rhA x Y K n) q m c + ((bar : Nat) : Int) * slM (gmA x K n) q m c) (2 * dtM (gmA x K n) q m) wh) : v = w := by
  have B := h.bar ((whole_iff h).mp hr)
  have m3 := h.1.2
  have h1' := h1.congr (Ψ := fun p => tellZ (bsP (Pf (gmA x K n)) (rhA x Y K n) p c - slP (Pf (gmA x K n)) p c * ((bar : Nat) : Int)) (2 * boP (Pf (gmA x K n)) p) wh) h.g h.h (fun p _ => by
    show tellZ _ _ _ = tellZ _ _ _
    rw [bsP_congr h.g h.h p (by omega), slP_congr h.g p (by omega), boP_congr h.g p])
  exact B.val (Ψ := fun q => tellZ (baM (gmA x K n) (rhA x Y K n) q m c + ((bar : Nat) : Int) * slM (gmA x K n) q m c) (2 * dtM (gmA x K n) q m) wh) h1' hq h2 hw (fun p hp _ => B.barred hp hc wh)
theorem eq_cost (h : TabR X x Y m n) (hr : rk0 (PG X K n) = m) {bar q : Nat} {v w wh : Int} (h1 : BarV (PG X K n) (RG X Y K n) m bar (fun p => tellZ (4 * boP (PG X K n) p * yyF Y K n - csP (PG X K n) (RG X Y K n) p bar) (4 * boP (PG X K n) p) wh) v) (hq : q < 3 ^ m) (h2 : RightM (gmA x K n) (rhA x Y K n) m q ((bar : Nat) : Int)) (hw : w = tellZ (ctM (gmA x K n) (rhA x Y K n) m q (yyF Y K n) ((bar : Nat) : Int) m) (4 * dtM (gmA x K n) q m) wh) : v = w := by
  have B := h.bar ((whole_iff h).mp hr)
  have h1' := h1.congr (Ψ := fun p => tellZ (4 * boP (Pf (gmA x K n)) p * yyF Y K n - csP (Pf (gmA x K n)) (rhA x Y K n) p bar) (4 * boP (Pf (gmA x K n)) p) wh) h.g h.h (fun p _ => by
    show tellZ _ _ _ = tellZ _ _ _
    rw [csP_congr h.g h.h p bar, boP_congr h.g p])
  exact B.val (Ψ := fun q => tellZ (ctM (gmA x K n) (rhA x Y K n) m q (yyF Y K n) ((bar : Nat) : Int) m) (4 * dtM (gmA x K n) q m) wh) h1' hq h2 hw (fun p hp hR => by
    show tellZ _ _ _ = tellZ _ _ _
    rw [B.cost hp hR, (pat_eq (h := rhA x Y K n) B.gr B.pd B.hm.2 hp).1])
theorem eq_corners (h : TabR X x Y m n) (hr : rk0 (PG X K n) = m) {T B T' B' : Nat → Int} {q q' : Nat} (h1 : RtS (fun p c => p < 3 ^ m ∧ c < m) (PG X K n) (RG X Y K n) T B q) (h2 : CnI (EndP (gmA x K n) (rhA x Y K n) m) (3 ^ m) T' B' q') : q = q' ∧ ∀ i, i < q → (T i * B' i = T' i * B i ∧ 0 < B i ∧ 0 < B' i) := by
  have Br := h.bar ((whole_iff h).mp hr)
  obtain ⟨a1, a2, a3, a4⟩ := h1.congrP h.g h.h h.1.2
  obtain ⟨b1, b2, b3⟩ := h2
  have bp : ∀ i, i < q' → 0 < B' i := fun i hi => (b1.1 i hi).2.1
  have ap : ∀ i, i < q → 0 < B i := fun i hi => (a1 i hi).2.1
  have fin := rows_eq (T := T) (B := B) (T' := T') (B' := B') ap bp a2 b1.dec (fun i hi => ?_) (fun j hj => ?_)
  · exact ⟨fin.1, fun i hi => ⟨fin.2 i hi, ap i hi, bp i (by rw [← fin.1]; exact hi)⟩⟩
  · obtain ⟨p, c, ⟨hp, hc⟩, ht, -, -, e1, e2⟩ := a3 i hi
    obtain ⟨t, d, he, k⟩ := Br.turn_end hp hc ht
    obtain ⟨j, hj, k2⟩ := b3 _ (cv_f h.1.2 hp).2.1.1 t d he
    refine ⟨j, hj, ?_⟩
    rw [← e1, ← e2] at k
    have d0 : d ≠ 0 := he.2.2.2
    have : d * (T i * B' j) = d * (T' j * B i) := by
      calc d * (T i * B' j) = (T i * d) * B' j := by grind
        _ = (T' j * d) * B i := by rw [← k, k2]; grind
        _ = d * (T' j * B i) := by grind
    exact cancel d0 this
  · obtain ⟨p, hp, he⟩ := b2 j hj
    obtain ⟨p', c, hp', hc, ht, k⟩ := Br.end_turn h.gB h.hB hp he
    obtain ⟨i, hi, e1, e2⟩ := a4 p' c ⟨hp', hc⟩ ht
    exact ⟨i, hi, by rw [e1, e2]; exact k⟩
end TB
