def LvOk (X Y : Nat → Int) (K : Nat → Bool) (n m : Nat) (t b : Int) : Prop := ∃ (A B C T W : Nat → Int), PoOk X Y K n A B C T W ((cntK K n : Nat) : Int) ∧ LvS A B C T (LvD m (cntK K n)) t b
theorem LvOk.bd {X Y : Nat → Int} {K : Nat → Bool} {n m : Nat} {t b : Int} (h : LvOk X Y K n m t b) : (0 ≤ t ∧ t ≤ 1732104) ∧ (0 < b ∧ b ≤ 17496) := by
  obtain ⟨A, B, C, T, W, -, h2⟩ := h; exact h2.1
theorem QP_congr {P Q : Nat → Int} (h : ∀ k, k < 9 → P k = Q k) (p : Nat) : ∀ k, k < 9 → QP P p k = QP Q p k := fun k hk => by unfold QP cpP; rw [h k hk]
section BC
variable {P Q R R' : Nat → Int}
theorem bsP_congr (h : ∀ k, k < 9 → P k = Q k) (hr : ∀ i, i < 3 → R i = R' i) (p : Nat) {c : Nat} (hc : c < 3) : bsP P R p c = bsP Q R' p c := by
  have hq := QP_congr h p
  unfold bsP; rw [rk0_congr hq]
  exact slvF_congr2 hq (fun k _ => symF_congr hq k) (fun i hi => by unfold dbP; rw [hr i hi]) _ (rk_le _) c hc
theorem slP_congr (h : ∀ k, k < 9 → P k = Q k) (p : Nat) {c : Nat} (hc : c < 3) : slP P p c = slP Q p c := by
  have hq := QP_congr h p
  unfold slP; rw [rk0_congr hq]
  exact slvF_congr2 hq (fun k _ => symF_congr hq k) (fun i hi => rfl) _ (rk_le _) c hc
theorem boP_congr (h : ∀ k, k < 9 → P k = Q k) (p : Nat) : boP P p = boP Q p := by
  have hq := QP_congr h p
  unfold boP; rw [rk0_congr hq, symF_congr hq]
theorem cdC_congr (h : ∀ k, k < 9 → P k = Q k) (hr : ∀ i, i < 3 → R i = R' i) (p : Nat) (Φ : Int → Int → Bool → Prop) {c : Nat} (hc : c < 3) : cdC P R p Φ c ↔ cdC Q R' p Φ c := by
  have e1 : drP P R p c = drP Q R' p c := by
    unfold drP; rw [hr c hc, boP_congr h, rp_congr h hc (bsP_congr h hr p (by omega)) (bsP_congr h hr p (by omega)) (bsP_congr h hr p (by omega))]
  have e2 : moP P p c = moP Q p c := by unfold moP; exact rp_congr h hc (slP_congr h p (by omega)) (slP_congr h p (by omega)) (slP_congr h p (by omega))
  unfold cdC; rw [e1, e2, boP_congr h, bsP_congr h hr p hc, slP_congr h p hc]
theorem tp_congr (h : ∀ k, k < 9 → P k = Q k) (hr : ∀ i, i < 3 → R i = R' i) (p : Nat) {c : Nat} (hc : c < 3) : tpP P R p c = tpP Q R' p c ∧ btP P R p c = btP Q R' p c := by
  unfold tpP btP; rw [bsP_congr h hr p hc, slP_congr h p hc]; exact ⟨rfl, rfl⟩
theorem BesB.congr {m : Nat} (hb : BesB Q R' m) (h : ∀ k, k < 9 → P k = Q k) (hr : ∀ i, i < 3 → R i = R' i) (hm : m ≤ 3 := by assumption) : BesB P R m := by
  refine ⟨fun p hp c hc => by rw [bsP_congr h hr p hc, slP_congr h p hc]; exact hb.1 p hp c hc, fun p c hp hc hk hs c' hc' => ?_⟩
  rw [cdC_congr h hr p _ hc', (tp_congr h hr p (by omega)).1, (tp_congr h hr p (by omega)).2]
  rw [bsP_congr h hr p (by omega), slP_congr h p (by omega)] at hs
  exact hb.2 p c hp hc (by rw [← rk0_congr (QP_congr h p)]; exact hk) hs c' hc'
theorem TurnC_congr (h : ∀ k, k < 9 → P k = Q k) (hr : ∀ i, i < 3 → R i = R' i) (p : Nat) {c : Nat} (hc : c < 3) : TurnC P R p c ↔ TurnC Q R' p c := by
  have e := tp_congr h hr p hc
  have w : ∀ sd, (∀ c', c' < 3 → cdC P R p (fun a b s => OKc (bsV a b (tpP Q R' p c) (btP Q R' p c) sd) s) c') ↔ ∀ c', c' < 3 → cdC Q R' p (fun a b s => OKc (bsV a b (tpP Q R' p c) (btP Q R' p c) sd) s) c' := fun sd =>
    ⟨fun q c' hc' => (cdC_congr h hr p _ hc').mp (q c' hc'), fun q c' hc' => (cdC_congr h hr p _ hc').mpr (q c' hc')⟩
  unfold TurnC
  rw [rk0_congr (QP_congr h p), bsP_congr h hr p hc, slP_congr h p hc, e.1, e.2, w, w]
theorem RtS.congrP {m n : Nat} {T B : Nat → Int} (hs : RtS (fun p c => p < 3 ^ m ∧ c < m) P R T B n) (h : ∀ k, k < 9 → P k = Q k) (hr : ∀ i, i < 3 → R i = R' i) (hm : m ≤ 3 := by assumption) : RtS (fun p c => p < 3 ^ m ∧ c < m) Q R' T B n := by
  obtain ⟨h1, h2, h3, h4⟩ := hs
  refine ⟨h1, h2, fun i hi => ?_, fun p c hd ht => ?_⟩
  · obtain ⟨p, c, hd, ht, b1, b2, e1, e2⟩ := h3 i hi
    have hc : c < 3 := by omega
    have e := tp_congr h hr p hc
    exact ⟨p, c, hd, (TurnC_congr h hr p hc).mp ht, by rw [← bsP_congr h hr p hc]; exact b1, by rw [← slP_congr h p hc]; exact b2, by rw [← e.1]; exact e1, by rw [← e.2]; exact e2⟩
  · have hc : c < 3 := by omega
    have e := tp_congr h hr p hc
    rw [← e.1, ← e.2]
    exact h4 p c hd ((TurnC_congr h hr p hc).mpr ht)
end BC
def TnOk (X Y : Nat → Int) (K : Nat → Bool) (n m : Nat) (T B : Nat → Int) (z : Int) : Prop := ∃ q : Nat, z = ((q : Nat) : Int) ∧ RtS (fun p c => p < 3 ^ m ∧ c < m) (PG X K n) (RG X Y K n) T B q ∧ q ≤ 54
