def B63 (x : Int) : Prop := -9223372036854775807 ≤ x ∧ x ≤ 9223372036854775807
def csP (P R : Nat → Int) (p bar : Nat) : Int := csZ (sgP p) (dbP R p) (bsP P R p) (slP P p) bar 3
theorem csZ_congr {sg db bs sl sg' db' bs' sl' : Nat → Int} {bar : Nat} (h1 : ∀ c, c < 3 → sg c = sg' c) (h2 : ∀ c, c < 3 → db c = db' c) (h3 : ∀ c, c < 3 → bs c = bs' c) (h4 : ∀ c, c < 3 → sl c = sl' c) : csZ sg db bs sl bar 3 = csZ sg' db' bs' sl' bar 3 := by
  simp only [csZ, h1 0 (by omega), h1 1 (by omega), h1 2 (by omega), h2 0 (by omega), h2 1 (by omega), h2 2 (by omega), h3 0 (by omega), h3 1 (by omega), h3 2 (by omega), h4 0 (by omega), h4 1 (by omega), h4 2 (by omega)]
def BaB (P R : Nat → Int) (ts : Int) : Prop := ∀ bar : Nat, bar ≤ 50000 → ∀ p, p < 27 → (∀ c, c < 3 → cdC P R p (fun a b _ => InL (a + b * ((bar : Nat) : Int))) c) ∧ (∀ c, c < 3 → B63 (bsP P R p c - slP P p c * ((bar : Nat) : Int))) ∧ B63 (2 * boP P p) ∧ B63 (4 * boP P p) ∧ B63 (4 * boP P p * ts - csP P R p bar)
def BarV (P R : Nat → Int) (m bar : Nat) (Φ : Nat → Int) (v : Int) : Prop := (∃ p, p < 3 ^ m ∧ Right P R p bar ∧ v = Φ p) ∨ ((∀ p, p < 3 ^ m → ¬ Right P R p bar) ∧ v = -1)
section BD
variable {P Q R R' : Nat → Int}
theorem Right_congr (h : ∀ k, k < 9 → P k = Q k) (hr : ∀ i, i < 3 → R i = R' i) (p bar : Nat) : Right P R p bar ↔ Right Q R' p bar := by
  unfold Right
  rw [rk0_congr (QP_congr h p)]
  exact ⟨fun q => ⟨q.1, fun c hc => (cdC_congr h hr p _ hc).mp (q.2 c hc)⟩, fun q => ⟨q.1, fun c hc => (cdC_congr h hr p _ hc).mpr (q.2 c hc)⟩⟩
theorem FindR.congr {ts9 cn2 ts2 r2 : Int} {m bar : Nat} {v : Bool} {S2 sg2 db2 bs2 sl2 : Nat → Int} (hf : FindR P R ts9 m bar v cn2 ts2 r2 S2 sg2 db2 bs2 sl2) (h : ∀ k, k < 9 → P k = Q k) (hr : ∀ i, i < 3 → R i = R' i) : FindR Q R' ts9 m bar v cn2 ts2 r2 S2 sg2 db2 bs2 sl2 := by
  rcases hf with ⟨hv, p, hp, hR, e1, e2, e3, e4, e5, e6, e7⟩ | ⟨hv, hn⟩
  · refine Or.inl ⟨hv, p, hp, (Right_congr h hr p bar).mp hR, e1, ?_, ?_, e4, ?_, ?_, ?_⟩
    · rw [e2, rk0_congr (QP_congr h p)]
    · intro k hk; rw [e3 k hk, symF_congr (QP_congr h p)]
    · intro c hc; rw [e5 c hc]; unfold dbP; rw [hr c hc]
    · intro c hc; rw [e6 c hc]; exact bsP_congr h hr p hc
    · intro c hc; rw [e7 c hc]; exact slP_congr h p hc
  · exact Or.inr ⟨hv, fun p hp q => hn p hp ((Right_congr h hr p bar).mpr q)⟩
theorem FindR.yes {ts9 cn2 ts2 r2 : Int} {m bar : Nat} {v : Bool} {S2 sg2 db2 bs2 sl2 : Nat → Int} (hf : FindR P R ts9 m bar v cn2 ts2 r2 S2 sg2 db2 bs2 sl2) (hv : v = true) (hm : m ≤ 3) : ∃ p, (p < 3 ^ m ∧ p < 27) ∧ Right P R p bar ∧ ts2 = ts9 ∧ (r2 = ((rk0 (QP P p) : Nat) : Int) ∧ rk0 (QP P p) ≤ 3) ∧ S2 (rk0 (QP P p)) = boP P p ∧ (∀ i, i < 3 → bs2 i = bsP P R p i) ∧ (∀ i, i < 3 → sl2 i = slP P p i) ∧ csZ sg2 db2 bs2 sl2 bar 3 = csP P R p bar := by
  rcases hf with ⟨-, p, hp, hR, e1, e2, e3, e4, e5, e6, e7⟩ | ⟨hw, -⟩
  · have hp3 := pow3_le hm
    exact ⟨p, ⟨hp, by omega⟩, hR, e1, ⟨e2, rk_le _⟩, e3 _ (rk_le _), e6, e7, csZ_congr e4 e5 e6 e7⟩
  · rw [hv] at hw; exact absurd hw (by decide)
theorem FindR.no {ts9 cn2 ts2 r2 : Int} {m bar : Nat} {v : Bool} {S2 sg2 db2 bs2 sl2 : Nat → Int} (hf : FindR P R ts9 m bar v cn2 ts2 r2 S2 sg2 db2 bs2 sl2) (hv : v = false) : ∀ p, p < 3 ^ m → ¬ Right P R p bar := by
  rcases hf with ⟨hw, -⟩ | ⟨-, hn⟩
  · rw [hv] at hw; exact absurd hw (by decide)
  · exact hn
end BD
