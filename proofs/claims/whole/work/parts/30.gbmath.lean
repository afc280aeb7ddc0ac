section GR5
variable {l : Launch} {R : Room} {D : va_G} {tys : gTy} {cc : ByteArray} {own : String} {nL : Nat} {ret : Option FieldType} {as : List Nat} {Post : PS} {G : GS} {pc : Nat} {lv : List (Nat × Value)} {st : List Value} {ws : va_W}
theorem g_st (_ : Rl l R D tys cc own nL ret as Post G) {st' : List Value} (h : st = st') (k : G pc lv st' ws) : G pc lv st ws := h ▸ k
end GR5
theorem AddR.v_in {X Y : Nat → Int} {K : Nat → Bool} {m n q : Nat} {t a b c v2 : Int} {X2 Y2 : Nat → Int} {K2 : Nat → Bool} {n2 q2 : Nat} (h : AddR X Y K m n q t a b c v2 X2 Y2 K2 n2 q2) (hn : n ≤ 24) : -1 ≤ v2 ∧ v2 ≤ 24 := by
  rcases h with h | h
  · rw [h.2.1]; decide
  · rw [h.2.1]; omega
def atZ (X Y : Nat → Int) (m n : Nat) (r c : Int) : Int := if 0 ≤ r ∧ r < ((n : Nat) : Int) then (if c = -1 then Y r.toNat else if 0 ≤ c ∧ c < ((m : Nat) : Int) then X (r.toNat * 3 + c.toNat) else 0) else 0
def gmF (X : Nat → Int) (K : Nat → Bool) (i j : Nat) : Nat → Int
  | 0 => 0
  | r + 1 => gmF X K i j r + if K r = true then X (r * 3 + i) * X (r * 3 + j) else 0
def rhF (X Y : Nat → Int) (K : Nat → Bool) (i : Nat) : Nat → Int
  | 0 => 0
  | r + 1 => rhF X Y K i r + if K r = true then X (r * 3 + i) * Y r else 0
def yyF (Y : Nat → Int) (K : Nat → Bool) : Nat → Int
  | 0 => 0
  | r + 1 => yyF Y K r + if K r = true then Y r * Y r else 0
def TbB (X Y : Nat → Int) (n : Nat) : Prop := n ≤ 24 ∧ ∀ r, r < n → (∀ c, c < 3 → -9 ≤ X (r * 3 + c) ∧ X (r * 3 + c) ≤ 9) ∧ (-99 ≤ Y r ∧ Y r ≤ 99)
theorem TbB.x {X Y : Nat → Int} {n r : Nat} (h : TbB X Y n) (hr : r < n) : ∀ j, j < 3 → InI (X (r * 3 + j)) := fun j hj => by have := (h.2 r hr).1 j hj; omega
theorem TbB.y {X Y : Nat → Int} {n r : Nat} (h : TbB X Y n) (hr : r < n) : InI (Y r) := by have := (h.2 r hr).2; omega
def GrR (X Y : Nat → Int) (K : Nat → Bool) (r : Nat) (P R : Nat → Int) (ts : Int) : Prop := (∀ i j, i < 3 → j < 3 → P (i * 3 + j) = gmF X K i j r) ∧ (∀ i, i < 3 → R i = rhF X Y K i r) ∧ ts = yyF Y K r
def SqOk (X Y : Nat → Int) (K : Nat → Bool) (n : Nat) (P R T S : Nat → Int) (ts rk : Int) : Prop := GrR X Y K n P R ts ∧ (∀ k, k ≤ 3 → S k = symF P k) ∧ (∀ i, i < 3 → T i = slv P R i) ∧ rk = ((rk0 P : Nat) : Int)
theorem SqOk.norm {X Y : Nat → Int} {K : Nat → Bool} {n : Nat} {P R T S : Nat → Int} {ts rk : Int} (h : SqOk X Y K n P R T S ts rk) : SqOk X Y K n P R T S ts ((rk0 P : Nat) : Int) := ⟨h.1, h.2.1, h.2.2.1, rfl⟩
theorem SqOk.rkE {X Y : Nat → Int} {K : Nat → Bool} {n : Nat} {P R T S : Nat → Int} {ts rk : Int} (h : SqOk X Y K n P R T S ts rk) : rk = ((rk0 P : Nat) : Int) := h.2.2.2
section GG
variable {X Y P R P2 R2 : Nat → Int} {K : Nat → Bool} {r n : Nat} {ts t2 : Int}
theorem GrR.init (hP : ∀ j, j < 9 → P j = 0) (hR : ∀ j, j < 3 → R j = 0) : GrR X Y K 0 P R 0 := ⟨fun i j hi hj => hP _ (by omega), fun i hi => hR i hi, rfl⟩
theorem GrR.skip (h : GrR X Y K r P R ts) (hk : K r = false) : GrR X Y K (r + 1) P R ts := by
  obtain ⟨h1, h2, h3⟩ := h
  have hn : ¬ K r = true := by rw [hk]; simp
  refine ⟨fun i j hi hj => ?_, fun i hi => ?_, ?_⟩
  · show _ = gmF X K i j r + _; rw [if_neg hn, h1 i j hi hj, Int.add_zero]
  · show _ = rhF X Y K i r + _; rw [if_neg hn, h2 i hi, Int.add_zero]
  · show _ = yyF Y K r + _; rw [if_neg hn, h3, Int.add_zero]
theorem GrR.add (h : GrR X Y K r P R ts) (hk : K r = true) (hP : ∀ i j, i < 3 → j < 3 → P2 (i * 3 + j) = P (i * 3 + j) + X (r * 3 + i) * X (r * 3 + j)) (hR : ∀ i, i < 3 → R2 i = R i + X (r * 3 + i) * Y r) (ht : t2 = ts + Y r * Y r) : GrR X Y K (r + 1) P2 R2 t2 := by
  obtain ⟨h1, h2, h3⟩ := h
  refine ⟨fun i j hi hj => ?_, fun i hi => ?_, ?_⟩
  · show _ = gmF X K i j r + _; rw [if_pos hk, hP i j hi hj, h1 i j hi hj]
  · show _ = rhF X Y K i r + _; rw [if_pos hk, hR i hi, h2 i hi]
  · show _ = yyF Y K r + _; rw [if_pos hk, ht, h3]
theorem gm_bd (hB : TbB X Y n) {i j : Nat} (hi : i < 3) (hj : j < 3) : ∀ r, r ≤ n → -(81 * (r : Int)) ≤ gmF X K i j r ∧ gmF X K i j r ≤ 81 * r
  | 0, _ => by simp [gmF]
  | r + 1, hr => by
    have ih := gm_bd hB hi hj r (by omega)
    have hx := (hB.2 r (by omega)).1
    have hm := mul_bd (hx i hi) (hx j hj)
    show _ ≤ gmF X K i j r + _ ∧ gmF X K i j r + _ ≤ _
    split <;> omega
theorem rh_bd (hB : TbB X Y n) {i : Nat} (hi : i < 3) : ∀ r, r ≤ n → -(891 * (r : Int)) ≤ rhF X Y K i r ∧ rhF X Y K i r ≤ 891 * r
  | 0, _ => by simp [rhF]
  | r + 1, hr => by
    have ih := rh_bd hB hi r (by omega)
    have hx := (hB.2 r (by omega))
    have hm := mul_bd (hx.1 i hi) hx.2
    show _ ≤ rhF X Y K i r + _ ∧ rhF X Y K i r + _ ≤ _
    split <;> omega
theorem yy_bd (hB : TbB X Y n) : ∀ r, r ≤ n → 0 ≤ yyF Y K r ∧ yyF Y K r ≤ 9801 * r
  | 0, _ => by simp [yyF]
  | r + 1, hr => by
    have ih := yy_bd hB r (by omega)
    have hx := (hB.2 r (by omega)).2
    have hm := mul_bd hx hx
    have h0 : 0 ≤ Y r * Y r := by
      rcases Int.le_total 0 (Y r) with h | h
      · exact Int.mul_nonneg h h
      · exact Int.mul_nonneg_of_nonpos_of_nonpos h h
    show _ ≤ yyF Y K r + _ ∧ yyF Y K r + _ ≤ _
    split <;> omega
theorem GrR.pb (h : GrR X Y K r P R ts) (hB : TbB X Y r) : PB P := by
  intro k hk
  have h1 := h.1 (k / 3) (k % 3) (by omega) (by omega)
  rw [show k / 3 * 3 + k % 3 = k by omega] at h1
  rw [h1]
  have := gm_bd (K := K) hB (show k / 3 < 3 by omega) (show k % 3 < 3 by omega) r (Nat.le_refl _)
  have := hB.1
  omega
end GG
