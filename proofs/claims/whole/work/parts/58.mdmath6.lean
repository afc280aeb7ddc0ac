/-! signum; the reference's patterns of signs -/
section GR6
variable {l : Launch} {R : Room} {D : va_G} {tys : gTy} {cc : ByteArray} {own : String} {nL : Nat} {ret : Option FieldType} {as : List Nat} {Post : PS} {G : GS} {pc : Nat} {lv : List (Nat × Value)} {st : List Value} {ws : va_W}
theorem g_lshr (hG : Rl l R D tys cc own nL ret as Post G) {x : Int64} {y : Int32} {z : Int} (hz : x >>> (y.toInt64 &&& 63) = lI z) (hd : decode cc pc = .ok (.lshr, 1)) (k : G (pc + 1) lv (lV z :: st) ws) : G pc lv (.int y :: .long x :: st) ws := by
  obtain ⟨p, e, s, m, args, below, meth, c, A, rfl, hx, hb, hml, hown, hts, hK, hA, hAD, hr, hlk⟩ := hG
  intro has ls H locs hl hP hS
  exact lv_lshr hx hb hd hz (k has ls H locs hl hP hS)
theorem g_lushr (hG : Rl l R D tys cc own nL ret as Post G) {x : Int64} {y : Int32} {z : Int} (hz : (x.toUInt64 >>> (y.toInt64.toUInt64 &&& Int64.toUInt64 63)).toInt64 = lI z) (hd : decode cc pc = .ok (.lushr, 1)) (k : G (pc + 1) lv (lV z :: st) ws) : G pc lv (.int y :: .long x :: st) ws := by
  obtain ⟨p, e, s, m, args, below, meth, c, A, rfl, hx, hb, hml, hown, hts, hK, hA, hAD, hr, hlk⟩ := hG
  intro has ls H locs hl hP hS
  exact lv_lushr hx hb hd hz (k has ls H locs hl hP hS)
theorem g_lor (hG : Rl l R D tys cc own nL ret as Post G) {x y : Int64} {z : Int} (hz : x ||| y = lI z) (hd : decode cc pc = .ok (.lor, 1)) (k : G (pc + 1) lv (lV z :: st) ws) : G pc lv (.long y :: .long x :: st) ws := by
  obtain ⟨p, e, s, m, args, below, meth, c, A, rfl, hx, hb, hml, hown, hts, hK, hA, hAD, hr, hlk⟩ := hG
  intro has ls H locs hl hP hS
  exact lv_lor hx hb hd (by rw [hz]; exact k has ls H locs hl hP hS)
theorem g_l2i (hG : Rl l R D tys cc own nL ret as Post G) {x : Int64} {z : Int} (hz : x.toInt32 = iI z) (hd : decode cc pc = .ok (.l2i, 1)) (k : G (pc + 1) lv (iV z :: st) ws) : G pc lv (.long x :: st) ws := by
  obtain ⟨p, e, s, m, args, below, meth, c, A, rfl, hx, hb, hml, hown, hts, hK, hA, hAD, hr, hlk⟩ := hG
  intro has ls H locs hl hP hS
  exact lv_l2i hx hb hd hz (k has ls H locs hl hP hS)
end GR6
theorem sg_shr {a : Int} (ha : InL a) : lI a >>> ((iI 63).toInt64 &&& 63) = lI (if a < 0 then -1 else 0) := by
  have e : ((iI 63).toInt64 &&& 63 : Int64) = 63 := by decide
  rw [e]
  apply Int64.toInt_inj.mp
  show ((lI a).toBitVec.sshiftRight' ((63 : Int64).toBitVec.smod 64)).toInt = _
  rw [BitVec.toInt_sshiftRight', show ((63 : Int64).toBitVec.smod 64).toNat = 63 from by decide]
  show (lI a).toInt >>> 63 = _
  rw [lI_toInt ha, lI_toInt (by split <;> omega), Int.shiftRight_eq_div_pow]
  split <;> omega
theorem sg_ushr {a : Int} (ha : InL a) : ((lI a).toUInt64 >>> ((iI 63).toInt64.toUInt64 &&& Int64.toUInt64 63)).toInt64 = lI (if a < 0 then 1 else 0) := by
  have e : ((iI 63).toInt64.toUInt64 &&& Int64.toUInt64 63) = 63 := by decide
  rw [e]
  have ht : (lI a).toBitVec.toInt = a := lI_toInt ha
  have hc := BitVec.toInt_eq_toNat_cond (lI a).toBitVec
  have hu : (lI a).toUInt64 >>> (63 : UInt64) = if a < 0 then 1 else 0 := by
    apply UInt64.toNat_inj.mp
    rw [UInt64.toNat_shiftRight]
    show (lI a).toBitVec.toNat >>> 63 = _
    have hlt := (lI a).toBitVec.isLt
    rw [Nat.shiftRight_eq_div_pow]
    rw [ht] at hc
    by_cases h : a < 0
    · rw [if_pos h]
      show _ = 1
      split at hc <;> omega
    · rw [if_neg h]
      show _ = 0
      split at hc <;> omega
  rw [hu]
  split <;> decide
theorem sg_or {a : Int} : lI (if a < 0 then -1 else 0) ||| lI (if -a < 0 then 1 else 0) = lI (sgnZ a) := by
  unfold sgnZ
  by_cases h : a < 0
  · rw [if_pos h, if_neg (show ¬ -a < 0 by omega), if_pos h]; decide
  · rw [if_neg h, if_neg h]
    by_cases h2 : a = 0
    · rw [if_neg (show ¬ -a < 0 by omega), if_pos h2]; decide
    · rw [if_pos (show -a < 0 by omega), if_neg h2]; decide
theorem sg_2i {a : Int} : (lI (sgnZ a)).toInt32 = iI (sgnZ a) := by
  rcases sgn_cases a with h | h | h <;> rw [h.2] <;> decide
def sgM (p c : Nat) : Int := ((dig p c : Nat) : Int) - 1
def stM (p m : Nat) : Nat := (List.range m).foldl (fun s c => if dig p c = 1 then s else s + 2 ^ c) 0
theorem stM_lt {p m : Nat} (hp : p < 27) (hm : m ≤ 3) : stM p m < 8 := by
  have : ∀ p : Fin 27, ∀ m : Fin 4, stM p.val m.val < 8 := by decide +kernel
  exact this ⟨p, hp⟩ ⟨m, by omega⟩
theorem stM_bit {p m c : Nat} (hp : p < 27) (hm : m ≤ 3) (hc : c < m) : (stM p m).testBit c = decide (¬ dig p c = 1) := by
  have : ∀ p : Fin 27, ∀ m : Fin 4, ∀ c : Fin 3, c.val < m.val → (stM p.val m.val).testBit c.val = decide (¬ dig p.val c.val = 1) := by decide +kernel
  exact this ⟨p, hp⟩ ⟨m, by omega⟩ ⟨c, by omega⟩ hc
theorem cl_inj {st a b : Nat} (hs : st < 8) (ha : a < cb st 3) (hb : b < cb st 3) (h : clF st a = clF st b) : a = b := by
  have d : ∀ st : Fin 8, ∀ a b : Fin 3, a.val < cb st.val 3 → b.val < cb st.val 3 → clF st.val a.val = clF st.val b.val → a.val = b.val := by decide +kernel
  have := cb_le st 3
  exact d ⟨st, hs⟩ ⟨a, by omega⟩ ⟨b, by omega⟩ ha hb h
theorem cl_bit {st a m : Nat} (hs : st < 8) (hm : m ≤ 3) (ha : a < cb st m) : st.testBit (clF st a) = true ∧ clF st a < m ∧ cb st (clF st a) = a := by
  have d : ∀ st : Fin 8, ∀ m : Fin 4, ∀ a : Fin 3, a.val < cb st.val m.val → st.val.testBit (clF st.val a.val) = true ∧ clF st.val a.val < m.val ∧ cb st.val (clF st.val a.val) = a.val := by decide +kernel
  have := cb_le st m
  exact d ⟨st, hs⟩ ⟨m, by omega⟩ ⟨a, by omega⟩ ha
theorem cb_mono {st a b : Nat} (h : a ≤ b) : cb st a ≤ cb st b := by
  induction b with
  | zero => rw [show a = 0 by omega]; exact Nat.le_refl _
  | succ b ih =>
    rcases Nat.lt_or_ge b a with h2 | h2
    · rw [show a = b + 1 by omega]; exact Nat.le_refl _
    · have := ih h2; show _ ≤ cb st b + _; omega
theorem cb_lt {st c m : Nat} (hc : c < m) (h : st.testBit c = true) : cb st c < cb st m := by
  have h1 := cb_mono (st := st) (show c + 1 ≤ m by omega)
  rw [cb_t h] at h1; omega
def naM (p m : Nat) : Nat := cb (stM p m) m
def gsM (G : Nat → Nat → Int) (p m : Nat) : Nat → Nat → Int := fun a b => G (clF (stM p m) a) (clF (stM p m) b)
def dtM (G : Nat → Nat → Int) (p m : Nat) : Int := detM (gsM G p m) (naM p m)
def bvM (h : Nat → Int) (p m : Nat) : Nat → Int := fun r => 2 * h (clF (stM p m) r)
def svM (p m : Nat) : Nat → Int := fun r => sgM p (clF (stM p m) r)
def baM (G : Nat → Nat → Int) (h : Nat → Int) (p m c : Nat) : Int := if dig p c = 1 then 0 else crS (gsM G p m) (bvM h p m) (naM p m) (cb (stM p m) c) (naM p m)
def slM (G : Nat → Nat → Int) (p m c : Nat) : Int := if dig p c = 1 then 0 else -crS (gsM G p m) (svM p m) (naM p m) (cb (stM p m) c) (naM p m)
/-- the arrays of a pattern -/
def PatR (G : Nat → Nat → Int) (h : Nat → Int) (m p : Nat) (na dt : Int) (sg ac ba sl : Nat → Int) : Prop := na = ((naM p m : Nat) : Int) ∧ dt = dtM G p m ∧ (∀ c, c < m → sg c = sgM p c) ∧ (∀ a, a < naM p m → ac a = ((clF (stM p m) a : Nat) : Int)) ∧ (∀ c, c < m → ba c = baM G h p m c) ∧ ∀ c, c < m → sl c = slM G p m c
/-- base or slope while they are laid: the column c is laid up to r -/
def PbI (st na m : Nat) (f : Nat → Nat → Int) (c r : Nat) (b : Nat → Int) : Prop := (∀ a, a < na → b (clF st a) = if a < c then f a na else if a = c then f a r else 0) ∧ ∀ j, j < m → st.testBit j = false → b j = 0
section PB
variable {st na m c r : Nat} {f : Nat → Nat → Int} {b : Nat → Int} {x : Int}
theorem PbI.init (hs : st < 8) (hm : m ≤ 3) (hna : na = cb st m) (h : ∀ j, j < m → b j = 0) (hf : ∀ a, f a 0 = 0) : PbI st na m f 0 0 b := by
  refine ⟨fun a ha => ?_, fun j hj _ => h j hj⟩
  rw [h _ (cl_bit hs hm (by omega)).2.1, if_neg (by omega)]
  split
  · rename_i e; rw [hf]
  · rfl
theorem PbI.next (h : PbI st na m f c r b) (hr : na ≤ r) (hr2 : r ≤ na) (hf : ∀ a, f a 0 = 0) : PbI st na m f (c + 1) 0 b := by
  have e : r = na := by omega
  subst e
  refine ⟨fun a ha => ?_, h.2⟩
  rw [h.1 a ha]
  by_cases h1 : a < c
  · rw [if_pos h1, if_pos (by omega)]
  · rw [if_neg h1]
    by_cases h2 : a = c
    · rw [if_pos h2, if_pos (by omega)]
    · rw [if_neg h2, if_neg (by omega)]
      by_cases h3 : a = c + 1
      · rw [if_pos h3, hf]
      · rw [if_neg h3]
theorem PbI.step (h : PbI st na m f c r b) (hs : st < 8) (hm : m ≤ 3) (hna : na = cb st m) (hc : c < na) (hx : x = b (clF st c) + (f c (r + 1) - f c r)) : PbI st na m f c (r + 1) (upZ b (clF st c) x) := by
  have hmn := cb_mono (st := st) hm
  refine ⟨fun a ha => ?_, fun j hj hb => ?_⟩
  · by_cases e : a = c
    · subst e
      rw [upZ_s, hx, h.1 a ha, if_neg (by omega), if_pos rfl, if_neg (by omega), if_pos rfl]; omega
    · rw [upZ_n _ _ (fun q => e (cl_inj hs (by omega) (by omega) q)), h.1 a ha]
      by_cases h1 : a < c
      · rw [if_pos h1, if_pos h1]
      · rw [if_neg h1, if_neg e, if_neg h1, if_neg e]
  · rw [upZ_n _ _ (fun q => by have := (cl_bit hs hm (show c < cb st m by omega)).1; rw [← q, hb] at this; cases this)]
    exact h.2 j hj hb
theorem PbI.out (h : PbI st na m f c 0 b) (hc : na ≤ c) (hs : st < 8) (hm : m ≤ 3) (hna : na = cb st m) {j : Nat} (hj : j < m) : b j = if st.testBit j = true then f (cb st j) na else 0 := by
  by_cases e : st.testBit j = true
  · rw [if_pos e]
    have h1 := cb_lt hj e
    have h2 := h.1 (cb st j) (by omega)
    rw [clF_at hs (by omega) e] at h2
    rw [h2, if_pos (by omega)]
  · rw [if_neg e]; exact h.2 j hj (by simpa using e)
end PB
/-- whether a pattern is right at a bar, column by column -/
def eM (G : Nat → Nat → Int) (h ba sl : Nat → Int) (ac : Nat → Nat) (dt bar : Int) (c : Nat) : Nat → Int
  | 0 => 2 * h c * dt
  | a + 1 => eM G h ba sl ac dt bar c a - G c (ac a) * (ba (ac a) + bar * sl (ac a))
def RtM (G : Nat → Nat → Int) (h : Nat → Int) (m p : Nat) (bar : Int) (c : Nat) : Prop := if sgM p c = 0 then ((eM G h (baM G h p m) (slM G p m) (clF (stM p m)) (dtM G p m) bar c (naM p m)).natAbs : Int) ≤ bar * dtM G p m else sgnZ (baM G h p m c + bar * slM G p m c) = sgM p c
def RightM (G : Nat → Nat → Int) (h : Nat → Int) (m p : Nat) (bar : Int) : Prop := ∀ c, c < m → RtM G h m p bar c
def PaB (G : Nat → Nat → Int) (h : Nat → Int) (m : Nat) : Prop := ∀ p, p < 3 ^ m → (0 < dtM G p m ∧ dtM G p m ≤ 100000000000) ∧ ∀ c, c < m → (-1000000000000 ≤ baM G h p m c ∧ baM G h p m c ≤ 1000000000000) ∧ (-100000000 ≤ slM G p m c ∧ slM G p m c ≤ 100000000)
theorem eM_congr {G : Nat → Nat → Int} {h ba sl ba' sl' : Nat → Int} {ac : Nat → Nat} {dt bar : Int} {c m : Nat} {na : Nat} (hac : ∀ a, a < na → ac a < m) (hb : ∀ j, j < m → ba j = ba' j) (hs : ∀ j, j < m → sl j = sl' j) : ∀ a, a ≤ na → eM G h ba sl ac dt bar c a = eM G h ba' sl' ac dt bar c a
  | 0, _ => rfl
  | a + 1, ha => by
    show eM G h ba sl ac dt bar c a - _ = eM G h ba' sl' ac dt bar c a - _
    rw [eM_congr hac hb hs a (by omega), hb _ (hac a (by omega)), hs _ (hac a (by omega))]
theorem eM_b {G : Nat → Nat → Int} {h ba sl : Nat → Int} {ac : Nat → Nat} {dt bar : Int} {c m na : Nat} (hc : c < m) (hac : ∀ a, a < na → ac a < m) (hG : ∀ a b, a < m → b < m → -1944 ≤ G a b ∧ G a b ≤ 1944) (hh : ∀ j, j < m → -21384 ≤ h j ∧ h j ≤ 21384) (hd : 0 < dt ∧ dt ≤ 100000000000) (hbar : 0 ≤ bar ∧ bar ≤ 50000)
    (hb : ∀ j, j < m → -1000000000000 ≤ ba j ∧ ba j ≤ 1000000000000) (hs : ∀ j, j < m → -100000000 ≤ sl j ∧ sl j ≤ 100000000) : ∀ a, a ≤ na → -(4276800000000000 + 12000000000000000 * (a : Int)) ≤ eM G h ba sl ac dt bar c a ∧ eM G h ba sl ac dt bar c a ≤ 4276800000000000 + 12000000000000000 * (a : Int)
  | 0, _ => by
    have h1 := hh c hc
    have := mul_bd (a := 2 * h c) (A := 42768) (by omega) (show -100000000000 ≤ dt ∧ dt ≤ 100000000000 by omega)
    show _ ≤ 2 * h c * dt ∧ 2 * h c * dt ≤ _
    omega
  | a + 1, ha => by
    have ih := eM_b hc hac hG hh hd hbar hb hs a (by omega)
    have h1 := hac a (by omega)
    have h2 := mul_bd (a := bar) (A := 50000) (by omega) (hs _ h1)
    have h3 := hb _ h1
    have h4 := mul_bd (b := ba (ac a) + bar * sl (ac a)) (B := 6000000000000) (hG c _ hc h1) (by omega)
    show _ ≤ eM G h ba sl ac dt bar c a - _ ∧ eM G h ba sl ac dt bar c a - _ ≤ _
    omega
theorem stM_cb {p m c : Nat} (hp : p < 27) (hm : m ≤ 3) (hc : c < m) : cb (stM p m) (c + 1) = cb (stM p m) c + if dig p c = 1 then 0 else 1 := by
  show cb (stM p m) c + _ = _
  rw [stM_bit hp hm hc]
  by_cases e : dig p c = 1
  · rw [if_pos e, if_neg (by simp [e])]
  · rw [if_neg e, if_pos (by simp [e])]
theorem pat_out {G : Nat → Nat → Int} {h : Nat → Int} {m p c c7 na : Nat} {sg ac ba sl : Nat → Int} {dt : Int} (hp : p < 27) (hm : m ≤ 3) (hna : na = cb (stM p m) m) (hd : dt = dtM G p m) (hc : m ≤ c) (hsg : ∀ j, j < c → sg j = sgM p j) (hac : ∀ a, a < na → ac a = ((clF (stM p m) a : Nat) : Int)) (hc7 : na ≤ c7)
    (hba : PbI (stM p m) na m (fun a r => crS (gsM G p m) (bvM h p m) na a r) c7 0 ba) (hsl : PbI (stM p m) na m (fun a r => -crS (gsM G p m) (svM p m) na a r) c7 0 sl) : PatR G h m p ((na : Nat) : Int) dt sg ac ba sl := by
  have hs := stM_lt hp hm
  have e : na = naM p m := hna
  refine ⟨by rw [e], hd, fun j hj => hsg j (by omega), fun a ha => hac a (by omega), fun j hj => ?_, fun j hj => ?_⟩
  · rw [hba.out hc7 hs hm hna hj, stM_bit hp hm hj]
    unfold baM
    by_cases e2 : dig p j = 1
    · rw [if_neg (by simp [e2]), if_pos e2]
    · rw [if_pos (by simp [e2]), if_neg e2, e]
  · rw [hsl.out hc7 hs hm hna hj, stM_bit hp hm hj]
    unfold slM
    by_cases e2 : dig p j = 1
    · rw [if_neg (by simp [e2]), if_pos e2]
    · rw [if_pos (by simp [e2]), if_neg e2, e]
theorem dig_step {p c : Nat} : p / 3 ^ c / 3 = p / 3 ^ (c + 1) := by rw [Nat.div_div_eq_div_mul, Nat.pow_succ]
theorem sgM_bd (p c : Nat) : -1 ≤ sgM p c ∧ sgM p c ≤ 1 := by have := dig_lt p c; unfold sgM; omega
theorem sgM_z {p c : Nat} : sgM p c = 0 ↔ dig p c = 1 := by unfold sgM; omega
theorem rt_no1 {G : Nat → Nat → Int} {h : Nat → Int} {m p c : Nat} {bar : Int} (h0 : ¬ sgM p c = 0) (h1 : ¬ sgnZ (baM G h p m c + bar * slM G p m c) = sgM p c) : ¬ RtM G h m p bar c := by unfold RtM; rw [if_neg h0]; exact h1
theorem PatR.ac {G : Nat → Nat → Int} {h : Nat → Int} {m p : Nat} {na dt : Int} {sg ac ba sl : Nat → Int} (hp : p < 27) (hm : m ≤ 3) : ∀ a, a < naM p m → clF (stM p m) a < m := fun a ha => (cl_bit (stM_lt hp hm) hm ha).2.1
theorem gs_step {G M6 : Nat → Nat → Int} {p m a5 b5 nq : Nat} {x : Int} (h : ∀ a b, (a < a5 ∨ (a = a5 ∧ b < b5)) → b < nq → M6 a b = gsM G p m a b) (hx : x = G (clF (stM p m) a5) (clF (stM p m) b5)) : ∀ a b, (a < a5 ∨ (a = a5 ∧ b < b5 + 1)) → b < nq → up2 M6 a5 b5 x a b = gsM G p m a b := by
  intro a b h1 hb
  by_cases e : a = a5 ∧ b = b5
  · obtain ⟨rfl, rfl⟩ := e; rw [up2_s, hx]; rfl
  · rw [up2_n _ _ e]; exact h a b (by omega) hb
theorem pat_n {m j : Nat} (hm : 1 ≤ m ∧ m ≤ 3) (h : (¬ ((m : Nat) : Int) = 1 ∧ ¬ ((m : Nat) : Int) = 2 ∧ j = 27) ∨ (¬ ((m : Nat) : Int) = 1 ∧ ((m : Nat) : Int) = 2 ∧ j = 9) ∨ (((m : Nat) : Int) = 1 ∧ j = 3)) : ((j : Nat) : Int) = ((3 ^ m : Nat) : Int) := by
  rcases h with ⟨h1, h2, e⟩ | ⟨h1, h2, e⟩ | ⟨h1, e⟩
  · have : m = 3 := by omega
    subst this; subst e; rfl
  · have : m = 2 := by omega
    subst this; subst e; rfl
  · have : m = 1 := by omega
    subst this; subst e; rfl
