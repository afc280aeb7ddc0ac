section GR4
variable {l : Launch} {R : Room} {D : va_G} {tys : gTy} {cc : ByteArray} {own : String} {nL : Nat} {ret : Option FieldType} {as : List Nat} {Post : PS} {G : GS} {pc : Nat} {lv : List (Nat × Value)} {st : List Value} {ws : va_W}
theorem g_ldcw (hG : Rl l R D tys cc own nL ret as Post G) {index : Nat} {v : Int32} {z : Int} (hw : Cond.constant own index v ∈ lwB) (hv : v = iI z) (hd : decode cc pc = .ok (.ldc_w index, 3)) (k : G (pc + 3) lv (iV z :: st) ws) : G pc lv st ws := by
  obtain ⟨p, e, s, m, args, below, meth, c, A, rfl, hx, hb, hml, hown, hts, hK, hA, hAD, hr, hlk⟩ := hG
  intro has ls H locs hl hP hS
  subst hv
  exact lv_ldcw hx hb hown (hts _ hw) hd (k has ls H locs hl hP hS)
theorem g_iushr (hG : Rl l R D tys cc own nL ret as Post G) {x y : Int32} {z : Int} (hz : (x.toUInt32 >>> (y.toUInt32 &&& Int32.toUInt32 31)).toInt32 = iI z) (hd : decode cc pc = .ok (.iushr, 1)) (k : G (pc + 1) lv (iV z :: st) ws) : G pc lv (.int y :: .int x :: st) ws := by
  obtain ⟨p, e, s, m, args, below, meth, c, A, rfl, hx, hb, hml, hown, hts, hK, hA, hAD, hr, hlk⟩ := hG
  intro has ls H locs hl hP hS
  exact lv_iushr hx hb hd hz (k has ls H locs hl hP hS)
end GR4
def bcN (s : Nat) : Nat := (s &&& 1) + (s >>> 1 &&& 1) + (s >>> 2 &&& 1)
def OKc (v : Int) (s : Bool) : Prop := 0 ≤ v ∧ (v = 0 → s = false)
theorem okc_of {v : Int} {s : Bool} (h : (¬ v < 0 ∧ ¬ v = 0) ∨ (¬ v < 0 ∧ v = 0 ∧ s = false)) : OKc v s := by
  rcases h with h | h
  · exact ⟨by omega, fun e => absurd e h.2⟩
  · exact ⟨by omega, fun _ => h.2.2⟩
theorem okc_no {v : Int} {s : Bool} (h : v < 0 ∨ (¬ v < 0 ∧ v = 0 ∧ s = true)) : ¬ OKc v s := by
  intro ho
  rcases h with h | h
  · exact absurd ho.1 (by omega)
  · rw [ho.2 h.2.1] at h; cases h.2.2
theorem okc_step {P : Nat → Prop} {q : Nat} (h : ∀ i, i < q → P i) (hq : P q) : ∀ i, i < q + 1 → P i := by
  intro i hi
  rcases Nat.lt_or_ge i q with h1 | h1
  · exact h i h1
  · have : i = q := by omega
    subst this; exact hq
def csZ (sg db bs sl : Nat → Int) (bar : Nat) : Nat → Int
  | 0 => 0
  | c + 1 => csZ sg db bs sl bar c + (bs c - sl c * ((bar : Nat) : Int)) * (db c - sg c * ((bar : Nat) : Int))
theorem okc_of2 {v : Int} {s : Bool} (h : ¬ v < 0) (k : ¬ v = 0 ∨ (v = 0 ∧ s = false)) : OKc v s := by
  rcases k with k | k
  · exact okc_of (Or.inl ⟨h, k⟩)
  · exact okc_of (Or.inr ⟨h, k⟩)
