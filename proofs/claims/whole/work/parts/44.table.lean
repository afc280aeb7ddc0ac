section TB3
variable {l : Launch} {R : Room} {D : va_G} {tys : gTy} {cc : ByteArray} {own : String} {nL : Nat} {ret : Option FieldType} {as : List Nat} {Post : PS} {G : GS} {pc : Nat} {lv : List (Nat × Value)} {st : List Value} {ws : va_W}
theorem g_tableOut (hG : Rl l R D tys cc own nL ret as Post G) {a dflt lo hi : Int} {offs : Array Int} {len tgt : Nat} (ha : InI a) (h : a < lo ∨ hi < a) (ht : (pc : Int) + dflt = (tgt : Int)) (hd : decode cc pc = .ok (.tableswitch dflt lo hi offs, len)) (k : G tgt lv st ws) : G pc lv (iV a :: st) ws := by
  obtain ⟨p, e, s, m, args, below, meth, c, A, rfl, hx, hb, hml, hown, hts, hK, hA, hAD, hr, hlk⟩ := hG
  intro has ls H locs hl hP hS
  exact lv_tableOut hx hb hd (by rw [iI_toInt ha]; exact h) ht (k has ls H locs hl hP hS)
theorem g_tableIn (hG : Rl l R D tys cc own nL ret as Post G) {a dflt lo hi off : Int} {offs : Array Int} {len tgt : Nat} (ha : InI a) (h1 : lo ≤ a) (h2 : a ≤ hi) (ho : offs[(a - lo).toNat]? = some off) (ht : (pc : Int) + off = (tgt : Int)) (hd : decode cc pc = .ok (.tableswitch dflt lo hi offs, len)) (k : G tgt lv st ws) : G pc lv (iV a :: st) ws := by
  obtain ⟨p, e, s, m, args, below, meth, c, A, rfl, hx, hb, hml, hown, hts, hK, hA, hAD, hr, hlk⟩ := hG
  intro has ls H locs hl hP hS
  exact lv_tableIn hx hb hd (by rw [iI_toInt ha]; omega) (by rw [iI_toInt ha]; omega) (by rw [iI_toInt ha]; exact ho) ht (k has ls H locs hl hP hS)
theorem g_table3 (hG : Rl l R D tys cc own nL ret as Post G) {a d o0 o1 o2 : Int} {len td t0 t1 t2 : Nat} (ha : InI a) (htd : (pc : Int) + d = (td : Int)) (h0 : (pc : Int) + o0 = (t0 : Int)) (h1 : (pc : Int) + o1 = (t1 : Int)) (h2 : (pc : Int) + o2 = (t2 : Int)) (hd : decode cc pc = .ok (.tableswitch d 0 2 #[o0, o1, o2], len)) (k0 : a = 0 → G t0 lv st ws) (k1 : a = 1 → G t1 lv st ws) (k2 : a = 2 → G t2 lv st ws) (kd : ¬ (0 ≤ a ∧ a ≤ 2) → G td lv st ws) : G pc lv (iV a :: st) ws := by
  by_cases h : 0 ≤ a ∧ a ≤ 2
  · by_cases e0 : a = 0
    · exact g_tableIn hG ha h.1 h.2 (off := o0) (by subst e0; rfl) h0 hd (k0 e0)
    · by_cases e1 : a = 1
      · exact g_tableIn hG ha h.1 h.2 (off := o1) (by subst e1; rfl) h1 hd (k1 e1)
      · have e2 : a = 2 := by omega
        exact g_tableIn hG ha h.1 h.2 (off := o2) (by subst e2; rfl) h2 hd (k2 e2)
  · exact g_tableOut hG ha (by omega) htd hd (kd h)
end TB3
