theorem Ct.ofF {l : Launch} {D : va_G} {tys : gTy} {y : MethodName} {rm : Room} {av : List Value} {w0 : va_W} {Post : PS} {cc : ByteArray} {maxL : Nat} {ret : Option FieldType}
    (hy : plainFor y = true) (hlen : (lg_sl av).length ≤ maxL)
    (body : ∀ G : GS, Rl l rm D tys cc y.cls maxL ret (w0.map Prod.fst) Post G → G 0 (lv_args 0 av) [] w0) : Ct l D tys y cc maxL ret rm av w0 Post := by
  intro sz
  refine va_MetF (cc := cc) (maxL := maxL) (ret := ret) hy rfl ?_
  intro p e s m args below meth c s₁ B hml hv
  obtain ⟨rfl, hsz, hP, hK, hD0⟩ := hv
  subst hsz
  have hl := lv_entry av (n := maxL) hlen
  rw [lg_entry_eq]
  exact body _ ⟨p, e, s, m, av.toArray, below, meth, c, va_A w0 s.heap.size, rfl, B.exec, B.bytes, hml, findClass_of_methodNamed B.named, fun w hw => atoms_spec (ws := Cond.code y cc maxL ret :: lwB) B.pre w (List.mem_cons_of_mem _ hw), hK, fun q h => Or.inr h, va_A_self hD0, B.returns, B.notSynchronized⟩ rfl _ _ _ hl hP va_S.rf
section GR2
variable {l : Launch} {R : Room} {D : va_G} {tys : gTy} {cc : ByteArray} {own : String} {nL : Nat} {ret : Option FieldType} {as : List Nat} {Post : PS} {G : GS} {pc : Nat} {lv : List (Nat × Value)} {st : List Value} {ws : va_W}
theorem g_lxor (hG : Rl l R D tys cc own nL ret as Post G) {a b : Int} (hd : decode cc pc = .ok (.lxor, 1)) (k : G (pc + 1) lv (lV ((lI a ^^^ lI b).toInt) :: st) ws) : G pc lv (lV b :: lV a :: st) ws := by
  obtain ⟨p, e, s, m, args, below, meth, c, A, rfl, hx, hb, hml, hown, hts, hK, hA, hAD, hr, hlk⟩ := hG
  intro has ls H locs hl hP hS
  exact lv_lxor hx hb hd (by rw [← lI_self (lI a ^^^ lI b)]; exact k has ls H locs hl hP hS)
end GR2
