/-- the words that keep: what every method here rests on -/
def lwB : List Cond := lw_tbl.filter goodWord
theorem inB {w : Cond} (h : w ∈ lw_tbl) (g : goodWord w = true) : w ∈ lwB := List.mem_filter.mpr ⟨h, g⟩
/-! the calculus: a frame, its locals, its stack, its cells; a rule an instruction -/
abbrev aL (c : ClassId) (n : Nat) (f : Nat → Int) : va_E := .inl (c, n, .inr (.inl (fun j => lI (f j))))
abbrev aI (c : ClassId) (n : Nat) (f : Nat → Int) : va_E := .inl (c, n, .inl (fun j => iI (f j)))
abbrev aZ (c : ClassId) (n : Nat) (f : Nat → Bool) : va_E := .inl (c, n, .inl (fun j => bI (f j)))
abbrev aR (c : ClassId) (n : Nat) (r : Nat → Nat) : va_E := .inl (c, n, .inr (.inr (.inr (.inr (fun i => if i < n then some (r i) else none)))))
abbrev ob (ci : Nat) (fs : List Value) : va_E := .inr (ci, fs)
abbrev iV (z : Int) : Value := .int (iI z)
abbrev bV (b : Bool) : Value := .int (bI b)
abbrev lV (z : Int) : Value := .long (lI z)
abbrev gTy : Type := List (ClassId × FieldType)
abbrev gT (cI cL cZ cX cG : ClassId) : gTy := [(cI, .int), (cL, .long), (cZ, .boolean), (cX, .array .int), (cG, .array .long)]
abbrev GS : Type := Nat → List (Nat × Value) → List Value → va_W → Prop
abbrev PS : Type := Option Value → va_W → Prop
def AD (A : Nat → Prop) (as : List Nat) : Prop := (∀ (i j a : Nat), as[i]? = some a → as[j]? = some a → i = j) ∧ ∀ (k a : Nat), as[k]? = some a → A a
theorem AD.D {A : Nat → Prop} {as : List Nat} {ws : va_W} (h : AD A as) (e : ws.map Prod.fst = as) : va_D A ws := by
  subst e
  refine ⟨fun i j p q hi hj hpq => h.1 i j p.1 ?_ ?_, fun k q hq => h.2 k q.1 ?_⟩
  · rw [List.getElem?_map, hi]; rfl
  · rw [List.getElem?_map, hj, hpq]; rfl
  · rw [List.getElem?_map, hq]; rfl
theorem AD.of {A : Nat → Prop} {ws : va_W} (h : va_D A ws) : AD A (ws.map Prod.fst) := by
  have at' : ∀ (i a : Nat), (ws.map Prod.fst)[i]? = some a → ∃ q, ws[i]? = some q ∧ q.1 = a := by
    intro i a hi
    rw [List.getElem?_map] at hi
    cases hq : ws[i]? with
    | none => rw [hq] at hi; cases hi
    | some q => rw [hq] at hi; exact ⟨q, rfl, Option.some.inj hi⟩
  refine ⟨fun i j a hi hj => ?_, fun k a hk => ?_⟩
  · obtain ⟨p, hp, ep⟩ := at' i a hi
    obtain ⟨q, hq, eq⟩ := at' j a hj
    exact h.1 i j p q hp hq (ep.trans eq.symm)
  · obtain ⟨p, hp, ep⟩ := at' k a hk
    rw [← ep]; exact h.2 k p hp
theorem AD.weaken {A B : Nat → Prop} {as : List Nat} (h : AD A as) (hb : ∀ a, A a → B a) : AD B as := ⟨h.1, fun k a hk => hb a (h.2 k a hk)⟩
def QG (D : va_G) (tys : gTy) (Post : PS) (as : List Nat) (A : Nat → Prop) : Array Value → State → Outcome → State → Prop := fun _ st oc t =>
  (∃ (v : Option Value) (w1 : va_W), oc = .returned v ∧ Post v w1 ∧ w1.map Prod.fst = as ∧ va_P D vwCl w1 t.heap ∧ va_K D vwCl tys t) ∧ va_F A st t
def Rl (l : Launch) (R : Room) (D : va_G) (tys : gTy) (cc : ByteArray) (own : String) (nL : Nat) (ret : Option FieldType) (as : List Nat) (Post : PS) (G : GS) : Prop :=
  ∃ (p : Program) (e : Env) (s : State) (m : MethodId) (args : Array Value) (below : List Frame) (meth : Method) (c : Code) (A : Nat → Prop),
    G = (fun pc lv st ws => ws.map Prod.fst = as → ∀ (ls : Array Slot) (H : Heap) (locs : List Loc), lv_has ls nL lv → va_P D vwCl ws H → va_S A s.heap H locs → W p l e R s m args below meth c H locs 0 0 (MQ below (QG D tys Post as A) args s 0 0 A) (F0 m pc ls st)) ∧
    p.tables.exec = Jvm.exec ∧ c.code = cc ∧ c.maxLocals = nL ∧ s.vm.findClass own = some m.cls ∧ (∀ w ∈ lwB, w.before args s = true) ∧ va_K D vwCl tys s ∧ (∀ q, s.heap.size ≤ q → A q) ∧ AD A as ∧ meth.sig.returnType = ret ∧ meth.locks = false
def Ct (l : Launch) (D : va_G) (tys : gTy) (y : MethodName) (cc : ByteArray) (maxL : Nat) (ret : Option FieldType) (rm : Room) (av : List Value) (w0 : va_W) (Post : PS) : Prop :=
  ∀ sz : Nat, Met l y (Cond.code y cc maxL ret :: lwB) rm (va_Pc av (fun U => U.heap.size = sz ∧ va_P D vwCl w0 U.heap ∧ va_K D vwCl tys U ∧ va_D (fun _ => True) w0)) (QG D tys Post (w0.map Prod.fst) (va_A w0 sz)) 0 0 (va_A w0 sz)
theorem va_A_self {w0 : va_W} {sz : Nat} (h : va_D (fun _ => True) w0) : AD (va_A w0 sz) (w0.map Prod.fst) := AD.of (h.self)
theorem Ct.of {l : Launch} {D : va_G} {tys : gTy} {y : MethodName} {rm : Room} {av : List Value} {w0 : va_W} {Post : PS} {cc : ByteArray} {maxL : Nat} {ret : Option FieldType}
    (hy : plainName y.cls = true) (hlen : (lg_sl av).length ≤ maxL)
    (body : ∀ G : GS, Rl l rm D tys cc y.cls maxL ret (w0.map Prod.fst) Post G → G 0 (lv_args 0 av) [] w0) : Ct l D tys y cc maxL ret rm av w0 Post := by
  intro sz
  refine Met.ofW (cc := cc) (maxL := maxL) (ret := ret) hy rfl ?_
  intro p e s m args below meth c s₁ B hml hv
  obtain ⟨rfl, hsz, hP, hK, hD0⟩ := hv
  subst hsz
  have hl := lv_entry av (n := maxL) hlen
  rw [lg_entry_eq]
  exact body _ ⟨p, e, s, m, av.toArray, below, meth, c, va_A w0 s.heap.size, rfl, B.exec, B.bytes, hml, findClass_of_methodNamed B.named, fun w hw => atoms_spec (ws := Cond.code y cc maxL ret :: lwB) B.pre w (List.mem_cons_of_mem _ hw), hK, fun q h => Or.inr h, va_A_self hD0, B.returns, B.notSynchronized⟩ rfl _ _ _ hl hP va_S.rf
section GR
variable {l : Launch} {R : Room} {D : va_G} {tys : gTy} {cc : ByteArray} {own : String} {nL : Nat} {ret : Option FieldType} {as : List Nat} {Post : PS} {G : GS} {pc : Nat} {lv : List (Nat × Value)} {st : List Value} {ws : va_W}
theorem g_lv (hG : Rl l R D tys cc own nL ret as Post G) (ks : List Nat) {lv' : List (Nat × Value)} (h : lv_pick lv ks = lv') (k : G pc lv' st ws) : G pc lv st ws := by
  obtain ⟨p, e, s, m, args, below, meth, c, A, rfl, hx, hb, hml, hown, hts, hK, hA, hAD, hr, hlk⟩ := hG
  intro has ls H locs hl hP hS
  exact k has ls H locs (lv_sub hl ks h) hP hS
theorem g_ws (_ : Rl l R D tys cc own nL ret as Post G) {ws' : va_W} (h : ws = ws') (k : G pc lv st ws') : G pc lv st ws := h ▸ k
theorem g_iconst (hG : Rl l R D tys cc own nL ret as Post G) {n : Int} (hd : decode cc pc = .ok (.iconst n, 1)) (k : G (pc + 1) lv (iV n :: st) ws) : G pc lv st ws := by
  obtain ⟨p, e, s, m, args, below, meth, c, A, rfl, hx, hb, hml, hown, hts, hK, hA, hAD, hr, hlk⟩ := hG
  intro has ls H locs hl hP hS
  exact lv_iconst hx hb hd rfl (k has ls H locs hl hP hS)
theorem g_bipush (hG : Rl l R D tys cc own nL ret as Post G) {n : Int} (hd : decode cc pc = .ok (.bipush n, 2)) (hv : (Int8.ofInt n).toInt32 = iI n) (k : G (pc + 2) lv (iV n :: st) ws) : G pc lv st ws := by
  obtain ⟨p, e, s, m, args, below, meth, c, A, rfl, hx, hb, hml, hown, hts, hK, hA, hAD, hr, hlk⟩ := hG
  intro has ls H locs hl hP hS
  exact lv_bipush hx hb hd hv (k has ls H locs hl hP hS)
theorem g_sipush (hG : Rl l R D tys cc own nL ret as Post G) {n : Int} (hd : decode cc pc = .ok (.sipush n, 3)) (hv : (Int16.ofInt n).toInt32 = iI n) (k : G (pc + 3) lv (iV n :: st) ws) : G pc lv st ws := by
  obtain ⟨p, e, s, m, args, below, meth, c, A, rfl, hx, hb, hml, hown, hts, hK, hA, hAD, hr, hlk⟩ := hG
  intro has ls H locs hl hP hS
  exact lv_sipush hx hb hd hv (k has ls H locs hl hP hS)
theorem g_lconst (hG : Rl l R D tys cc own nL ret as Post G) {n : Fin 2} {z : Int} (hd : decode cc pc = .ok (.lconst n, 1)) (hv : Int64.ofNat (n : Nat) = lI z) (k : G (pc + 1) lv (lV z :: st) ws) : G pc lv st ws := by
  obtain ⟨p, e, s, m, args, below, meth, c, A, rfl, hx, hb, hml, hown, hts, hK, hA, hAD, hr, hlk⟩ := hG
  intro has ls H locs hl hP hS
  exact lv_lconst hx hb hd hv (k has ls H locs hl hP hS)
theorem g_ldc (hG : Rl l R D tys cc own nL ret as Post G) {index : Nat} {v : Int32} {z : Int} (hw : Cond.constant own index v ∈ lwB) (hv : v = iI z) (hd : decode cc pc = .ok (.ldc index, 2)) (k : G (pc + 2) lv (iV z :: st) ws) : G pc lv st ws := by
  obtain ⟨p, e, s, m, args, below, meth, c, A, rfl, hx, hb, hml, hown, hts, hK, hA, hAD, hr, hlk⟩ := hG
  intro has ls H locs hl hP hS
  subst hv
  exact lv_ldc hx hb hown (hts _ hw) hd (k has ls H locs hl hP hS)
theorem g_ldc2 (hG : Rl l R D tys cc own nL ret as Post G) {index : Nat} {v : Int64} {z : Int} (hw : Cond.constantLong own index v ∈ lwB) (hv : v = lI z) (hd : decode cc pc = .ok (.ldc2_w index, 3)) (k : G (pc + 3) lv (lV z :: st) ws) : G pc lv st ws := by
  obtain ⟨p, e, s, m, args, below, meth, c, A, rfl, hx, hb, hml, hown, hts, hK, hA, hAD, hr, hlk⟩ := hG
  intro has ls H locs hl hP hS
  subst hv
  exact lv_ldc2 hx hb hown (hts _ hw) hd (k has ls H locs hl hP hS)
theorem g_iload_n (hG : Rl l R D tys cc own nL ret as Post G) {f : Fin 4} {x : Int32} (k : Nat) (hk : lv[k]? = some ((f : Nat), .int x)) (hd : decode cc pc = .ok (.iload_n f, 1)) (kk : G (pc + 1) lv (.int x :: st) ws) : G pc lv st ws := by
  obtain ⟨p, e, s, m, args, below, meth, c, A, rfl, hx, hb, hml, hown, hts, hK, hA, hAD, hr, hlk⟩ := hG
  intro has ls H locs hl hP hS
  exact lv_iload_n hx hb hd rfl (lv_at hl k hk) (kk has ls H locs hl hP hS)
theorem g_iload (hG : Rl l R D tys cc own nL ret as Post G) {i : Nat} {x : Int32} (k : Nat) (hk : lv[k]? = some (i, .int x)) (hd : decode cc pc = .ok (.iload i, 2)) (kk : G (pc + 2) lv (.int x :: st) ws) : G pc lv st ws := by
  obtain ⟨p, e, s, m, args, below, meth, c, A, rfl, hx, hb, hml, hown, hts, hK, hA, hAD, hr, hlk⟩ := hG
  intro has ls H locs hl hP hS
  exact lv_iload hx hb hd (lv_at hl k hk) (kk has ls H locs hl hP hS)
theorem g_lload_n (hG : Rl l R D tys cc own nL ret as Post G) {f : Fin 4} {x : Int64} (k : Nat) (hk : lv[k]? = some ((f : Nat), .long x)) (hd : decode cc pc = .ok (.lload_n f, 1)) (kk : G (pc + 1) lv (.long x :: st) ws) : G pc lv st ws := by
  obtain ⟨p, e, s, m, args, below, meth, c, A, rfl, hx, hb, hml, hown, hts, hK, hA, hAD, hr, hlk⟩ := hG
  intro has ls H locs hl hP hS
  exact lv_lload_n hx hb hd rfl (lv_at hl k hk) (kk has ls H locs hl hP hS)
theorem g_lload (hG : Rl l R D tys cc own nL ret as Post G) {i : Nat} {x : Int64} (k : Nat) (hk : lv[k]? = some (i, .long x)) (hd : decode cc pc = .ok (.lload i, 2)) (kk : G (pc + 2) lv (.long x :: st) ws) : G pc lv st ws := by
  obtain ⟨p, e, s, m, args, below, meth, c, A, rfl, hx, hb, hml, hown, hts, hK, hA, hAD, hr, hlk⟩ := hG
  intro has ls H locs hl hP hS
  exact lv_lload hx hb hd (lv_at hl k hk) (kk has ls H locs hl hP hS)
theorem g_aload_n (hG : Rl l R D tys cc own nL ret as Post G) {f : Fin 4} {x : Nat} (k : Nat) (hk : lv[k]? = some ((f : Nat), .ref x)) (hd : decode cc pc = .ok (.aload_n f, 1)) (kk : G (pc + 1) lv (.ref x :: st) ws) : G pc lv st ws := by
  obtain ⟨p, e, s, m, args, below, meth, c, A, rfl, hx, hb, hml, hown, hts, hK, hA, hAD, hr, hlk⟩ := hG
  intro has ls H locs hl hP hS
  exact lv_aload_n hx hb hd rfl (lv_at hl k hk) (kk has ls H locs hl hP hS)
theorem g_aload (hG : Rl l R D tys cc own nL ret as Post G) {i : Nat} {x : Nat} (k : Nat) (hk : lv[k]? = some (i, .ref x)) (hd : decode cc pc = .ok (.aload i, 2)) (kk : G (pc + 2) lv (.ref x :: st) ws) : G pc lv st ws := by
  obtain ⟨p, e, s, m, args, below, meth, c, A, rfl, hx, hb, hml, hown, hts, hK, hA, hAD, hr, hlk⟩ := hG
  intro has ls H locs hl hP hS
  exact lv_aload hx hb hd (lv_at hl k hk) (kk has ls H locs hl hP hS)
theorem g_istore_n (hG : Rl l R D tys cc own nL ret as Post G) {f : Fin 4} {x : Int32} {lv' : List (Nat × Value)} (hn : (f : Nat) < nL) (hl' : ((f : Nat), Value.int x) :: lv.filter (fun q => !(q.1 == (f : Nat)) && !(q.1 + 1 == (f : Nat) && q.2.category == 2)) = lv') (hd : decode cc pc = .ok (.istore_n f, 1)) (kk : G (pc + 1) lv' st ws) : G pc lv (.int x :: st) ws := by
  obtain ⟨p, e, s, m, args, below, meth, c, A, rfl, hx, hb, hml, hown, hts, hK, hA, hAD, hr, hlk⟩ := hG
  intro has ls H locs hl hP hS
  exact lv_istore_n hx hb hd rfl hl hn hl' (fun ls' hl' => kk has ls' H locs hl' hP hS)
theorem g_istore (hG : Rl l R D tys cc own nL ret as Post G) {i : Nat} {x : Int32} {lv' : List (Nat × Value)} (hn : i < nL) (hl' : (i, Value.int x) :: lv.filter (fun q => !(q.1 == i) && !(q.1 + 1 == i && q.2.category == 2)) = lv') (hd : decode cc pc = .ok (.istore i, 2)) (kk : G (pc + 2) lv' st ws) : G pc lv (.int x :: st) ws := by
  obtain ⟨p, e, s, m, args, below, meth, c, A, rfl, hx, hb, hml, hown, hts, hK, hA, hAD, hr, hlk⟩ := hG
  intro has ls H locs hl hP hS
  exact lv_istore hx hb hd hl hn hl' (fun ls' hl' => kk has ls' H locs hl' hP hS)
theorem g_lstore_n (hG : Rl l R D tys cc own nL ret as Post G) {f : Fin 4} {x : Int64} {lv' : List (Nat × Value)} (hn : (f : Nat) + 1 < nL) (hl' : ((f : Nat), Value.long x) :: lv.filter (fun q => !(q.1 == (f : Nat)) && (!(q.1 == (f : Nat) + 1) && !(q.1 + 1 == (f : Nat) && q.2.category == 2))) = lv') (hd : decode cc pc = .ok (.lstore_n f, 1)) (kk : G (pc + 1) lv' st ws) : G pc lv (.long x :: st) ws := by
  obtain ⟨p, e, s, m, args, below, meth, c, A, rfl, hx, hb, hml, hown, hts, hK, hA, hAD, hr, hlk⟩ := hG
  intro has ls H locs hl hP hS
  exact lv_lstore_n hx hb hd rfl hl hn hl' (fun ls' hl' => kk has ls' H locs hl' hP hS)
theorem g_lstore (hG : Rl l R D tys cc own nL ret as Post G) {i : Nat} {x : Int64} {lv' : List (Nat × Value)} (hn : i + 1 < nL) (hl' : (i, Value.long x) :: lv.filter (fun q => !(q.1 == i) && (!(q.1 == i + 1) && !(q.1 + 1 == i && q.2.category == 2))) = lv') (hd : decode cc pc = .ok (.lstore i, 2)) (kk : G (pc + 2) lv' st ws) : G pc lv (.long x :: st) ws := by
  obtain ⟨p, e, s, m, args, below, meth, c, A, rfl, hx, hb, hml, hown, hts, hK, hA, hAD, hr, hlk⟩ := hG
  intro has ls H locs hl hP hS
  exact lv_lstore hx hb hd hl hn hl' (fun ls' hl' => kk has ls' H locs hl' hP hS)
theorem g_astore_n (hG : Rl l R D tys cc own nL ret as Post G) {f : Fin 4} {x : Nat} {lv' : List (Nat × Value)} (hn : (f : Nat) < nL) (hl' : ((f : Nat), Value.ref x) :: lv.filter (fun q => !(q.1 == (f : Nat)) && !(q.1 + 1 == (f : Nat) && q.2.category == 2)) = lv') (hd : decode cc pc = .ok (.astore_n f, 1)) (kk : G (pc + 1) lv' st ws) : G pc lv (.ref x :: st) ws := by
  obtain ⟨p, e, s, m, args, below, meth, c, A, rfl, hx, hb, hml, hown, hts, hK, hA, hAD, hr, hlk⟩ := hG
  intro has ls H locs hl hP hS
  exact lv_astore_n hx hb hd rfl hl hn hl' (fun ls' hl' => kk has ls' H locs hl' hP hS)
theorem g_astore (hG : Rl l R D tys cc own nL ret as Post G) {i : Nat} {x : Nat} {lv' : List (Nat × Value)} (hn : i < nL) (hl' : (i, Value.ref x) :: lv.filter (fun q => !(q.1 == i) && !(q.1 + 1 == i && q.2.category == 2)) = lv') (hd : decode cc pc = .ok (.astore i, 2)) (kk : G (pc + 2) lv' st ws) : G pc lv (.ref x :: st) ws := by
  obtain ⟨p, e, s, m, args, below, meth, c, A, rfl, hx, hb, hml, hown, hts, hK, hA, hAD, hr, hlk⟩ := hG
  intro has ls H locs hl hP hS
  exact lv_astore hx hb hd hl hn hl' (fun ls' hl' => kk has ls' H locs hl' hP hS)
theorem g_iinc (hG : Rl l R D tys cc own nL ret as Post G) {i : Nat} {n z : Int} {lv' : List (Nat × Value)} (k : Nat) (hk : lv[k]? = some (i, iV z)) (hn : i < nL) (hl' : (i, iV (z + n)) :: lv.filter (fun q => !(q.1 == i) && !(q.1 + 1 == i && q.2.category == 2)) = lv') (hd : decode cc pc = .ok (.iinc i n, 3)) (kk : G (pc + 3) lv' st ws) : G pc lv st ws := by
  obtain ⟨p, e, s, m, args, below, meth, c, A, rfl, hx, hb, hml, hown, hts, hK, hA, hAD, hr, hlk⟩ := hG
  intro has ls H locs hl hP hS
  exact lv_iinc hx hb hd hl hk (v := iI (z + n)) (iI_add z n) hn hl' (fun ls' hl' => kk has ls' H locs hl' hP hS)
theorem g_iadd (hG : Rl l R D tys cc own nL ret as Post G) {a b : Int} (hd : decode cc pc = .ok (.iadd, 1)) (k : G (pc + 1) lv (iV (a + b) :: st) ws) : G pc lv (iV b :: iV a :: st) ws := by
  obtain ⟨p, e, s, m, args, below, meth, c, A, rfl, hx, hb, hml, hown, hts, hK, hA, hAD, hr, hlk⟩ := hG
  intro has ls H locs hl hP hS
  exact lv_iadd hx hb hd (by rw [iI_add]; exact k has ls H locs hl hP hS)
theorem g_isub (hG : Rl l R D tys cc own nL ret as Post G) {a b : Int} (hd : decode cc pc = .ok (.isub, 1)) (k : G (pc + 1) lv (iV (a - b) :: st) ws) : G pc lv (iV b :: iV a :: st) ws := by
  obtain ⟨p, e, s, m, args, below, meth, c, A, rfl, hx, hb, hml, hown, hts, hK, hA, hAD, hr, hlk⟩ := hG
  intro has ls H locs hl hP hS
  exact lv_isub hx hb hd (by rw [iI_sub]; exact k has ls H locs hl hP hS)
theorem g_imul (hG : Rl l R D tys cc own nL ret as Post G) {a b : Int} (hd : decode cc pc = .ok (.imul, 1)) (k : G (pc + 1) lv (iV (a * b) :: st) ws) : G pc lv (iV b :: iV a :: st) ws := by
  obtain ⟨p, e, s, m, args, below, meth, c, A, rfl, hx, hb, hml, hown, hts, hK, hA, hAD, hr, hlk⟩ := hG
  intro has ls H locs hl hP hS
  exact lv_imul hx hb hd (by rw [iI_mul]; exact k has ls H locs hl hP hS)
theorem g_ladd (hG : Rl l R D tys cc own nL ret as Post G) {a b : Int} (hd : decode cc pc = .ok (.ladd, 1)) (k : G (pc + 1) lv (lV (a + b) :: st) ws) : G pc lv (lV b :: lV a :: st) ws := by
  obtain ⟨p, e, s, m, args, below, meth, c, A, rfl, hx, hb, hml, hown, hts, hK, hA, hAD, hr, hlk⟩ := hG
  intro has ls H locs hl hP hS
  exact lv_ladd hx hb hd (by rw [lI_add]; exact k has ls H locs hl hP hS)
theorem g_lsub (hG : Rl l R D tys cc own nL ret as Post G) {a b : Int} (hd : decode cc pc = .ok (.lsub, 1)) (k : G (pc + 1) lv (lV (a - b) :: st) ws) : G pc lv (lV b :: lV a :: st) ws := by
  obtain ⟨p, e, s, m, args, below, meth, c, A, rfl, hx, hb, hml, hown, hts, hK, hA, hAD, hr, hlk⟩ := hG
  intro has ls H locs hl hP hS
  exact lv_lsub hx hb hd (by rw [lI_sub]; exact k has ls H locs hl hP hS)
theorem g_lmul (hG : Rl l R D tys cc own nL ret as Post G) {a b : Int} (hd : decode cc pc = .ok (.lmul, 1)) (k : G (pc + 1) lv (lV (a * b) :: st) ws) : G pc lv (lV b :: lV a :: st) ws := by
  obtain ⟨p, e, s, m, args, below, meth, c, A, rfl, hx, hb, hml, hown, hts, hK, hA, hAD, hr, hlk⟩ := hG
  intro has ls H locs hl hP hS
  exact lv_lmul hx hb hd (by rw [lI_mul]; exact k has ls H locs hl hP hS)
theorem g_ineg (hG : Rl l R D tys cc own nL ret as Post G) {a : Int} (hd : decode cc pc = .ok (.ineg, 1)) (k : G (pc + 1) lv (iV (-a) :: st) ws) : G pc lv (iV a :: st) ws := by
  obtain ⟨p, e, s, m, args, below, meth, c, A, rfl, hx, hb, hml, hown, hts, hK, hA, hAD, hr, hlk⟩ := hG
  intro has ls H locs hl hP hS
  exact lv_ineg hx hb hd (by rw [iI_neg]; exact k has ls H locs hl hP hS)
theorem g_lneg (hG : Rl l R D tys cc own nL ret as Post G) {a : Int} (hd : decode cc pc = .ok (.lneg, 1)) (k : G (pc + 1) lv (lV (-a) :: st) ws) : G pc lv (lV a :: st) ws := by
  obtain ⟨p, e, s, m, args, below, meth, c, A, rfl, hx, hb, hml, hown, hts, hK, hA, hAD, hr, hlk⟩ := hG
  intro has ls H locs hl hP hS
  exact lv_lneg hx hb hd (by rw [lI_neg]; exact k has ls H locs hl hP hS)
theorem g_ldiv (hG : Rl l R D tys cc own nL ret as Post G) {a b : Int} (ha : InL a) (hb' : InL b) (hne : b ≠ 0) (hm : ¬ (a = -9223372036854775808 ∧ b = -1)) (hd : decode cc pc = .ok (.ldiv, 1)) (k : G (pc + 1) lv (lV (a.tdiv b) :: st) ws) : G pc lv (lV b :: lV a :: st) ws := by
  obtain ⟨p, e, s, m, args, below, meth, c, A, rfl, hx, hb, hml, hown, hts, hK, hA, hAD, hr, hlk⟩ := hG
  intro has ls H locs hl hP hS
  exact lv_ldiv hx hb hd (fun h => hne ((lI_eq0 hb').mp h)) (by rw [lI_ldiv ha hb' hne hm]; exact k has ls H locs hl hP hS)
theorem g_lrem (hG : Rl l R D tys cc own nL ret as Post G) {a b : Int} (ha : InL a) (hb' : InL b) (hne : b ≠ 0) (hd : decode cc pc = .ok (.lrem, 1)) (k : G (pc + 1) lv (lV (a.tmod b) :: st) ws) : G pc lv (lV b :: lV a :: st) ws := by
  obtain ⟨p, e, s, m, args, below, meth, c, A, rfl, hx, hb, hml, hown, hts, hK, hA, hAD, hr, hlk⟩ := hG
  intro has ls H locs hl hP hS
  exact lv_lrem hx hb hd (fun h => hne ((lI_eq0 hb').mp h)) (by rw [lI_lrem ha hb' hne]; exact k has ls H locs hl hP hS)
theorem g_idiv (hG : Rl l R D tys cc own nL ret as Post G) {a b : Int} (ha : InI a) (hb' : InI b) (hne : b ≠ 0) (hd : decode cc pc = .ok (.idiv, 1)) (k : G (pc + 1) lv (iV (a.tdiv b) :: st) ws) : G pc lv (iV b :: iV a :: st) ws := by
  obtain ⟨p, e, s, m, args, below, meth, c, A, rfl, hx, hb, hml, hown, hts, hK, hA, hAD, hr, hlk⟩ := hG
  intro has ls H locs hl hP hS
  exact lv_idiv hx hb hd (fun h => hne ((iI_eq0 hb').mp h)) (by rw [iI_idiv ha hb']; exact k has ls H locs hl hP hS)
theorem g_irem (hG : Rl l R D tys cc own nL ret as Post G) {a b : Int} (ha : InI a) (hb' : InI b) (hne : b ≠ 0) (hd : decode cc pc = .ok (.irem, 1)) (k : G (pc + 1) lv (iV (a.tmod b) :: st) ws) : G pc lv (iV b :: iV a :: st) ws := by
  obtain ⟨p, e, s, m, args, below, meth, c, A, rfl, hx, hb, hml, hown, hts, hK, hA, hAD, hr, hlk⟩ := hG
  intro has ls H locs hl hP hS
  exact lv_irem hx hb hd (fun h => hne ((iI_eq0 hb').mp h)) (by rw [iI_irem ha hb']; exact k has ls H locs hl hP hS)
theorem g_i2l (hG : Rl l R D tys cc own nL ret as Post G) {a : Int} (ha : InI a) (hd : decode cc pc = .ok (.i2l, 1)) (k : G (pc + 1) lv (lV a :: st) ws) : G pc lv (iV a :: st) ws := by
  obtain ⟨p, e, s, m, args, below, meth, c, A, rfl, hx, hb, hml, hown, hts, hK, hA, hAD, hr, hlk⟩ := hG
  intro has ls H locs hl hP hS
  exact lv_i2l hx hb hd (iI_l ha) (k has ls H locs hl hP hS)
theorem g_ishl (hG : Rl l R D tys cc own nL ret as Post G) {x y : Int32} {z : Int} (hz : x <<< (y &&& 31) = iI z) (hd : decode cc pc = .ok (.ishl, 1)) (k : G (pc + 1) lv (iV z :: st) ws) : G pc lv (.int y :: .int x :: st) ws := by
  obtain ⟨p, e, s, m, args, below, meth, c, A, rfl, hx, hb, hml, hown, hts, hK, hA, hAD, hr, hlk⟩ := hG
  intro has ls H locs hl hP hS
  exact lv_ishl hx hb hd (by rw [hz]; exact k has ls H locs hl hP hS)
theorem g_ishr (hG : Rl l R D tys cc own nL ret as Post G) {x y : Int32} {z : Int} (hz : x >>> (y &&& 31) = iI z) (hd : decode cc pc = .ok (.ishr, 1)) (k : G (pc + 1) lv (iV z :: st) ws) : G pc lv (.int y :: .int x :: st) ws := by
  obtain ⟨p, e, s, m, args, below, meth, c, A, rfl, hx, hb, hml, hown, hts, hK, hA, hAD, hr, hlk⟩ := hG
  intro has ls H locs hl hP hS
  exact lv_ishr hx hb hd (by rw [hz]; exact k has ls H locs hl hP hS)
theorem g_iand (hG : Rl l R D tys cc own nL ret as Post G) {x y : Int32} {z : Int} (hz : x &&& y = iI z) (hd : decode cc pc = .ok (.iand, 1)) (k : G (pc + 1) lv (iV z :: st) ws) : G pc lv (.int y :: .int x :: st) ws := by
  obtain ⟨p, e, s, m, args, below, meth, c, A, rfl, hx, hb, hml, hown, hts, hK, hA, hAD, hr, hlk⟩ := hG
  intro has ls H locs hl hP hS
  exact lv_iand hx hb hd (by rw [hz]; exact k has ls H locs hl hP hS)
theorem g_ior (hG : Rl l R D tys cc own nL ret as Post G) {x y : Int32} {z : Int} (hz : x ||| y = iI z) (hd : decode cc pc = .ok (.ior, 1)) (k : G (pc + 1) lv (iV z :: st) ws) : G pc lv (.int y :: .int x :: st) ws := by
  obtain ⟨p, e, s, m, args, below, meth, c, A, rfl, hx, hb, hml, hown, hts, hK, hA, hAD, hr, hlk⟩ := hG
  intro has ls H locs hl hP hS
  exact lv_ior hx hb hd (by rw [hz]; exact k has ls H locs hl hP hS)
theorem g_dup (hG : Rl l R D tys cc own nL ret as Post G) {v : Value} (hc : v.category = 1) (hd : decode cc pc = .ok (.dup, 1)) (k : G (pc + 1) lv (v :: v :: st) ws) : G pc lv (v :: st) ws := by
  obtain ⟨p, e, s, m, args, below, meth, c, A, rfl, hx, hb, hml, hown, hts, hK, hA, hAD, hr, hlk⟩ := hG
  intro has ls H locs hl hP hS
  exact lv_dup hx hb hd hc (k has ls H locs hl hP hS)
theorem g_pop (hG : Rl l R D tys cc own nL ret as Post G) {v : Value} (hc : v.category = 1) (hd : decode cc pc = .ok (.pop, 1)) (k : G (pc + 1) lv st ws) : G pc lv (v :: st) ws := by
  obtain ⟨p, e, s, m, args, below, meth, c, A, rfl, hx, hb, hml, hown, hts, hK, hA, hAD, hr, hlk⟩ := hG
  intro has ls H locs hl hP hS
  exact lv_pop hx hb hd hc (k has ls H locs hl hP hS)
theorem g_dup2_11 (hG : Rl l R D tys cc own nL ret as Post G) {v w : Value} (hc : v.category = 1) (hc' : w.category = 1) (hd : decode cc pc = .ok (.dup2, 1)) (k : G (pc + 1) lv (v :: w :: v :: w :: st) ws) : G pc lv (v :: w :: st) ws := by
  obtain ⟨p, e, s, m, args, below, meth, c, A, rfl, hx, hb, hml, hown, hts, hK, hA, hAD, hr, hlk⟩ := hG
  intro has ls H locs hl hP hS
  exact lv_dup2_11 hx hb hd hc hc' (k has ls H locs hl hP hS)
theorem g_goto (hG : Rl l R D tys cc own nL ret as Post G) {off : Int} {tgt : Nat} (ht : (pc : Int) + off = (tgt : Int)) (hd : decode cc pc = .ok (.goto off, 3)) (k : G tgt lv st ws) : G pc lv st ws := by
  obtain ⟨p, e, s, m, args, below, meth, c, A, rfl, hx, hb, hml, hown, hts, hK, hA, hAD, hr, hlk⟩ := hG
  intro has ls H locs hl hP hS
  exact lv_goto hx hb hd ht (k has ls H locs hl hP hS)
theorem g_if_eq (hG : Rl l R D tys cc own nL ret as Post G) {a off : Int} {tgt : Nat} (ha : InI a) (ht : (pc : Int) + off = (tgt : Int)) (hd : decode cc pc = .ok (.ifCond .eq off, 3)) (kt : a = 0 → G tgt lv st ws) (kf : ¬ a = 0 → G (pc + 3) lv st ws) : G pc lv (iV a :: st) ws := by
  obtain ⟨p, e, s, m, args, below, meth, c, A, rfl, hx, hb, hml, hown, hts, hK, hA, hAD, hr, hlk⟩ := hG
  intro has ls H locs hl hP hS
  exact lv_if_eq hx hb hd ht (fun h => (kt ((iI_eq0 ha).mp h)) has ls H locs hl hP hS) (fun h => (kf (fun q => h ((iI_eq0 ha).mpr q))) has ls H locs hl hP hS)
theorem g_if_ne (hG : Rl l R D tys cc own nL ret as Post G) {a off : Int} {tgt : Nat} (ha : InI a) (ht : (pc : Int) + off = (tgt : Int)) (hd : decode cc pc = .ok (.ifCond .ne off, 3)) (kt : ¬ a = 0 → G tgt lv st ws) (kf : a = 0 → G (pc + 3) lv st ws) : G pc lv (iV a :: st) ws := by
  obtain ⟨p, e, s, m, args, below, meth, c, A, rfl, hx, hb, hml, hown, hts, hK, hA, hAD, hr, hlk⟩ := hG
  intro has ls H locs hl hP hS
  exact lv_if_ne hx hb hd ht (fun h => (kt (fun q => h ((iI_eq0 ha).mpr q))) has ls H locs hl hP hS) (fun h => (kf ((iI_eq0 ha).mp h)) has ls H locs hl hP hS)
theorem g_if_lt (hG : Rl l R D tys cc own nL ret as Post G) {a off : Int} {tgt : Nat} (ha : InI a) (ht : (pc : Int) + off = (tgt : Int)) (hd : decode cc pc = .ok (.ifCond .lt off, 3)) (kt : a < 0 → G tgt lv st ws) (kf : ¬ a < 0 → G (pc + 3) lv st ws) : G pc lv (iV a :: st) ws := by
  obtain ⟨p, e, s, m, args, below, meth, c, A, rfl, hx, hb, hml, hown, hts, hK, hA, hAD, hr, hlk⟩ := hG
  intro has ls H locs hl hP hS
  exact lv_if_lt hx hb hd ht (fun h => (kt ((iI_lt0 ha).mp h)) has ls H locs hl hP hS) (fun h => (kf (fun q => h ((iI_lt0 ha).mpr q))) has ls H locs hl hP hS)
theorem g_if_ge (hG : Rl l R D tys cc own nL ret as Post G) {a off : Int} {tgt : Nat} (ha : InI a) (ht : (pc : Int) + off = (tgt : Int)) (hd : decode cc pc = .ok (.ifCond .ge off, 3)) (kt : 0 ≤ a → G tgt lv st ws) (kf : ¬ 0 ≤ a → G (pc + 3) lv st ws) : G pc lv (iV a :: st) ws := by
  obtain ⟨p, e, s, m, args, below, meth, c, A, rfl, hx, hb, hml, hown, hts, hK, hA, hAD, hr, hlk⟩ := hG
  intro has ls H locs hl hP hS
  exact lv_if_ge hx hb hd ht (fun h => (kt ((iI_ge0 ha).mp h)) has ls H locs hl hP hS) (fun h => (kf (fun q => h ((iI_ge0 ha).mpr q))) has ls H locs hl hP hS)
theorem g_if_gt (hG : Rl l R D tys cc own nL ret as Post G) {a off : Int} {tgt : Nat} (ha : InI a) (ht : (pc : Int) + off = (tgt : Int)) (hd : decode cc pc = .ok (.ifCond .gt off, 3)) (kt : 0 < a → G tgt lv st ws) (kf : ¬ 0 < a → G (pc + 3) lv st ws) : G pc lv (iV a :: st) ws := by
  obtain ⟨p, e, s, m, args, below, meth, c, A, rfl, hx, hb, hml, hown, hts, hK, hA, hAD, hr, hlk⟩ := hG
  intro has ls H locs hl hP hS
  exact lv_if_gt hx hb hd ht (fun h => (kt ((iI_gt0 ha).mp h)) has ls H locs hl hP hS) (fun h => (kf (fun q => h ((iI_gt0 ha).mpr q))) has ls H locs hl hP hS)
theorem g_if_le (hG : Rl l R D tys cc own nL ret as Post G) {a off : Int} {tgt : Nat} (ha : InI a) (ht : (pc : Int) + off = (tgt : Int)) (hd : decode cc pc = .ok (.ifCond .le off, 3)) (kt : a ≤ 0 → G tgt lv st ws) (kf : ¬ a ≤ 0 → G (pc + 3) lv st ws) : G pc lv (iV a :: st) ws := by
  obtain ⟨p, e, s, m, args, below, meth, c, A, rfl, hx, hb, hml, hown, hts, hK, hA, hAD, hr, hlk⟩ := hG
  intro has ls H locs hl hP hS
  exact lv_if_le hx hb hd ht (fun h => (kt ((iI_le0 ha).mp h)) has ls H locs hl hP hS) (fun h => (kf (fun q => h ((iI_le0 ha).mpr q))) has ls H locs hl hP hS)
theorem g_ifb_eq (hG : Rl l R D tys cc own nL ret as Post G) {b : Bool} {off : Int} {tgt : Nat} (ht : (pc : Int) + off = (tgt : Int)) (hd : decode cc pc = .ok (.ifCond .eq off, 3)) (kt : b = false → G tgt lv st ws) (kf : b = true → G (pc + 3) lv st ws) : G pc lv (bV b :: st) ws := by
  obtain ⟨p, e, s, m, args, below, meth, c, A, rfl, hx, hb, hml, hown, hts, hK, hA, hAD, hr, hlk⟩ := hG
  intro has ls H locs hl hP hS
  exact lv_if_eq hx hb hd ht (fun h => kt ((bI_eq0 b).mp h) has ls H locs hl hP hS) (fun h => kf (by cases b with | false => exact absurd rfl h | true => rfl) has ls H locs hl hP hS)
theorem g_ifb_ne (hG : Rl l R D tys cc own nL ret as Post G) {b : Bool} {off : Int} {tgt : Nat} (ht : (pc : Int) + off = (tgt : Int)) (hd : decode cc pc = .ok (.ifCond .ne off, 3)) (kt : b = true → G tgt lv st ws) (kf : b = false → G (pc + 3) lv st ws) : G pc lv (bV b :: st) ws := by
  obtain ⟨p, e, s, m, args, below, meth, c, A, rfl, hx, hb, hml, hown, hts, hK, hA, hAD, hr, hlk⟩ := hG
  intro has ls H locs hl hP hS
  exact lv_if_ne hx hb hd ht (fun h => kt (by cases b with | false => exact absurd rfl h | true => rfl) has ls H locs hl hP hS) (fun h => kf ((bI_eq0 b).mp h) has ls H locs hl hP hS)
theorem g_icmp_eq (hG : Rl l R D tys cc own nL ret as Post G) {a b off : Int} {tgt : Nat} (ha : InI a) (hb' : InI b) (ht : (pc : Int) + off = (tgt : Int)) (hd : decode cc pc = .ok (.if_icmp .eq off, 3)) (kt : a = b → G tgt lv st ws) (kf : ¬ a = b → G (pc + 3) lv st ws) : G pc lv (iV b :: iV a :: st) ws := by
  obtain ⟨p, e, s, m, args, below, meth, c, A, rfl, hx, hb, hml, hown, hts, hK, hA, hAD, hr, hlk⟩ := hG
  intro has ls H locs hl hP hS
  exact lv_icmp_eq hx hb hd ht (fun h => kt ((iI_eq ha hb').mp h) has ls H locs hl hP hS) (fun h => kf (fun q => h ((iI_eq ha hb').mpr q)) has ls H locs hl hP hS)
theorem g_icmp_ne (hG : Rl l R D tys cc own nL ret as Post G) {a b off : Int} {tgt : Nat} (ha : InI a) (hb' : InI b) (ht : (pc : Int) + off = (tgt : Int)) (hd : decode cc pc = .ok (.if_icmp .ne off, 3)) (kt : ¬ a = b → G tgt lv st ws) (kf : a = b → G (pc + 3) lv st ws) : G pc lv (iV b :: iV a :: st) ws := by
  obtain ⟨p, e, s, m, args, below, meth, c, A, rfl, hx, hb, hml, hown, hts, hK, hA, hAD, hr, hlk⟩ := hG
  intro has ls H locs hl hP hS
  exact lv_icmp_ne hx hb hd ht (fun h => kt (fun q => h ((iI_eq ha hb').mpr q)) has ls H locs hl hP hS) (fun h => kf ((iI_eq ha hb').mp h) has ls H locs hl hP hS)
theorem g_icmp_lt (hG : Rl l R D tys cc own nL ret as Post G) {a b off : Int} {tgt : Nat} (ha : InI a) (hb' : InI b) (ht : (pc : Int) + off = (tgt : Int)) (hd : decode cc pc = .ok (.if_icmp .lt off, 3)) (kt : a < b → G tgt lv st ws) (kf : ¬ a < b → G (pc + 3) lv st ws) : G pc lv (iV b :: iV a :: st) ws := by
  obtain ⟨p, e, s, m, args, below, meth, c, A, rfl, hx, hb, hml, hown, hts, hK, hA, hAD, hr, hlk⟩ := hG
  intro has ls H locs hl hP hS
  exact lv_icmp_lt hx hb hd ht (fun h => kt ((iI_lt ha hb').mp h) has ls H locs hl hP hS) (fun h => kf (fun q => h ((iI_lt ha hb').mpr q)) has ls H locs hl hP hS)
theorem g_icmp_ge (hG : Rl l R D tys cc own nL ret as Post G) {a b off : Int} {tgt : Nat} (ha : InI a) (hb' : InI b) (ht : (pc : Int) + off = (tgt : Int)) (hd : decode cc pc = .ok (.if_icmp .ge off, 3)) (kt : b ≤ a → G tgt lv st ws) (kf : ¬ b ≤ a → G (pc + 3) lv st ws) : G pc lv (iV b :: iV a :: st) ws := by
  obtain ⟨p, e, s, m, args, below, meth, c, A, rfl, hx, hb, hml, hown, hts, hK, hA, hAD, hr, hlk⟩ := hG
  intro has ls H locs hl hP hS
  exact lv_icmp_ge hx hb hd ht (fun h => kt ((iI_le hb' ha).mp h) has ls H locs hl hP hS) (fun h => kf (fun q => h ((iI_le hb' ha).mpr q)) has ls H locs hl hP hS)
theorem g_icmp_gt (hG : Rl l R D tys cc own nL ret as Post G) {a b off : Int} {tgt : Nat} (ha : InI a) (hb' : InI b) (ht : (pc : Int) + off = (tgt : Int)) (hd : decode cc pc = .ok (.if_icmp .gt off, 3)) (kt : b < a → G tgt lv st ws) (kf : ¬ b < a → G (pc + 3) lv st ws) : G pc lv (iV b :: iV a :: st) ws := by
  obtain ⟨p, e, s, m, args, below, meth, c, A, rfl, hx, hb, hml, hown, hts, hK, hA, hAD, hr, hlk⟩ := hG
  intro has ls H locs hl hP hS
  exact lv_icmp_gt hx hb hd ht (fun h => kt ((iI_lt hb' ha).mp h) has ls H locs hl hP hS) (fun h => kf (fun q => h ((iI_lt hb' ha).mpr q)) has ls H locs hl hP hS)
theorem g_icmp_le (hG : Rl l R D tys cc own nL ret as Post G) {a b off : Int} {tgt : Nat} (ha : InI a) (hb' : InI b) (ht : (pc : Int) + off = (tgt : Int)) (hd : decode cc pc = .ok (.if_icmp .le off, 3)) (kt : a ≤ b → G tgt lv st ws) (kf : ¬ a ≤ b → G (pc + 3) lv st ws) : G pc lv (iV b :: iV a :: st) ws := by
  obtain ⟨p, e, s, m, args, below, meth, c, A, rfl, hx, hb, hml, hown, hts, hK, hA, hAD, hr, hlk⟩ := hG
  intro has ls H locs hl hP hS
  exact lv_icmp_le hx hb hd ht (fun h => kt ((iI_le ha hb').mp h) has ls H locs hl hP hS) (fun h => kf (fun q => h ((iI_le ha hb').mpr q)) has ls H locs hl hP hS)
theorem g_icmpb_eq (hG : Rl l R D tys cc own nL ret as Post G) {a b : Bool} {off : Int} {tgt : Nat} (ht : (pc : Int) + off = (tgt : Int)) (hd : decode cc pc = .ok (.if_icmp .eq off, 3)) (kt : a = b → G tgt lv st ws) (kf : ¬ a = b → G (pc + 3) lv st ws) : G pc lv (bV b :: bV a :: st) ws := by
  obtain ⟨p, e, s, m, args, below, meth, c, A, rfl, hx, hb, hml, hown, hts, hK, hA, hAD, hr, hlk⟩ := hG
  intro has ls H locs hl hP hS
  exact lv_icmp_eq hx hb hd ht (fun h => kt ((bI_eq a b).mp h) has ls H locs hl hP hS) (fun h => kf (fun q => h ((bI_eq a b).mpr q)) has ls H locs hl hP hS)
theorem g_icmpb_ne (hG : Rl l R D tys cc own nL ret as Post G) {a b : Bool} {off : Int} {tgt : Nat} (ht : (pc : Int) + off = (tgt : Int)) (hd : decode cc pc = .ok (.if_icmp .ne off, 3)) (kt : ¬ a = b → G tgt lv st ws) (kf : a = b → G (pc + 3) lv st ws) : G pc lv (bV b :: bV a :: st) ws := by
  obtain ⟨p, e, s, m, args, below, meth, c, A, rfl, hx, hb, hml, hown, hts, hK, hA, hAD, hr, hlk⟩ := hG
  intro has ls H locs hl hP hS
  exact lv_icmp_ne hx hb hd ht (fun h => kt (fun q => h ((bI_eq a b).mpr q)) has ls H locs hl hP hS) (fun h => kf ((bI_eq a b).mp h) has ls H locs hl hP hS)
theorem lgc_lt {x y : Int64} : lg_cmp x y < 0 ↔ x < y := lg_cmp_lt x y
theorem lgc_gt {x y : Int64} : 0 < lg_cmp x y ↔ y < x := lg_cmp_gt x y
theorem lgc_eq {x y : Int64} : lg_cmp x y = 0 ↔ x = y := lg_cmp_eq x y
theorem lgc_ge {x y : Int64} : 0 ≤ lg_cmp x y ↔ y ≤ x := lg_cmp_ge x y
theorem lgc_le {x y : Int64} : lg_cmp x y ≤ 0 ↔ x ≤ y := lg_cmp_le x y
theorem g_lc_eq (hG : Rl l R D tys cc own nL ret as Post G) {a b off : Int} {tgt : Nat} (ha : InL a) (hb' : InL b) (ht : ((pc + 1 : Nat) : Int) + off = (tgt : Int)) (hd : decode cc pc = .ok (.lcmp, 1)) (hd2 : decode cc (pc + 1) = .ok (.ifCond .eq off, 3)) (kt : a = b → G tgt lv st ws) (kf : ¬ a = b → G (pc + 4) lv st ws) : G pc lv (lV b :: lV a :: st) ws := by
  obtain ⟨p, e, s, m, args, below, meth, c, A, rfl, hx, hb, hml, hown, hts, hK, hA, hAD, hr, hlk⟩ := hG
  intro has ls H locs hl hP hS
  exact W.lcmp hx hb hd (lv_if_eq hx hb hd2 ht (fun h => kt ((lI_eq ha hb').mp (lgc_eq.mp h)) has ls H locs hl hP hS) (fun h => kf (fun q => h (lgc_eq.mpr ((lI_eq ha hb').mpr q))) has ls H locs hl hP hS))
theorem g_lc_ne (hG : Rl l R D tys cc own nL ret as Post G) {a b off : Int} {tgt : Nat} (ha : InL a) (hb' : InL b) (ht : ((pc + 1 : Nat) : Int) + off = (tgt : Int)) (hd : decode cc pc = .ok (.lcmp, 1)) (hd2 : decode cc (pc + 1) = .ok (.ifCond .ne off, 3)) (kt : ¬ a = b → G tgt lv st ws) (kf : a = b → G (pc + 4) lv st ws) : G pc lv (lV b :: lV a :: st) ws := by
  obtain ⟨p, e, s, m, args, below, meth, c, A, rfl, hx, hb, hml, hown, hts, hK, hA, hAD, hr, hlk⟩ := hG
  intro has ls H locs hl hP hS
  exact W.lcmp hx hb hd (lv_if_ne hx hb hd2 ht (fun h => kt (fun q => h (lgc_eq.mpr ((lI_eq ha hb').mpr q))) has ls H locs hl hP hS) (fun h => kf ((lI_eq ha hb').mp (lgc_eq.mp h)) has ls H locs hl hP hS))
theorem g_lc_lt (hG : Rl l R D tys cc own nL ret as Post G) {a b off : Int} {tgt : Nat} (ha : InL a) (hb' : InL b) (ht : ((pc + 1 : Nat) : Int) + off = (tgt : Int)) (hd : decode cc pc = .ok (.lcmp, 1)) (hd2 : decode cc (pc + 1) = .ok (.ifCond .lt off, 3)) (kt : a < b → G tgt lv st ws) (kf : ¬ a < b → G (pc + 4) lv st ws) : G pc lv (lV b :: lV a :: st) ws := by
  obtain ⟨p, e, s, m, args, below, meth, c, A, rfl, hx, hb, hml, hown, hts, hK, hA, hAD, hr, hlk⟩ := hG
  intro has ls H locs hl hP hS
  exact W.lcmp hx hb hd (lv_if_lt hx hb hd2 ht (fun h => kt ((lI_lt ha hb').mp (lgc_lt.mp h)) has ls H locs hl hP hS) (fun h => kf (fun q => h (lgc_lt.mpr ((lI_lt ha hb').mpr q))) has ls H locs hl hP hS))
theorem g_lc_ge (hG : Rl l R D tys cc own nL ret as Post G) {a b off : Int} {tgt : Nat} (ha : InL a) (hb' : InL b) (ht : ((pc + 1 : Nat) : Int) + off = (tgt : Int)) (hd : decode cc pc = .ok (.lcmp, 1)) (hd2 : decode cc (pc + 1) = .ok (.ifCond .ge off, 3)) (kt : b ≤ a → G tgt lv st ws) (kf : ¬ b ≤ a → G (pc + 4) lv st ws) : G pc lv (lV b :: lV a :: st) ws := by
  obtain ⟨p, e, s, m, args, below, meth, c, A, rfl, hx, hb, hml, hown, hts, hK, hA, hAD, hr, hlk⟩ := hG
  intro has ls H locs hl hP hS
  exact W.lcmp hx hb hd (lv_if_ge hx hb hd2 ht (fun h => kt ((lI_le hb' ha).mp (lgc_ge.mp h)) has ls H locs hl hP hS) (fun h => kf (fun q => h (lgc_ge.mpr ((lI_le hb' ha).mpr q))) has ls H locs hl hP hS))
theorem g_lc_gt (hG : Rl l R D tys cc own nL ret as Post G) {a b off : Int} {tgt : Nat} (ha : InL a) (hb' : InL b) (ht : ((pc + 1 : Nat) : Int) + off = (tgt : Int)) (hd : decode cc pc = .ok (.lcmp, 1)) (hd2 : decode cc (pc + 1) = .ok (.ifCond .gt off, 3)) (kt : b < a → G tgt lv st ws) (kf : ¬ b < a → G (pc + 4) lv st ws) : G pc lv (lV b :: lV a :: st) ws := by
  obtain ⟨p, e, s, m, args, below, meth, c, A, rfl, hx, hb, hml, hown, hts, hK, hA, hAD, hr, hlk⟩ := hG
  intro has ls H locs hl hP hS
  exact W.lcmp hx hb hd (lv_if_gt hx hb hd2 ht (fun h => kt ((lI_lt hb' ha).mp (lgc_gt.mp h)) has ls H locs hl hP hS) (fun h => kf (fun q => h (lgc_gt.mpr ((lI_lt hb' ha).mpr q))) has ls H locs hl hP hS))
theorem g_lc_le (hG : Rl l R D tys cc own nL ret as Post G) {a b off : Int} {tgt : Nat} (ha : InL a) (hb' : InL b) (ht : ((pc + 1 : Nat) : Int) + off = (tgt : Int)) (hd : decode cc pc = .ok (.lcmp, 1)) (hd2 : decode cc (pc + 1) = .ok (.ifCond .le off, 3)) (kt : a ≤ b → G tgt lv st ws) (kf : ¬ a ≤ b → G (pc + 4) lv st ws) : G pc lv (lV b :: lV a :: st) ws := by
  obtain ⟨p, e, s, m, args, below, meth, c, A, rfl, hx, hb, hml, hown, hts, hK, hA, hAD, hr, hlk⟩ := hG
  intro has ls H locs hl hP hS
  exact W.lcmp hx hb hd (lv_if_le hx hb hd2 ht (fun h => kt ((lI_le ha hb').mp (lgc_le.mp h)) has ls H locs hl hP hS) (fun h => kf (fun q => h (lgc_le.mpr ((lI_le ha hb').mpr q))) has ls H locs hl hP hS))
theorem set_fst {ws : va_W} {q0 a : Nat} {e e' : va_E} (h : ws[q0]? = some (a, e)) : (ws.set q0 (a, e')).map Prod.fst = ws.map Prod.fst := by
  rw [List.map_set]
  apply List.ext_getElem?
  intro i
  rw [List.getElem?_set]
  by_cases hi : q0 = i
  · subst hi
    have hl : q0 < ws.length := (List.getElem?_eq_some_iff.mp h).1
    have e2 : ws[q0] = (a, e) := by rw [List.getElem?_eq_getElem hl] at h; exact Option.some.inj h
    simp [hl, e2]
  · simp [hi]
/-- a field of a class that a method links: its words are among the method's -/
def FL (own : String) (index ci k : Nat) : Prop := ∃ (C : String) (T : u_T) (N : Nat), vwCl[ci]? = some (C, T, N) ∧ k < N ∧ (∀ w ∈ u_ws C T N, w ∈ lwB) ∧ Cond.fieldLink own index (T k).1 (T k).2.1 (T k).2.2.1 ∈ lwB
def FP (own : String) (index ci k : Nat) (ty : FieldType) : Prop := ∃ (C : String) (T : u_T) (N : Nat) (ty0 : Nat → FieldType), vwCl[ci]? = some (C, T, N) ∧ k < N ∧ (∀ w ∈ u_ws C T N, w ∈ lwB) ∧ Cond.fieldLink own index (T k).1 (T k).2.1 (T k).2.2.1 ∈ lwB ∧ (∀ k, k < N → parseFieldDescriptor (T k).2.2.1 = some (ty0 k)) ∧ (∀ a, a < N → ∀ b, b < N → a ≠ b → (T a).2.1 ≠ (T b).2.1) ∧ (T k).2.2.2 = false ∧ parseFieldDescriptor (T k).2.2.1 = some ty
theorem g_get (hG : Rl l R D tys cc own nL ret as Post G) {index ci k a : Nat} {fs : List Value} {v : Value} (hF : FL own index ci k) (q0 : Nat) (he : ws[q0]? = some (a, .inr (ci, fs))) (hv : fs[k]? = some v) (hd : decode cc pc = .ok (.getfield index, 3)) (kk : G (pc + 3) lv (v :: st) ws) : G pc lv (.ref a :: st) ws := by
  obtain ⟨p, e, s, m, args, below, meth, c, A, rfl, hx, hb, hml, hown, hts, hK, hA, hAD, hr, hlk⟩ := hG
  intro has ls H locs hl hP hS
  obtain ⟨C, T, N, hc, hk, hin, hlink⟩ := hF
  exact va_get (D := D) hx hb hts hin hown hK hP q0 he hc k hk (hts _ hlink) (fun _ h => h) hv hd (kk has ls H locs hl hP hS)
theorem g_put (hG : Rl l R D tys cc own nL ret as Post G) {index ci k a : Nat} {fs : List Value} {v : Value} {ty : FieldType} {ws' : va_W} (hF : FP own index ci k ty) (q0 : Nat) (he : ws[q0]? = some (a, .inr (ci, fs))) (hn : narrow ty v = v) (hf : fits ty v = true) (hlen : k < fs.length) (hw : ws.set q0 (a, .inr (ci, fs.set k v)) = ws') (hd : decode cc pc = .ok (.putfield index, 3)) (kk : G (pc + 3) lv st ws') : G pc lv (v :: .ref a :: st) ws := by
  obtain ⟨p, e, s, m, args, below, meth, c, A, rfl, hx, hb, hml, hown, hts, hK, hA, hAD, hr, hlk⟩ := hG
  intro has ls H locs hl hP hS
  obtain ⟨C, T, N, ty0, hc, hk, hin, hlink, hty, hnm, hfin, hp⟩ := hF
  subst hw
  exact va_put (D := D) hx hb hts hin ty0 hty hnm hown hK hP (hAD.D has) hS q0 he hc k hk (hts _ hlink) (fun _ h => h) hfin hp hn hf hlen hd (fun H1 locs1 hP1 _ hS1 => kk ((set_fst he).trans has) ls H1 locs1 hl hP1 hS1)
theorem bI_n (b : Bool) : narrow .boolean (.int (bI b)) = .int (bI b) := by cases b <;> rfl
theorem bI_fit (b : Bool) : fits .boolean (.int (bI b)) = true := by cases b <;> rfl
theorem g_laload (hG : Rl l R D tys cc own nL ret as Post G) {cA : ClassId} {n a : Nat} {f : Nat → Int} {z : Int} (q0 k : Nat) (he : ws[q0]? = some (a, aL cA n f)) (ht : tys[1]? = some (cA, .long)) (hz : z = (k : Int)) (hk : k < n) (hn : n < 2147483648) (hd : decode cc pc = .ok (.laload, 1)) (kk : G (pc + 1) lv (lV (f k) :: st) ws) : G pc lv (iV z :: .ref a :: st) ws := by
  obtain ⟨p, e, s, m, args, below, meth, c, A, rfl, hx, hb, hml, hown, hts, hK, hA, hAD, hr, hlk⟩ := hG
  intro has ls H locs hl hP hS
  exact va_lald (D := D) hx hb hK hP q0 1 he ht (iI_vin hz hk hn) hd (by rw [iI_clamp hz (by omega)]; exact kk has ls H locs hl hP hS)
theorem g_iaload (hG : Rl l R D tys cc own nL ret as Post G) {cA : ClassId} {n a : Nat} {f : Nat → Int} {z : Int} (q0 k : Nat) (he : ws[q0]? = some (a, aI cA n f)) (ht : tys[0]? = some (cA, .int)) (hz : z = (k : Int)) (hk : k < n) (hn : n < 2147483648) (hd : decode cc pc = .ok (.iaload, 1)) (kk : G (pc + 1) lv (iV (f k) :: st) ws) : G pc lv (iV z :: .ref a :: st) ws := by
  obtain ⟨p, e, s, m, args, below, meth, c, A, rfl, hx, hb, hml, hown, hts, hK, hA, hAD, hr, hlk⟩ := hG
  intro has ls H locs hl hP hS
  exact va_iald (D := D) hx hb hK hP q0 0 he ht (iI_vin hz hk hn) hd (by rw [iI_clamp hz (by omega)]; exact kk has ls H locs hl hP hS)
theorem g_baload (hG : Rl l R D tys cc own nL ret as Post G) {cA : ClassId} {n a : Nat} {f : Nat → Bool} {z : Int} (q0 k : Nat) (he : ws[q0]? = some (a, aZ cA n f)) (ht : tys[2]? = some (cA, .boolean)) (hz : z = (k : Int)) (hk : k < n) (hn : n < 2147483648) (hd : decode cc pc = .ok (.baload, 1)) (kk : G (pc + 1) lv (bV (f k) :: st) ws) : G pc lv (iV z :: .ref a :: st) ws := by
  obtain ⟨p, e, s, m, args, below, meth, c, A, rfl, hx, hb, hml, hown, hts, hK, hA, hAD, hr, hlk⟩ := hG
  intro has ls H locs hl hP hS
  exact va_zald (D := D) hx hb hK hP q0 2 he ht (iI_vin hz hk hn) hd (by rw [iI_clamp hz (by omega)]; exact kk has ls H locs hl hP hS)
theorem g_lastore (hG : Rl l R D tys cc own nL ret as Post G) {cA : ClassId} {n a : Nat} {f : Nat → Int} {z v : Int} {ws' : va_W} (q0 k : Nat) (he : ws[q0]? = some (a, aL cA n f)) (ht : tys[1]? = some (cA, .long)) (hz : z = (k : Int)) (hk : k < n) (hn : n < 2147483648) (hw : ws.set q0 (a, aL cA n (upZ f k v)) = ws') (hd : decode cc pc = .ok (.lastore, 1)) (kk : G (pc + 1) lv st ws') : G pc lv (lV v :: iV z :: .ref a :: st) ws := by
  obtain ⟨p, e, s, m, args, below, meth, c, A, rfl, hx, hb, hml, hown, hts, hK, hA, hAD, hr, hlk⟩ := hG
  intro has ls H locs hl hP hS
  subst hw
  exact va_last (D := D) hx hb hK hP (hAD.D has) hS q0 1 he ht (iI_vin hz hk hn) hd (fun H1 locs1 hP1 _ hS1 => kk ((set_fst he).trans has) ls H1 locs1 hl (by rw [iI_clamp hz (by omega), upZ_l] at hP1; exact hP1) hS1)
theorem g_iastore (hG : Rl l R D tys cc own nL ret as Post G) {cA : ClassId} {n a : Nat} {f : Nat → Int} {z v : Int} {ws' : va_W} (q0 k : Nat) (he : ws[q0]? = some (a, aI cA n f)) (ht : tys[0]? = some (cA, .int)) (hz : z = (k : Int)) (hk : k < n) (hn : n < 2147483648) (hw : ws.set q0 (a, aI cA n (upZ f k v)) = ws') (hd : decode cc pc = .ok (.iastore, 1)) (kk : G (pc + 1) lv st ws') : G pc lv (iV v :: iV z :: .ref a :: st) ws := by
  obtain ⟨p, e, s, m, args, below, meth, c, A, rfl, hx, hb, hml, hown, hts, hK, hA, hAD, hr, hlk⟩ := hG
  intro has ls H locs hl hP hS
  subst hw
  exact va_iast (D := D) hx hb hK hP (hAD.D has) hS q0 0 he ht (iI_vin hz hk hn) hd (fun H1 locs1 hP1 _ hS1 => kk ((set_fst he).trans has) ls H1 locs1 hl (by rw [iI_clamp hz (by omega), upZ_i] at hP1; exact hP1) hS1)
theorem g_bastore (hG : Rl l R D tys cc own nL ret as Post G) {cA : ClassId} {n a : Nat} {f : Nat → Bool} {z : Int} {v : Bool} {x : Int32} {ws' : va_W} (q0 k : Nat) (hxv : x = bI v) (he : ws[q0]? = some (a, aZ cA n f)) (ht : tys[2]? = some (cA, .boolean)) (hz : z = (k : Int)) (hk : k < n) (hn : n < 2147483648) (hw : ws.set q0 (a, aZ cA n (upB f k v)) = ws') (hd : decode cc pc = .ok (.bastore, 1)) (kk : G (pc + 1) lv st ws') : G pc lv (.int x :: iV z :: .ref a :: st) ws := by
  obtain ⟨p, e, s, m, args, below, meth, c, A, rfl, hx, hb, hml, hown, hts, hK, hA, hAD, hr, hlk⟩ := hG
  intro has ls H locs hl hP hS
  subst hw
  subst hxv
  exact va_zast (D := D) hx hb hK hP (hAD.D has) hS q0 2 he ht (iI_vin hz hk hn) hd (fun H1 locs1 hP1 _ hS1 => kk ((set_fst he).trans has) ls H1 locs1 hl (by rw [iI_clamp hz (by omega), bI_nar, upB_i] at hP1; exact hP1) hS1)
theorem g_aaload (hG : Rl l R D tys cc own nL ret as Post G) {cA : ClassId} {ty : FieldType} {n a : Nat} {r : Nat → Nat} {z : Int} (q0 t0 k : Nat) (he : ws[q0]? = some (a, aR cA n r)) (ht : tys[t0]? = some (cA, .array ty)) (hz : z = (k : Int)) (hk : k < n) (hn : n < 2147483648) (hd : decode cc pc = .ok (.aaload, 1)) (kk : G (pc + 1) lv (.ref (r k) :: st) ws) : G pc lv (iV z :: .ref a :: st) ws := by
  obtain ⟨p, e, s, m, args, below, meth, c, A, rfl, hx, hb, hml, hown, hts, hK, hA, hAD, hr, hlk⟩ := hG
  intro has ls H locs hl hP hS
  have hin := iI_vin hz hk hn
  have hcl := iI_clamp hz (by omega)
  have hlt : (iI z).toNatClampNeg < n := by omega
  exact W.aald (v := .ref (r k)) (ty := .array ty) hx hb (hP q0 _ he) ((hK.2 t0 _ ht).1 n (fun j => va_rf (if j < n then some (r j) else none))) rfl (fun q => by cases q) (by show ¬ (iI z < 0 ∨ (arrV _ _ _).slots.size ≤ _); rw [arrV_size]; exact hin) (by show (arrV _ _ _).slots[_]? = _; rw [arrV_read _ _ hlt, hcl]; show some (va_rf (if k < n then some (r k) else none)) = _; rw [if_pos hk]; rfl) rfl rfl hd (kk has ls H locs hl hP hS)
theorem g_arraylength (hG : Rl l R D tys cc own nL ret as Post G) {cA : ClassId} {ty : FieldType} {x : vp_A} {a : Nat} (q0 t0 : Nat) (he : ws[q0]? = some (a, .inl (cA, x))) (ht : tys[t0]? = some (cA, ty)) {z : Int} (hz : Int32.ofNat x.1 = iI z) (hd : decode cc pc = .ok (.arraylength, 1)) (kk : G (pc + 1) lv (iV z :: st) ws) : G pc lv (.ref a :: st) ws := by
  obtain ⟨p, e, s, m, args, below, meth, c, A, rfl, hx, hb, hml, hown, hts, hK, hA, hAD, hr, hlk⟩ := hG
  intro has ls H locs hl hP hS
  exact va_alen (D := D) hx hb hK hP q0 t0 he ht hz hd (kk has ls H locs hl hP hS)
theorem g_ireturn (hG : Rl l R D tys cc own nL (some .int) as Post G) {x : Int32} (hp : Post (some (.int x)) ws) (hd : decode cc pc = .ok (.ireturn, 1)) : G pc lv [.int x] ws := by
  obtain ⟨p, e, s, m, args, below, meth, c, A, rfl, hx, hb, hml, hown, hts, hK, hA, hAD, hr, hlk⟩ := hG
  intro has ls H locs hl hP hS
  exact W.iret (v := x) hx hb hr (fun t ht hW => ⟨⟨_, ws, rfl, hp, has, by rw [ht]; exact hP, va_K.moved hW.alike hK⟩, hS.F ht⟩) hS.2.2 hd hlk
theorem g_zreturn (hG : Rl l R D tys cc own nL (some .boolean) as Post G) {x : Int32} (b : Bool) (hxb : x = bI b) (hp : Post (some (bV b)) ws) (hd : decode cc pc = .ok (.ireturn, 1)) : G pc lv [.int x] ws := by
  obtain ⟨p, e, s, m, args, below, meth, c, A, rfl, hx, hb, hml, hown, hts, hK, hA, hAD, hr, hlk⟩ := hG
  intro has ls H locs hl hP hS
  subst hxb
  exact W.zret (v := bI b) hx hb hr (bI_n b) (fun t ht hW => ⟨⟨_, ws, rfl, hp, has, by rw [ht]; exact hP, va_K.moved hW.alike hK⟩, hS.F ht⟩) hS.2.2 hd hlk
theorem g_lreturn (hG : Rl l R D tys cc own nL (some .long) as Post G) {x : Int64} (hp : Post (some (.long x)) ws) (hd : decode cc pc = .ok (.lreturn, 1)) : G pc lv [.long x] ws := by
  obtain ⟨p, e, s, m, args, below, meth, c, A, rfl, hx, hb, hml, hown, hts, hK, hA, hAD, hr, hlk⟩ := hG
  intro has ls H locs hl hP hS
  exact W.lret (v := x) hx hb hr (fun t ht hW => ⟨⟨_, ws, rfl, hp, has, by rw [ht]; exact hP, va_K.moved hW.alike hK⟩, hS.F ht⟩) hS.2.2 hd hlk
theorem g_return (hG : Rl l R D tys cc own nL none as Post G) (hp : Post none ws) (hd : decode cc pc = .ok (.return_, 1)) : G pc lv [] ws := by
  obtain ⟨p, e, s, m, args, below, meth, c, A, rfl, hx, hb, hml, hown, hts, hK, hA, hAD, hr, hlk⟩ := hG
  intro has ls H locs hl hP hS
  exact W.vret hx hb hr (fun t ht hW => ⟨⟨_, ws, rfl, hp, has, by rw [ht]; exact hP, va_K.moved hW.alike hK⟩, hS.F ht⟩) hS.2.2 hd hlk
theorem g_areturn {C : String} (hG : Rl l R D tys cc own nL (some (.object C)) as Post G) {a : Nat} (hp : Post (some (.ref a)) ws) (hd : decode cc pc = .ok (.areturn, 1)) : G pc lv [.ref a] ws := by
  obtain ⟨p, e, s, m, args, below, meth, c, A, rfl, hx, hb, hml, hown, hts, hK, hA, hAD, hr, hlk⟩ := hG
  intro has ls H locs hl hP hS
  exact W.aret (v := .ref a) hx hb hr (Or.inl ⟨C, rfl⟩) (Or.inr ⟨a, rfl⟩) (fun t ht hW => ⟨⟨_, ws, rfl, hp, has, by rw [ht]; exact hP, va_K.moved hW.alike hK⟩, hS.F ht⟩) hS.2.2 hd hlk
theorem g_labs (hG : Rl l R D tys cc own nL ret as Post G) {index : Nat} {a : Int} (hw : Cond.methodLink own index Lib.MathLoose.abs_long.x ∈ lwB ∧ Cond.static Lib.MathLoose.abs_long.x ∈ lwB ∧ Cond.initialized "java/lang/Math" ∈ lwB ∧ Cond.code Lib.MathLoose.abs_long.x Lib.MathLoose.abs_long.code 2 (some .long) ∈ lwB) (hR : 1 ≤ R.frames ∧ (st.map fun v => v.category).sum + 13 ≤ R.locals) (ha : InL a) (hd : decode cc pc = .ok (.invokestatic index, 3)) (k : G (pc + 3) lv (lV (a.natAbs : Int) :: st) ws) : G pc lv (lV a :: st) ws := by
  obtain ⟨p, e, s, m, args, below, meth, c, A, rfl, hx, hb, hml, hown, hts, hK, hA, hAD, hr, hlk⟩ := hG
  intro has ls H locs hl hP hS
  refine va_mabs_long hx hb (hml.trans hl.1.symm) hown (hts _ hw.1) (hts _ hw.2.1) (hts _ hw.2.2.1) (hts _ hw.2.2.2) hR.1 hR.2 (Nat.zero_le _) (Nat.zero_le _) hd ?_
  have e : (if 0 < lI a then lI a else -lI a) = lI (a.natAbs : Int) := by
    have h0 : (0 < lI a) ↔ 0 < a := by rw [← lI_0]; exact lI_lt (by decide) ha
    by_cases h : 0 < a
    · rw [if_pos (h0.mpr h)]; congr 1; omega
    · rw [if_neg (fun q => h (h0.mp q)), lI_neg]; congr 1; omega
  rw [e]
  exact k has ls H locs hl hP hS
theorem g_iabs (hG : Rl l R D tys cc own nL ret as Post G) {index : Nat} {a : Int} (hw : Cond.methodLink own index Lib.Math.abs.name ∈ lwB ∧ Cond.static Lib.Math.abs.name ∈ lwB ∧ Cond.initialized "java/lang/Math" ∈ lwB ∧ Cond.code Lib.Math.abs.name Lib.Math.abs.code 1 (some .int) ∈ lwB) (hR : 1 ≤ R.frames ∧ (st.map fun v => v.category).sum + 13 ≤ R.locals) (ha : InI a) (hd : decode cc pc = .ok (.invokestatic index, 3)) (k : G (pc + 3) lv (iV (a.natAbs : Int) :: st) ws) : G pc lv (iV a :: st) ws := by
  obtain ⟨p, e, s, m, args, below, meth, c, A, rfl, hx, hb, hml, hown, hts, hK, hA, hAD, hr, hlk⟩ := hG
  intro has ls H locs hl hP hS
  refine va_mabs hx hb (hml.trans hl.1.symm) hown (hts _ hw.1) (hts _ hw.2.1) (hts _ hw.2.2.1) (hts _ hw.2.2.2) hR.1 hR.2 (Nat.zero_le _) (Nat.zero_le _) hd ?_
  have e : (if 0 ≤ iI a then iI a else 0 - iI a) = iI (a.natAbs : Int) := by
    by_cases h : 0 ≤ a
    · rw [if_pos ((iI_ge0 ha).mpr h)]; congr 1; omega
    · rw [if_neg (fun q => h ((iI_ge0 ha).mp q)), ← iI_0, iI_sub]; congr 1; omega
  rw [e]
  exact k has ls H locs hl hP hS
theorem g_nmL (_ : Rl l R D tys cc own nL ret as Post G) {a : Int} (k : ∀ x, x = a → G pc lv (lV x :: st) ws) : G pc lv (lV a :: st) ws := k a rfl
theorem g_nmI (_ : Rl l R D tys cc own nL ret as Post G) {a : Int} (k : ∀ x, x = a → G pc lv (iV x :: st) ws) : G pc lv (iV a :: st) ws := k a rfl
theorem g_eqL (_ : Rl l R D tys cc own nL ret as Post G) {a b : Int} (h : a = b) (k : G pc lv (lV b :: st) ws) : G pc lv (lV a :: st) ws := h ▸ k
theorem g_eqI (_ : Rl l R D tys cc own nL ret as Post G) {a b : Int} (h : a = b) (k : G pc lv (iV b :: st) ws) : G pc lv (iV a :: st) ws := h ▸ k
theorem g_val (_ : Rl l R D tys cc own nL ret as Post G) {v w : Value} (h : v = w) (k : G pc lv (w :: st) ws) : G pc lv (v :: st) ws := h ▸ k
/-! calls -/
/-- the callee's cells w0 among the caller's ws; fr puts what came back in their places -/
def Sp (ws w0 : va_W) (fr : va_W → va_W) : Prop :=
  (∀ (k : Nat) (q : Nat × va_E), w0[k]? = some q → ∃ i : Nat, ws[i]? = some q) ∧ ((∀ (i j a : Nat), (ws.map Prod.fst)[i]? = some a → (ws.map Prod.fst)[j]? = some a → i = j) →
    (∀ (i j a : Nat), (w0.map Prod.fst)[i]? = some a → (w0.map Prod.fst)[j]? = some a → i = j) ∧
    ∀ w1 : va_W, w1.map Prod.fst = w0.map Prod.fst → (fr w1).map Prod.fst = ws.map Prod.fst ∧ ∀ (k : Nat) (q : Nat × va_E), (fr w1)[k]? = some q → (∃ j : Nat, w1[j]? = some q) ∨ ((∃ i : Nat, ws[i]? = some q) ∧ ∀ (j : Nat) (q' : Nat × va_E), w0[j]? = some q' → q'.1 ≠ q.1))
theorem Sp.whole (ws : va_W) : Sp ws ws id := ⟨fun k _ h => ⟨k, h⟩, fun h => ⟨h, fun _ h1 => ⟨h1, fun k _ hk => Or.inl ⟨k, hk⟩⟩⟩⟩
def wputA : List Nat → va_W → va_W → va_W
  | [] => fun _ ws => ws
  | i :: is => fun w1 ws => match w1 with
    | [] => ws
    | q :: qs => wputA is qs (ws.set i q)
def wput (ws : va_W) (is : List Nat) (w1 : va_W) : va_W := wputA is w1 ws
theorem wput_len (is : List Nat) : ∀ (ws w1 : va_W), (wput ws is w1).length = ws.length := by
  induction is with
  | nil => intro ws w1; rfl
  | cons i is ih =>
    intro ws w1
    cases w1 with
    | nil => rfl
    | cons q qs => show (wput (ws.set i q) is qs).length = _; rw [ih, List.length_set]
theorem wput_at (is : List Nat) : ∀ (ws w1 : va_W) (k : Nat) (q : Nat × va_E), is.length = w1.length → (wput ws is w1)[k]? = some q → (∃ j : Nat, is[j]? = some k ∧ w1[j]? = some q) ∨ (k ∉ is ∧ ws[k]? = some q) := by
  induction is with
  | nil => intro ws w1 k q _ h; exact Or.inr ⟨List.not_mem_nil, h⟩
  | cons i is ih =>
    intro ws w1 k q hlen h
    cases w1 with
    | nil => simp at hlen
    | cons x xs =>
      rcases ih (ws.set i x) xs k q (by simpa using hlen) h with ⟨j, h1, h2⟩ | ⟨h1, h2⟩
      · exact Or.inl ⟨j + 1, h1, h2⟩
      · by_cases e : i = k
        · subst e
          rw [List.getElem?_set] at h2
          by_cases hl : i < ws.length
          · simp [hl] at h2
            exact Or.inl ⟨0, rfl, by rw [← h2]; rfl⟩
          · simp [hl] at h2
        · rw [List.getElem?_set_ne e] at h2
          exact Or.inr ⟨fun hm => by rcases List.mem_cons.mp hm with hm | hm; exact e hm.symm; exact h1 hm, h2⟩
theorem wput_fst (is : List Nat) : ∀ (ws w1 : va_W), (∀ (j i : Nat) (q : Nat × va_E), is[j]? = some i → w1[j]? = some q → (ws.map Prod.fst)[i]? = some q.1) → (wput ws is w1).map Prod.fst = ws.map Prod.fst := by
  induction is with
  | nil => intro ws w1 _; rfl
  | cons i is ih =>
    intro ws w1 h
    cases w1 with
    | nil => rfl
    | cons x xs =>
      have h0 := h 0 i x rfl rfl
      have hs : (ws.set i x).map Prod.fst = ws.map Prod.fst := by
        rw [List.map_set]
        apply List.ext_getElem?
        intro k
        rw [List.getElem?_set]
        by_cases hi : i = k
        · subst hi
          have hl : i < (ws.map Prod.fst).length := (List.getElem?_eq_some_iff.mp h0).1
          simp only [if_true, hl, h0]
        · simp only [hi, if_false]
      show (wput (ws.set i x) is xs).map Prod.fst = _
      rw [ih (ws.set i x) xs (fun j i' q h1 h2 => by rw [hs]; exact h (j + 1) i' q h1 h2), hs]
theorem Sp.sel {ws w0 : va_W} (is : List Nat) (hs : is.map (fun i => ws[i]?) = w0.map some) (hn : va_nd is = true) : Sp ws w0 (wput ws is) := by
  have hlen : is.length = w0.length := by have := congrArg List.length hs; simpa using this
  have at' : ∀ (k : Nat) (q : Nat × va_E), w0[k]? = some q → ∃ i : Nat, is[k]? = some i ∧ ws[i]? = some q := by
    intro k q hq
    have h1 : (is.map (fun i => ws[i]?))[k]? = some (some q) := by rw [hs, List.getElem?_map, hq]; rfl
    rw [List.getElem?_map] at h1
    cases hi : is[k]? with
    | none => rw [hi] at h1; cases h1
    | some i => rw [hi] at h1; exact ⟨i, rfl, Option.some.inj h1⟩
  have fst' : ∀ (w : va_W) (i a : Nat), (w.map Prod.fst)[i]? = some a → ∃ q, w[i]? = some q ∧ q.1 = a := by
    intro w i a hi
    rw [List.getElem?_map] at hi
    cases hq : w[i]? with
    | none => rw [hq] at hi; cases hi
    | some q => rw [hq] at hi; exact ⟨q, rfl, Option.some.inj hi⟩
  have inj : ∀ (i j x : Nat), is[i]? = some x → is[j]? = some x → i = j := fun i j x hi hj => va_nd_inj is hn i j x hi hj
  refine ⟨fun k q hq => ?_, fun hd => ⟨fun i j a hi hj => ?_, fun w1 h1 => ?_⟩⟩
  · obtain ⟨i, -, h⟩ := at' k q hq; exact ⟨i, h⟩
  · obtain ⟨p, hp, ep⟩ := fst' w0 i a hi
    obtain ⟨q, hq, eq⟩ := fst' w0 j a hj
    obtain ⟨x, hx, hx2⟩ := at' i p hp
    obtain ⟨y, hy, hy2⟩ := at' j q hq
    have hxy := hd x y a (by rw [List.getElem?_map, hx2, ← ep]; rfl) (by rw [List.getElem?_map, hy2, ← eq]; rfl)
    subst hxy
    exact inj i j x hx hy
  · have hl1 : is.length = w1.length := by have := congrArg List.length h1; simp at this; omega
    refine ⟨wput_fst is ws w1 (fun j i q hj hq => ?_), fun k q hk => ?_⟩
    · have h2 : (w0.map Prod.fst)[j]? = some q.1 := by rw [← h1, List.getElem?_map, hq]; rfl
      obtain ⟨q0, hq0, e0⟩ := fst' w0 j q.1 h2
      obtain ⟨i', hi', hw'⟩ := at' j q0 hq0
      have : i' = i := Option.some.inj (hi'.symm.trans hj)
      subst this
      rw [List.getElem?_map, hw', ← e0]; rfl
    · rcases wput_at is ws w1 k q hl1 hk with ⟨j, -, h⟩ | ⟨hm, h⟩
      · exact Or.inl ⟨j, h⟩
      · refine Or.inr ⟨⟨k, h⟩, fun j q' hq' e => hm ?_⟩
        obtain ⟨i, hi, hi2⟩ := at' j q' hq'
        have := hd i k q.1 (by rw [List.getElem?_map, hi2, ← e]; rfl) (by rw [List.getElem?_map, h]; rfl)
        subst this
        exact List.mem_of_getElem? hi
section GC
variable {p : Program} {l : Launch} {e : Env} {R : Room} {s : State} {m : MethodId} {args : Array Value} {below : List Frame} {meth : Method} {c : Code} {H : Heap} {locs : List Loc} {cells slots : Nat} {Q : State → Prop}
variable {pc : Nat} {ls : Array Slot} {rest st0 : List Value} {a : Array Value} {A0 A1 : Nat → Prop} {H0 : Heap} {mc ms : Nat} {free : Addr → Prop} {D : va_G} {tys : gTy} {Post : PS} {as : List Nat}
theorem w_callQ (hr : va_Run p l e R s m args below meth c H locs cells slots mc ms (F0 m pc ls st0) rest (QG D tys Post as A1 a) free) (hS : va_S A0 H0 H locs) (hA : ∀ q, q < H.size → A1 q → A0 q) (hf : ∀ q, free q → A0 q)
    (kk : ∀ (v : Option Value) (w1 : va_W) (H1 : Heap) (locs1 : List Loc), Post v w1 → w1.map Prod.fst = as → va_P D vwCl w1 H1 → H.size ≤ H1.size → (∀ q : Nat, q < H.size → ¬ A1 q → H1[q]? = H[q]?) → va_S A0 H0 H1 locs1 → W p l e R s m args below meth c H1 locs1 (cells + mc) (slots + ms) Q (F0 m (pc + 3) ls (v.toList ++ rest))) : W p l e R s m args below meth c H locs cells slots Q (F0 m pc ls st0) := by
  intro T hT X
  obtain ⟨v, st₀, t, T', L, h0, X', hL, e1, e2, ⟨⟨v', w1, hv, hp, has, hP1, hK1⟩, hz, hk⟩, st⟩ := hr T hT X
  cases hv
  rw [h0] at hz hk
  obtain ⟨t2, a1, b1⟩ := kk v w1 T'.heap (locs ++ L) hp has (by rw [e1]; exact hP1) (by rw [e1]; exact hz) (fun q h1 h2 => by rw [e1]; exact hk q h1 h2)
    ⟨Nat.le_trans hS.1 (by rw [e1]; exact hz), fun q h1 h2 => by rw [e1, hk q (Nat.lt_of_lt_of_le h1 hS.1) (fun z => h2 (hA q (Nat.lt_of_lt_of_le h1 hS.1) z))]; exact hS.2.1 q h1 h2, fun q hq => by
      rcases List.mem_append.mp hq with h | h
      · exact hS.2.2 q h
      · exact hf _ (hL q h)⟩ T' rfl X'
  exact ⟨t2, st t2 a1, b1⟩
end GC
theorem blind_Ct {D : va_G} {tys : gTy} {av : List Value} {w0 : va_W} {sz : Nat} : FrameBlind (va_Pc av (fun U => U.heap.size = sz ∧ va_P D vwCl w0 U.heap ∧ va_K D vwCl tys U ∧ va_D (fun _ => True) w0)) := by
  intro a U g mk q
  obtain ⟨q0, q1, qP, qK, qD⟩ := q
  exact ⟨q0, q1, qP, va_K.moved (u := U) (U := U.calling g mk a) (Vm.Alike.refl U.vm) qK, qD⟩
theorem sp_split {ws w0 w1 : va_W} {fr : va_W → va_W} {as : List Nat} {A : Nat → Prop} {D : va_G} {H H1 : Heap} (hsp : Sp ws w0 fr) (has : ws.map Prod.fst = as) (hAD : AD A as) (hP : va_P D vwCl ws H) (h1 : w1.map Prod.fst = w0.map Prod.fst) (hP1 : va_P D vwCl w1 H1) (hk : ∀ q : Nat, q < H.size → ¬ va_A w0 H.size q → H1[q]? = H[q]?) : (fr w1).map Prod.fst = as ∧ va_P D vwCl (fr w1) H1 := by
  subst has
  obtain ⟨-, hfr⟩ := hsp.2 hAD.1
  obtain ⟨e1, e2⟩ := hfr w1 h1
  refine ⟨e1, fun k q hq => ?_⟩
  rcases e2 k q hq with ⟨j, hj⟩ | ⟨⟨i, hi⟩, hne⟩
  · exact hP1 j q hj
  · have hlt := (hP i q hi).lt
    refine (hP i q hi).kept (hk q.1 hlt fun hA => ?_)
    rcases hA with ⟨j, e, hj⟩ | h
    · exact hne j (q.1, e) hj rfl
    · omega
theorem sp_pre {ws w0 : va_W} {fr : va_W → va_W} {as : List Nat} {A : Nat → Prop} {D : va_G} {H H0 : Heap} {locs : List Loc} (hsp : Sp ws w0 fr) (has : ws.map Prod.fst = as) (hAD : AD A as) (hP : va_P D vwCl ws H) (hA : ∀ q, H0.size ≤ q → A q) (hS : va_S A H0 H locs) : va_P D vwCl w0 H ∧ va_D (fun _ => True) w0 ∧ ∀ q, va_A w0 H.size q → A q := by
  subst has
  obtain ⟨hd, -⟩ := hsp.2 hAD.1
  refine ⟨fun k q hq => ?_, AD.D (A := fun _ => True) ⟨hd, fun _ _ _ => trivial⟩ rfl, fun q h => ?_⟩
  · obtain ⟨i, hi⟩ := hsp.1 k q hq
    exact hP i q hi
  · rcases h with ⟨k, e, h⟩ | h
    · obtain ⟨i, hi⟩ := hsp.1 k (q, e) h
      exact hAD.2 i q (by rw [List.getElem?_map, hi]; rfl)
    · exact hA q (Nat.le_trans hS.1 h)
/-- what a call of y by the entry 'index' of own rests on -/
def CB (own : String) (index : Nat) (y : MethodName) (bytes : ByteArray) (maxL : Nat) (rt : Option FieldType) (n : Nat) : Prop := Cond.methodLink own index y ∈ lwB ∧ Cond.initialized y.cls ∈ lwB ∧ Cond.code y bytes maxL rt ∈ lwB ∧ (y.cls ≠ "java/lang/invoke/MethodHandle" ∧ y.cls ≠ "java/lang/invoke/VarHandle" ∧ (parseMethodDescriptor y.desc).map (fun d => d.parameters.length) = some n)
def CV (own : String) (index : Nat) (C : String) (y : MethodName) (bytes : ByteArray) (maxL : Nat) (rt : Option FieldType) (n : Nat) : Prop := CB own index y bytes maxL rt n ∧ y.cls = C ∧ Cond.instanceMethod y ∈ lwB ∧ Cond.selects C y y ∈ lwB
def CS (own : String) (index : Nat) (y : MethodName) (bytes : ByteArray) (maxL : Nat) (rt : Option FieldType) (n : Nat) : Prop := CB own index y bytes maxL rt n ∧ Cond.static y ∈ lwB
theorem lw_goodIn (ws : List Cond) (h : ∀ w ∈ ws, w ∈ lwB) : GoodIn lwB ws := fun w hw => ⟨h w hw, good_of_word (List.mem_filter.mp (h w hw)).2⟩
theorem CV.good {own : String} {index : Nat} {C : String} {y : MethodName} {bytes : ByteArray} {maxL : Nat} {rt : Option FieldType} {n : Nat} (h : CV own index C y bytes maxL rt n) : GoodIn lwB (wsV own index C y (Cond.code y bytes maxL rt :: lwB)) := by
  obtain ⟨⟨h1, h2, h3, -⟩, hC, h4, h5⟩ := h
  subst hC
  refine lw_goodIn _ fun w hw => ?_
  rcases List.mem_append.mp hw with hw | hw
  · simp only [List.mem_cons, List.not_mem_nil, or_false] at hw
    rcases hw with rfl | rfl | rfl | rfl
    · exact h1
    · exact h4
    · exact h5
    · exact h2
  · rcases List.mem_cons.mp hw with rfl | hw
    · exact h3
    · exact hw
theorem CS.good {own : String} {index : Nat} {y : MethodName} {bytes : ByteArray} {maxL : Nat} {rt : Option FieldType} {n : Nat} (h : CS own index y bytes maxL rt n) : GoodIn lwB (va_wsS own index y (Cond.code y bytes maxL rt :: lwB)) := by
  obtain ⟨⟨h1, h2, h3, -⟩, h4⟩ := h
  refine lw_goodIn _ fun w hw => ?_
  rcases List.mem_append.mp hw with hw | hw
  · simp only [List.mem_cons, List.not_mem_nil, or_false] at hw
    rcases hw with rfl | rfl | rfl
    · exact h1
    · exact h4
    · exact h2
  · rcases List.mem_cons.mp hw with rfl | hw
    · exact h3
    · exact hw
theorem g_callV (hG : Rl l R D tys cc own nL ret as Post G) {y : MethodName} {bytes : ByteArray} {maxL n index b ci N : Nat} {rt : Option FieldType} {rm : Room} {w0 : va_W} {Post' : PS} {C : String} {T : u_T} {fs : List Value} {fr : va_W → va_W} {As rest : List Value}
    (hC : Ct l D tys y bytes maxL rt rm (.ref b :: As) w0 Post') (hsp : Sp ws w0 fr) (hT : CV own index C y bytes maxL rt n) (hrm : rm.cells = 0 ∧ rm.slots = 0) (hR : rm.frames + 1 ≤ R.frames ∧ 8 + (maxL + 11) + rm.locals ≤ R.locals)
    (qr : Nat) (he : ws[qr]? = some (b, .inr (ci, fs))) (hc : vwCl[ci]? = some (C, T, N)) (hn : As.length = n) (hst : st = As.reverse ++ .ref b :: rest) (hrest : (rest.map fun v => v.category).sum ≤ 8) (hdg : decode cc pc = .ok (.invokevirtual index, 3))
    (kk : ∀ v w1, Post' v w1 → G (pc + 3) lv (v.toList ++ rest) (fr w1)) : G pc lv st ws := by
  obtain ⟨p, e, s, m, args, below, meth, c, A, rfl, hx, hb, hml, hown, hts, hK, hA, hAD, hr, hlk⟩ := hG
  intro has ls H locs hl hP hS
  obtain ⟨hPc, hDc, hFc⟩ := sp_pre hsp has hAD hP hA hS
  subst hst
  refine w_callQ (va_runV (As := As) (rest := rest) ⟨hx, hb, hml, hown, hts⟩ (hC H.size) (cwV n hts hT.good rfl hrm.1 hrm.2 ⟨hT.2.1, hT.1.2.2.2⟩ hR) ⟨blind_Ct, va_recv hK hP hc he, fun U hU hW => ⟨rfl, by rw [hU], by rw [hU]; exact hPc, va_K.moved hW.alike hK, hDc⟩⟩ rfl hn hl.1 rfl (lv_room hrest) hdg ⟨Nat.zero_le _, Nat.zero_le _⟩) hS (fun q _ h => hFc q h) hFc (fun v w1 H1 locs1 hp h1 hP1 hz hk hS1 => ?_)
  obtain ⟨e1, e2⟩ := sp_split hsp has hAD hP h1 hP1 hk
  exact kk v w1 hp e1 ls H1 locs1 hl e2 hS1
theorem g_callS (hG : Rl l R D tys cc own nL ret as Post G) {y : MethodName} {bytes : ByteArray} {maxL n index : Nat} {rt : Option FieldType} {rm : Room} {w0 : va_W} {Post' : PS} {fr : va_W → va_W} {As rest : List Value}
    (hC : Ct l D tys y bytes maxL rt rm As w0 Post') (hsp : Sp ws w0 fr) (hT : CS own index y bytes maxL rt n) (hrm : rm.cells = 0 ∧ rm.slots = 0) (hR : rm.frames + 1 ≤ R.frames ∧ 8 + (maxL + 11) + rm.locals ≤ R.locals)
    (hn : As.length = n) (hst : st = As.reverse ++ rest) (hrest : (rest.map fun v => v.category).sum ≤ 8) (hdg : decode cc pc = .ok (.invokestatic index, 3))
    (kk : ∀ v w1, Post' v w1 → w1.map Prod.fst = w0.map Prod.fst → G (pc + 3) lv (v.toList ++ rest) (fr w1)) : G pc lv st ws := by
  obtain ⟨p, e, s, m, args, below, meth, c, A, rfl, hx, hb, hml, hown, hts, hK, hA, hAD, hr, hlk⟩ := hG
  intro has ls H locs hl hP hS
  obtain ⟨hPc, hDc, hFc⟩ := sp_pre hsp has hAD hP hA hS
  subst hst
  refine w_callQ (va_runS (As := As) (rest := rest) ⟨hx, hb, hml, hown, hts⟩ (hC H.size) (va_cwS n hts hT.good rfl hrm.1 hrm.2 hT.1.2.2.2 hR) ⟨blind_Ct, fun U hU hW => ⟨rfl, by rw [hU], by rw [hU]; exact hPc, va_K.moved hW.alike hK, hDc⟩⟩ rfl hn hl.1 rfl (lv_room hrest) hdg ⟨Nat.zero_le _, Nat.zero_le _⟩) hS (fun q _ h => hFc q h) hFc (fun v w1 H1 locs1 hp h1 hP1 hz hk hS1 => ?_)
  obtain ⟨e1, e2⟩ := sp_split hsp has hAD hP h1 hP1 hk
  exact kk v w1 hp h1 e1 ls H1 locs1 hl e2 hS1
/-- a static method that touches no cell -/
theorem g_callP (hG : Rl l R D tys cc own nL ret as Post G) {y : MethodName} {bytes : ByteArray} {maxL n index : Nat} {rt : Option FieldType} {rm : Room} {Post' : PS} {As rest : List Value}
    (hC : Ct l D tys y bytes maxL rt rm As [] Post') (hT : CS own index y bytes maxL rt n) (hrm : rm.cells = 0 ∧ rm.slots = 0) (hR : rm.frames + 1 ≤ R.frames ∧ 8 + (maxL + 11) + rm.locals ≤ R.locals)
    (hn : As.length = n) (hst : st = As.reverse ++ rest) (hrest : (rest.map fun v => v.category).sum ≤ 8) (hdg : decode cc pc = .ok (.invokestatic index, 3))
    (kk : ∀ v, Post' v [] → G (pc + 3) lv (v.toList ++ rest) ws) : G pc lv st ws :=
  g_callS hG hC (Sp.sel (ws := ws) (w0 := []) [] rfl rfl) hT hrm hR hn hst hrest hdg (fun v w1 h h1 => by
    have : w1 = [] := by simpa using h1
    subst this
    exact kk v h)
end GR
