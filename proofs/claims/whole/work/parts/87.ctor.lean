theorem wi_70 : Cond.instanceMethod Lib.objectInit ∈ lwB := inB (List.mem_of_getElem? (i := 70) (by decide +kernel)) rfl
theorem wi_71 : Cond.code Lib.objectInit ⟨#[0xb1]⟩ 1 none ∈ lwB := inB (List.mem_of_getElem? (i := 71) (by decide +kernel)) rfl
theorem wi_106 : Cond.arrayClass .int ∈ lwB := inB (List.mem_of_getElem? (i := 106) (by decide +kernel)) rfl
theorem wi_191 : Cond.arrayClass .long ∈ lwB := inB (List.mem_of_getElem? (i := 191) (by decide +kernel)) rfl
theorem wi_107 : Cond.arrayClass .boolean ∈ lwB := inB (List.mem_of_getElem? (i := 107) (by decide +kernel)) rfl
theorem wi_49 : Cond.initialized RX10 ∈ lwB := inB (List.mem_of_getElem? (i := 49) (by decide +kernel)) rfl
theorem wi_50 : Cond.initialized RX9 ∈ lwB := inB (List.mem_of_getElem? (i := 50) (by decide +kernel)) rfl
theorem wi_51 : Cond.initialized RX6 ∈ lwB := inB (List.mem_of_getElem? (i := 51) (by decide +kernel)) rfl
theorem wi_52 : Cond.initialized RX5 ∈ lwB := inB (List.mem_of_getElem? (i := 52) (by decide +kernel)) rfl
theorem wi_53 : Cond.initialized RX8 ∈ lwB := inB (List.mem_of_getElem? (i := 53) (by decide +kernel)) rfl
theorem wi_54 : Cond.initialized RX4 ∈ lwB := inB (List.mem_of_getElem? (i := 54) (by decide +kernel)) rfl
theorem wi_55 : Cond.initialized RX3 ∈ lwB := inB (List.mem_of_getElem? (i := 55) (by decide +kernel)) rfl
theorem wi_56 : Cond.initialized RX0 ∈ lwB := inB (List.mem_of_getElem? (i := 56) (by decide +kernel)) rfl
theorem wi_57 : Cond.initialized RX7 ∈ lwB := inB (List.mem_of_getElem? (i := 57) (by decide +kernel)) rfl
theorem wi_58 : Cond.initialized RX1 ∈ lwB := inB (List.mem_of_getElem? (i := 58) (by decide +kernel)) rfl
theorem wi_59 : Cond.initialized RX11 ∈ lwB := inB (List.mem_of_getElem? (i := 59) (by decide +kernel)) rfl
theorem wi_60 : Cond.initialized RX2 ∈ lwB := inB (List.mem_of_getElem? (i := 60) (by decide +kernel)) rfl
theorem wi_64 : Cond.classLink RL 7 RX10 ∈ lwB := inB (List.mem_of_getElem? (i := 64) (by decide +kernel)) rfl
theorem wi_65 : Cond.instantiable RX10 19 ∈ lwB := inB (List.mem_of_getElem? (i := 65) (by decide +kernel)) rfl
theorem wi_66 : Cond.methodLink RL 9 yX10_init ∈ lwB := inB (List.mem_of_getElem? (i := 66) (by decide +kernel)) rfl
theorem wi_67 : Cond.instanceMethod yX10_init ∈ lwB := inB (List.mem_of_getElem? (i := 67) (by decide +kernel)) rfl
theorem wi_68 : Cond.code yX10_init cX10_init 1 none ∈ lwB := inB (List.mem_of_getElem? (i := 68) (by decide +kernel)) rfl
theorem wi_69 : Cond.methodLink RX10 1 Lib.objectInit ∈ lwB := inB (List.mem_of_getElem? (i := 69) (by decide +kernel)) rfl
theorem wi_72 : Cond.classLink RX10 7 RX9 ∈ lwB := inB (List.mem_of_getElem? (i := 72) (by decide +kernel)) rfl
theorem wi_73 : Cond.instantiable RX9 6 ∈ lwB := inB (List.mem_of_getElem? (i := 73) (by decide +kernel)) rfl
theorem wi_75 : Cond.instanceMethod yX9_init ∈ lwB := inB (List.mem_of_getElem? (i := 75) (by decide +kernel)) rfl
theorem wi_76 : Cond.code yX9_init cX9_init 1 none ∈ lwB := inB (List.mem_of_getElem? (i := 76) (by decide +kernel)) rfl
theorem wi_77 : Cond.methodLink RX9 3 Lib.objectInit ∈ lwB := inB (List.mem_of_getElem? (i := 77) (by decide +kernel)) rfl
theorem wi_108 : Cond.classLink RX10 16 RX6 ∈ lwB := inB (List.mem_of_getElem? (i := 108) (by decide +kernel)) rfl
theorem wi_109 : Cond.instantiable RX6 6 ∈ lwB := inB (List.mem_of_getElem? (i := 109) (by decide +kernel)) rfl
theorem wi_111 : Cond.instanceMethod yX6_init ∈ lwB := inB (List.mem_of_getElem? (i := 111) (by decide +kernel)) rfl
theorem wi_112 : Cond.code yX6_init cX6_init 1 none ∈ lwB := inB (List.mem_of_getElem? (i := 112) (by decide +kernel)) rfl
theorem wi_113 : Cond.methodLink RX6 3 Lib.objectInit ∈ lwB := inB (List.mem_of_getElem? (i := 113) (by decide +kernel)) rfl
theorem wi_145 : Cond.classLink RX10 23 RX5 ∈ lwB := inB (List.mem_of_getElem? (i := 145) (by decide +kernel)) rfl
theorem wi_146 : Cond.instantiable RX5 3 ∈ lwB := inB (List.mem_of_getElem? (i := 146) (by decide +kernel)) rfl
theorem wi_148 : Cond.instanceMethod yX5_init ∈ lwB := inB (List.mem_of_getElem? (i := 148) (by decide +kernel)) rfl
theorem wi_149 : Cond.code yX5_init cX5_init 1 none ∈ lwB := inB (List.mem_of_getElem? (i := 149) (by decide +kernel)) rfl
theorem wi_150 : Cond.methodLink RX5 3 Lib.objectInit ∈ lwB := inB (List.mem_of_getElem? (i := 150) (by decide +kernel)) rfl
theorem wi_161 : Cond.classLink RX10 30 RX8 ∈ lwB := inB (List.mem_of_getElem? (i := 161) (by decide +kernel)) rfl
theorem wi_162 : Cond.instantiable RX8 6 ∈ lwB := inB (List.mem_of_getElem? (i := 162) (by decide +kernel)) rfl
theorem wi_164 : Cond.instanceMethod yX8_init ∈ lwB := inB (List.mem_of_getElem? (i := 164) (by decide +kernel)) rfl
theorem wi_165 : Cond.code yX8_init cX8_init 1 none ∈ lwB := inB (List.mem_of_getElem? (i := 165) (by decide +kernel)) rfl
theorem wi_166 : Cond.methodLink RX8 3 Lib.objectInit ∈ lwB := inB (List.mem_of_getElem? (i := 166) (by decide +kernel)) rfl
theorem wi_192 : Cond.classLink RX10 47 RX4 ∈ lwB := inB (List.mem_of_getElem? (i := 192) (by decide +kernel)) rfl
theorem wi_193 : Cond.instantiable RX4 7 ∈ lwB := inB (List.mem_of_getElem? (i := 193) (by decide +kernel)) rfl
theorem wi_195 : Cond.instanceMethod yX4_init ∈ lwB := inB (List.mem_of_getElem? (i := 195) (by decide +kernel)) rfl
theorem wi_196 : Cond.code yX4_init cX4_init 1 none ∈ lwB := inB (List.mem_of_getElem? (i := 196) (by decide +kernel)) rfl
theorem wi_197 : Cond.methodLink RX4 3 Lib.objectInit ∈ lwB := inB (List.mem_of_getElem? (i := 197) (by decide +kernel)) rfl
theorem wi_223 : Cond.classLink RX10 54 RX3 ∈ lwB := inB (List.mem_of_getElem? (i := 223) (by decide +kernel)) rfl
theorem wi_224 : Cond.instantiable RX3 3 ∈ lwB := inB (List.mem_of_getElem? (i := 224) (by decide +kernel)) rfl
theorem wi_226 : Cond.instanceMethod yX3_init ∈ lwB := inB (List.mem_of_getElem? (i := 226) (by decide +kernel)) rfl
theorem wi_227 : Cond.code yX3_init cX3_init 1 none ∈ lwB := inB (List.mem_of_getElem? (i := 227) (by decide +kernel)) rfl
theorem wi_228 : Cond.methodLink RX3 5 Lib.objectInit ∈ lwB := inB (List.mem_of_getElem? (i := 228) (by decide +kernel)) rfl
theorem wi_241 : Cond.classLink RX10 61 RX0 ∈ lwB := inB (List.mem_of_getElem? (i := 241) (by decide +kernel)) rfl
theorem wi_242 : Cond.instantiable RX0 9 ∈ lwB := inB (List.mem_of_getElem? (i := 242) (by decide +kernel)) rfl
theorem wi_244 : Cond.instanceMethod yX0_init ∈ lwB := inB (List.mem_of_getElem? (i := 244) (by decide +kernel)) rfl
theorem wi_245 : Cond.code yX0_init cX0_init 1 none ∈ lwB := inB (List.mem_of_getElem? (i := 245) (by decide +kernel)) rfl
theorem wi_246 : Cond.methodLink RX0 3 Lib.objectInit ∈ lwB := inB (List.mem_of_getElem? (i := 246) (by decide +kernel)) rfl
theorem wi_247 : Cond.classLink RX0 9 RX8 ∈ lwB := inB (List.mem_of_getElem? (i := 247) (by decide +kernel)) rfl
theorem wi_277 : Cond.classLink RX10 68 RX7 ∈ lwB := inB (List.mem_of_getElem? (i := 277) (by decide +kernel)) rfl
theorem wi_278 : Cond.instantiable RX7 3 ∈ lwB := inB (List.mem_of_getElem? (i := 278) (by decide +kernel)) rfl
theorem wi_280 : Cond.instanceMethod yX7_init ∈ lwB := inB (List.mem_of_getElem? (i := 280) (by decide +kernel)) rfl
theorem wi_281 : Cond.code yX7_init cX7_init 1 none ∈ lwB := inB (List.mem_of_getElem? (i := 281) (by decide +kernel)) rfl
theorem wi_282 : Cond.methodLink RX7 1 Lib.objectInit ∈ lwB := inB (List.mem_of_getElem? (i := 282) (by decide +kernel)) rfl
theorem wi_296 : Cond.classLink RX10 75 RX1 ∈ lwB := inB (List.mem_of_getElem? (i := 296) (by decide +kernel)) rfl
theorem wi_297 : Cond.instantiable RX1 4 ∈ lwB := inB (List.mem_of_getElem? (i := 297) (by decide +kernel)) rfl
theorem wi_299 : Cond.instanceMethod yX1_init ∈ lwB := inB (List.mem_of_getElem? (i := 299) (by decide +kernel)) rfl
theorem wi_300 : Cond.code yX1_init cX1_init 1 none ∈ lwB := inB (List.mem_of_getElem? (i := 300) (by decide +kernel)) rfl
theorem wi_301 : Cond.methodLink RX1 3 Lib.objectInit ∈ lwB := inB (List.mem_of_getElem? (i := 301) (by decide +kernel)) rfl
theorem wi_737 : Cond.classLink RL 10 RX11 ∈ lwB := inB (List.mem_of_getElem? (i := 737) (by decide +kernel)) rfl
theorem wi_738 : Cond.instantiable RX11 39 ∈ lwB := inB (List.mem_of_getElem? (i := 738) (by decide +kernel)) rfl
theorem wi_739 : Cond.methodLink RL 12 yX11_init ∈ lwB := inB (List.mem_of_getElem? (i := 739) (by decide +kernel)) rfl
theorem wi_740 : Cond.instanceMethod yX11_init ∈ lwB := inB (List.mem_of_getElem? (i := 740) (by decide +kernel)) rfl
theorem wi_741 : Cond.code yX11_init cX11_init 1 none ∈ lwB := inB (List.mem_of_getElem? (i := 741) (by decide +kernel)) rfl
theorem wi_742 : Cond.methodLink RX11 1 Lib.objectInit ∈ lwB := inB (List.mem_of_getElem? (i := 742) (by decide +kernel)) rfl
theorem wi_743 : Cond.classLink RX11 13 "[[I" ∈ lwB := inB (List.mem_of_getElem? (i := 743) (by decide +kernel)) rfl
theorem wi_744 : Cond.arrayOver (.array .int) ∈ lw_tbl := List.mem_of_getElem? (i := 744) (by decide +kernel)
theorem wi_745 : Cond.classLink RX11 29 "[[J" ∈ lwB := inB (List.mem_of_getElem? (i := 745) (by decide +kernel)) rfl
theorem wi_746 : Cond.arrayOver (.array .long) ∈ lw_tbl := List.mem_of_getElem? (i := 746) (by decide +kernel)
theorem wi_74 : Cond.methodLinkNest RX10 9 yX9_init RX10 ∈ lw_tbl := List.mem_of_getElem? (i := 74) (by decide +kernel)
theorem wi_110 : Cond.methodLinkNest RX10 18 yX6_init RX10 ∈ lw_tbl := List.mem_of_getElem? (i := 110) (by decide +kernel)
theorem wi_147 : Cond.methodLinkNest RX10 25 yX5_init RX10 ∈ lw_tbl := List.mem_of_getElem? (i := 147) (by decide +kernel)
theorem wi_163 : Cond.methodLinkNest RX10 32 yX8_init RX10 ∈ lw_tbl := List.mem_of_getElem? (i := 163) (by decide +kernel)
theorem wi_194 : Cond.methodLinkNest RX10 49 yX4_init RX10 ∈ lw_tbl := List.mem_of_getElem? (i := 194) (by decide +kernel)
theorem wi_225 : Cond.methodLinkNest RX10 56 yX3_init RX10 ∈ lw_tbl := List.mem_of_getElem? (i := 225) (by decide +kernel)
theorem wi_243 : Cond.methodLinkNest RX10 63 yX0_init RX10 ∈ lw_tbl := List.mem_of_getElem? (i := 243) (by decide +kernel)
theorem wi_248 : Cond.methodLinkNest RX0 11 yX8_init RX10 ∈ lw_tbl := List.mem_of_getElem? (i := 248) (by decide +kernel)
theorem wi_279 : Cond.methodLinkNest RX10 70 yX7_init RX10 ∈ lw_tbl := List.mem_of_getElem? (i := 279) (by decide +kernel)
theorem wi_298 : Cond.methodLinkNest RX10 77 yX1_init RX10 ∈ lw_tbl := List.mem_of_getElem? (i := 298) (by decide +kernel)
def lwN : List (String × Nat × MethodName) := [(RX10, 9, yX9_init), (RX10, 18, yX6_init), (RX10, 25, yX5_init), (RX10, 32, yX8_init), (RX10, 49, yX4_init), (RX10, 56, yX3_init), (RX10, 63, yX0_init), (RX0, 11, yX8_init), (RX10, 70, yX7_init), (RX10, 77, yX1_init)]
/-! constructors: a frame that makes cells; the cells made so far, and their slots, are counted -/
abbrev GC9 : Type := Nat → List (Nat × Value) → List Value → va_W → Nat → Nat → Prop
def NW (U : State) : Prop := (∀ q ∈ lwN, va_Nw (.methodLinkNest q.1 q.2.1 q.2.2 RX10) U) ∧ (Cond.arrayOver (.array .int)).before #[] U = true ∧ (Cond.arrayOver (.array .long)).before #[] U = true
theorem NW.warm {s U : State} (hW : s.WarmedH U.vm) (h : NW s) : NW U := ⟨fun q hq => va_Nw.warmM hW (h.1 q hq), Jvm.Stand.arrayOver_alikeB hW.alike h.2.1, Jvm.Stand.arrayOver_alikeB hW.alike h.2.2⟩
theorem NW.same {s U : State} (hW : s.vm = U.vm) (h : NW s) : NW U := by
  have hal : s.vm.Alike U.vm := by rw [hW]; exact Vm.Alike.refl _
  exact ⟨fun q hq => va_Nw.same rfl hW (h.1 q hq), Jvm.Stand.arrayOver_alikeB hal h.2.1, Jvm.Stand.arrayOver_alikeB hal h.2.2⟩
def QI (D : va_G) (tys : gTy) (Post : va_W → Prop) (A : Nat → Prop) : Array Value → State → Outcome → State → Prop := fun _ st oc t =>
  (∃ w1 : va_W, oc = .returned none ∧ Post w1 ∧ va_D A w1 ∧ va_P D vwCl w1 t.heap ∧ va_K D vwCl tys t) ∧ va_F A st t
def CtI (l : Launch) (D : va_G) (tys : gTy) (y : MethodName) (cc : ByteArray) (maxL : Nat) (rm : Room) (av : List Value) (w0 : va_W) (Post : va_W → Prop) (mc ms : Nat) : Prop :=
  ∀ sz : Nat, Met l y (Cond.code y cc maxL none :: lwB) rm (va_Pc av (fun U => U.heap.size = sz ∧ va_P D vwCl w0 U.heap ∧ va_K D vwCl tys U ∧ va_D (fun _ => True) w0 ∧ NW U)) (QI D tys Post (va_A w0 sz)) mc ms (va_A w0 sz)
def RlC (l : Launch) (R : Room) (D : va_G) (tys : gTy) (cc : ByteArray) (own : String) (nL : Nat) (ini : Bool) (mc ms : Nat) (Post : va_W → Prop) (G : GC9) : Prop :=
  ∃ (p : Program) (e : Env) (s : State) (m : MethodId) (args : Array Value) (below : List Frame) (meth : Method) (c : Code) (A : Nat → Prop) (Z : State → Prop),
    G = (fun pc lv st ws k n => va_D A ws → ∀ (ls : Array Slot) (H : Heap) (locs : List Loc), lv_has ls nL lv → va_P D vwCl ws H → va_S A s.heap H locs → W p l e R s m args below meth c H locs k n Z (F0 m pc ls st)) ∧
    p.tables.exec = Jvm.exec ∧ c.code = cc ∧ c.maxLocals = nL ∧ s.vm.findClass own = some m.cls ∧ (∀ w ∈ lwB, w.before args s = true) ∧ va_K D vwCl tys s ∧ (∀ q, s.heap.size ≤ q → A q) ∧ NW s ∧ (ini = true → meth.name = "<init>") ∧
    (∀ (pc : Nat), decode cc pc = .ok (.return_, 1) → ∀ ws, Post ws → va_D A ws → ∀ (ls : Array Slot) (H : Heap) (locs : List Loc), va_P D vwCl ws H → va_S A s.heap H locs → W p l e R s m args below meth c H locs mc ms Z (F0 m pc ls []))
theorem CtI.of {l : Launch} {D : va_G} {tys : gTy} {y : MethodName} {rm : Room} {av : List Value} {w0 : va_W} {Post : va_W → Prop} {cc : ByteArray} {maxL mc ms : Nat}
    (hy : plainName y.cls = true) (hyn : y.name = "<init>") (hlen : (lg_sl av).length ≤ maxL)
    (body : ∀ G : GC9, RlC l rm D tys cc y.cls maxL true mc ms Post G → G 0 (lv_args 0 av) [] w0 0 0) : CtI l D tys y cc maxL rm av w0 Post mc ms := by
  intro sz
  refine Met.ofW (cc := cc) (maxL := maxL) (ret := none) hy rfl ?_
  intro p e s m args below meth c s₁ B hml hv
  obtain ⟨rfl, hsz, hP, hK, hD0, hN⟩ := hv
  subst hsz
  have hl := lv_entry av (n := maxL) hlen
  rw [lg_entry_eq]
  have hx := B.exec
  have hb := B.bytes
  have hr := B.returns
  have hlocks := B.notSynchronized
  have hin : meth.name = "<init>" := (name_of_methodNamed B.named B.method).1.trans hyn
  refine body _ ⟨p, e, s, m, av.toArray, below, meth, c, va_A w0 s.heap.size, MQ below (QI D tys Post (va_A w0 s.heap.size)) av.toArray s mc ms (va_A w0 s.heap.size), rfl, hx, hb, hml, findClass_of_methodNamed B.named, fun w hw => atoms_spec (ws := Cond.code y cc maxL none :: lwB) B.pre w (List.mem_cons_of_mem _ hw), hK, fun q h => Or.inr h, hN, fun _ => hin, ?_⟩ hD0.self _ _ _ hl hP va_S.rf
  intro pc hd ws hp hD ls H locs hP hS
  exact W.vret hx hb hr (fun t ht hW => ⟨⟨ws, rfl, hp, hD, by rw [ht]; exact hP, va_K.moved hW.alike hK⟩, hS.F ht⟩) hS.2.2 hd
theorem app_D {A : Nat → Prop} {ws nw : va_W} {D : va_G} {cl : List vw_C} {H : Heap} (hD : va_D A ws) (hP : va_P D cl ws H) (hn : ∀ (i : Nat) (x : Nat × va_E), nw[i]? = some x → x.1 = H.size + i) (hA : ∀ q, H.size ≤ q → A q) : va_D A (ws ++ nw) := by
  have at' : ∀ (i : Nat) (x : Nat × va_E), (ws ++ nw)[i]? = some x → (ws[i]? = some x ∧ x.1 < H.size) ∨ (ws.length ≤ i ∧ x.1 = H.size + (i - ws.length)) := by
    intro i x hx
    by_cases h : i < ws.length
    · rw [List.getElem?_append_left h] at hx
      exact Or.inl ⟨hx, (hP i x hx).lt⟩
    · rw [List.getElem?_append_right (by omega)] at hx
      exact Or.inr ⟨by omega, hn _ x hx⟩
  refine ⟨fun i j x y hi hj e => ?_, fun i x hi => ?_⟩
  · rcases at' i x hi with ⟨h1, h2⟩ | ⟨h1, h2⟩ <;> rcases at' j y hj with ⟨h3, h4⟩ | ⟨h3, h4⟩
    · exact hD.1 i j x y h1 h3 e
    · omega
    · omega
    · omega
  · rcases at' i x hi with ⟨h1, h2⟩ | ⟨h1, h2⟩
    · exact hD.2 i x h1
    · exact hA _ (by omega)
theorem nd_range : ∀ n : Nat, va_nd (List.range n) = true := by
  have h : ∀ l : List Nat, l.Nodup → va_nd l = true := by
    intro l
    induction l with
    | nil => intro _; rfl
    | cons a l ih => intro hn; have := List.nodup_cons.mp hn; simp only [va_nd, Bool.and_eq_true, decide_eq_true_eq]; exact ⟨this.1, ih this.2⟩
  exact fun n => h _ List.nodup_range
theorem join_last {A : Nat → Prop} {D : va_G} {cl : List vw_C} {wr w1 : va_W} {c9 : Nat × va_E} {H H1 : Heap} (hP : va_P D cl (wr ++ [c9]) H) (hD : va_D A (wr ++ [c9])) (hk : ∀ q : Nat, q < H.size → ¬ va_A [c9] H.size q → H1[q]? = H[q]?) (hF : ∀ q, va_A [c9] H.size q → A q) (hP1 : va_P D cl w1 H1) (hD1 : va_D (va_A [c9] H.size) w1) : va_P D cl (wr ++ w1) H1 ∧ va_D A (wr ++ w1) := by
  refine va_join (wc := [c9]) hP hD [wr.length] (List.range wr.length) (by simp) ?_ (nd_range _) (fun i hi => ?_) hk hF hP1 hD1
  · apply List.ext_getElem?
    intro i
    rw [List.getElem?_map, List.getElem?_map]
    by_cases h : i < wr.length
    · rw [List.getElem?_range h, Option.map_some, List.getElem?_append_left h, List.getElem?_eq_getElem h]; rfl
    · rw [List.getElem?_eq_none (by simpa using h), List.getElem?_eq_none (by omega)]; rfl
  · simp only [List.mem_range] at hi
    simp only [List.mem_cons, List.not_mem_nil, or_false]
    omega
section GC8
variable {p : Program} {l : Launch} {e : Env} {R : Room} {s : State} {m : MethodId} {args : Array Value} {below : List Frame} {meth : Method} {c : Code} {H : Heap} {locs : List Loc} {cells slots : Nat} {Q : State → Prop}
variable {pc : Nat} {ls : Array Slot} {rest st0 : List Value} {a : Array Value} {A0 A1 : Nat → Prop} {H0 : Heap} {mc ms : Nat} {free : Addr → Prop} {D : va_G} {tys : gTy} {Post : va_W → Prop}
theorem w_callI (hr : va_Run p l e R s m args below meth c H locs cells slots mc ms (F0 m pc ls st0) rest (QI D tys Post A1 a) free) (hS : va_S A0 H0 H locs) (hA : ∀ q, q < H.size → A1 q → A0 q) (hf : ∀ q, free q → A0 q)
    (kk : ∀ (w1 : va_W) (H1 : Heap) (locs1 : List Loc), Post w1 → va_D A1 w1 → va_P D vwCl w1 H1 → (∀ q : Nat, q < H.size → ¬ A1 q → H1[q]? = H[q]?) → va_S A0 H0 H1 locs1 → W p l e R s m args below meth c H1 locs1 (cells + mc) (slots + ms) Q (F0 m (pc + 3) ls rest)) : W p l e R s m args below meth c H locs cells slots Q (F0 m pc ls st0) := by
  intro T hT X
  obtain ⟨v, st₀, t, T', L, h0, X', hL, e1, e2, ⟨⟨w1, hv, hp, hD1, hP1, hK1⟩, hz, hk⟩, st⟩ := hr T hT X
  cases hv
  rw [h0] at hz hk
  obtain ⟨t2, a1, b1⟩ := kk w1 T'.heap (locs ++ L) hp hD1 (by rw [e1]; exact hP1) (fun q h1 h2 => by rw [e1]; exact hk q h1 h2)
    ⟨Nat.le_trans hS.1 (by rw [e1]; exact hz), fun q h1 h2 => by rw [e1, hk q (Nat.lt_of_lt_of_le h1 hS.1) (fun z => h2 (hA q (Nat.lt_of_lt_of_le h1 hS.1) z))]; exact hS.2.1 q h1 h2, fun q hq => by
      rcases List.mem_append.mp hq with h | h
      · exact hS.2.2 q h
      · exact hf _ (hL q h)⟩ T' rfl X'
  exact ⟨t2, st t2 a1, b1⟩
end GC8
theorem blind_CtI {D : va_G} {tys : gTy} {av : List Value} {w0 : va_W} {sz : Nat} : FrameBlind (va_Pc av (fun U => U.heap.size = sz ∧ va_P D vwCl w0 U.heap ∧ va_K D vwCl tys U ∧ va_D (fun _ => True) w0 ∧ NW U)) := by
  intro a U g mk q
  obtain ⟨q0, q1, qP, qK, qD, qN⟩ := q
  exact ⟨q0, q1, qP, va_K.moved (u := U) (U := U.calling g mk a) (Vm.Alike.refl U.vm) qK, qD, NW.same (s := U) (U := U.calling g mk a) rfl qN⟩
/-- a final field of the frame's own class -/
def FF (own : String) (index ci k : Nat) (ty : FieldType) : Prop := ∃ (C : String) (T : u_T) (N : Nat) (ty0 : Nat → FieldType), vwCl[ci]? = some (C, T, N) ∧ k < N ∧ (∀ w ∈ u_ws C T N, w ∈ lwB) ∧ Cond.fieldLink own index (T k).1 (T k).2.1 (T k).2.2.1 ∈ lwB ∧ (∀ k, k < N → parseFieldDescriptor (T k).2.2.1 = some (ty0 k)) ∧ (∀ a, a < N → ∀ b, b < N → a ≠ b → (T a).2.1 ≠ (T b).2.1) ∧ (T k).2.2.2 = true ∧ (T k).1 = own ∧ parseFieldDescriptor (T k).2.2.1 = some ty
/-- what a constructor's call rests on -/
def CI (y : MethodName) (bytes : ByteArray) (maxL : Nat) : Prop := Cond.initialized y.cls ∈ lwB ∧ Cond.code y bytes maxL none ∈ lwB ∧ Cond.instanceMethod y ∈ lwB ∧ y.name = "<init>" ∧ (y.cls ≠ "java/lang/invoke/MethodHandle" ∧ y.cls ≠ "java/lang/invoke/VarHandle" ∧ (parseMethodDescriptor y.desc).map (fun d => d.parameters.length) = some 0)
theorem CI.good {y : MethodName} {bytes : ByteArray} {maxL : Nat} (h : CI y bytes maxL) : GoodIn lwB (Cond.code y bytes maxL none :: lwB) := by
  refine lw_goodIn _ fun w hw => ?_
  rcases List.mem_cons.mp hw with rfl | hw
  · exact h.2.1
  · exact hw
section CR
variable {l : Launch} {R : Room} {D : va_G} {tys : gTy} {cc : ByteArray} {own : String} {nL mc ms : Nat} {ini : Bool} {Post : va_W → Prop} {G : GC9} {pc : Nat} {lv : List (Nat × Value)} {st : List Value} {ws : va_W} {k n : Nat}
theorem ct_ws (_ : RlC l R D tys cc own nL ini mc ms Post G) {ws' : va_W} (h : ws = ws') (kk : G pc lv st ws' k n) : G pc lv st ws k n := h ▸ kk
theorem ct_kn (_ : RlC l R D tys cc own nL ini mc ms Post G) {k' n' : Nat} (h1 : k = k') (h2 : n = n') (kk : G pc lv st ws k' n') : G pc lv st ws k n := h1 ▸ h2 ▸ kk
theorem ct_val (_ : RlC l R D tys cc own nL ini mc ms Post G) {v w : Value} (h : v = w) (kk : G pc lv (w :: st) ws k n) : G pc lv (v :: st) ws k n := h ▸ kk
theorem ct_iconst (hG : RlC l R D tys cc own nL ini mc ms Post G) {z : Int} (hd : decode cc pc = .ok (.iconst z, 1)) (kk : G (pc + 1) lv (iV z :: st) ws k n) : G pc lv st ws k n := by
  obtain ⟨p, e, s, m, args, below, meth, c, A, Z, rfl, hx, hb, hml, hown, hts, hK, hA, hN, hin, hfin⟩ := hG
  intro hD ls H locs hl hP hS
  exact lv_iconst hx hb hd rfl (kk hD ls H locs hl hP hS)
theorem ct_bipush (hG : RlC l R D tys cc own nL ini mc ms Post G) {z : Int} (hd : decode cc pc = .ok (.bipush z, 2)) (hv : (Int8.ofInt z).toInt32 = iI z) (kk : G (pc + 2) lv (iV z :: st) ws k n) : G pc lv st ws k n := by
  obtain ⟨p, e, s, m, args, below, meth, c, A, Z, rfl, hx, hb, hml, hown, hts, hK, hA, hN, hin, hfin⟩ := hG
  intro hD ls H locs hl hP hS
  exact lv_bipush hx hb hd hv (kk hD ls H locs hl hP hS)
theorem ct_sipush (hG : RlC l R D tys cc own nL ini mc ms Post G) {z : Int} (hd : decode cc pc = .ok (.sipush z, 3)) (hv : (Int16.ofInt z).toInt32 = iI z) (kk : G (pc + 3) lv (iV z :: st) ws k n) : G pc lv st ws k n := by
  obtain ⟨p, e, s, m, args, below, meth, c, A, Z, rfl, hx, hb, hml, hown, hts, hK, hA, hN, hin, hfin⟩ := hG
  intro hD ls H locs hl hP hS
  exact lv_sipush hx hb hd hv (kk hD ls H locs hl hP hS)
theorem ct_lconst (hG : RlC l R D tys cc own nL ini mc ms Post G) {f : Fin 2} {z : Int} (hd : decode cc pc = .ok (.lconst f, 1)) (hv : Int64.ofNat (f : Nat) = lI z) (kk : G (pc + 1) lv (lV z :: st) ws k n) : G pc lv st ws k n := by
  obtain ⟨p, e, s, m, args, below, meth, c, A, Z, rfl, hx, hb, hml, hown, hts, hK, hA, hN, hin, hfin⟩ := hG
  intro hD ls H locs hl hP hS
  exact lv_lconst hx hb hd hv (kk hD ls H locs hl hP hS)
theorem ct_aload_n (hG : RlC l R D tys cc own nL ini mc ms Post G) {f : Fin 4} {x : Nat} (j : Nat) (hk : lv[j]? = some ((f : Nat), .ref x)) (hd : decode cc pc = .ok (.aload_n f, 1)) (kk : G (pc + 1) lv (.ref x :: st) ws k n) : G pc lv st ws k n := by
  obtain ⟨p, e, s, m, args, below, meth, c, A, Z, rfl, hx, hb, hml, hown, hts, hK, hA, hN, hin, hfin⟩ := hG
  intro hD ls H locs hl hP hS
  exact lv_aload_n hx hb hd rfl (lv_at hl j hk) (kk hD ls H locs hl hP hS)
theorem ct_astore_n (hG : RlC l R D tys cc own nL ini mc ms Post G) {f : Fin 4} {x : Nat} {lv' : List (Nat × Value)} (hn : (f : Nat) < nL) (hl' : ((f : Nat), Value.ref x) :: lv.filter (fun q => !(q.1 == (f : Nat)) && !(q.1 + 1 == (f : Nat) && q.2.category == 2)) = lv') (hd : decode cc pc = .ok (.astore_n f, 1)) (kk : G (pc + 1) lv' st ws k n) : G pc lv (.ref x :: st) ws k n := by
  obtain ⟨p, e, s, m, args, below, meth, c, A, Z, rfl, hx, hb, hml, hown, hts, hK, hA, hN, hin, hfin⟩ := hG
  intro hD ls H locs hl hP hS
  exact lv_astore_n hx hb hd rfl hl hn hl' (fun ls' hl' => kk hD ls' H locs hl' hP hS)
theorem ct_istore_n (hG : RlC l R D tys cc own nL ini mc ms Post G) {f : Fin 4} {x : Int32} {lv' : List (Nat × Value)} (hn : (f : Nat) < nL) (hl' : ((f : Nat), Value.int x) :: lv.filter (fun q => !(q.1 == (f : Nat)) && !(q.1 + 1 == (f : Nat) && q.2.category == 2)) = lv') (hd : decode cc pc = .ok (.istore_n f, 1)) (kk : G (pc + 1) lv' st ws k n) : G pc lv (.int x :: st) ws k n := by
  obtain ⟨p, e, s, m, args, below, meth, c, A, Z, rfl, hx, hb, hml, hown, hts, hK, hA, hN, hin, hfin⟩ := hG
  intro hD ls H locs hl hP hS
  exact lv_istore_n hx hb hd rfl hl hn hl' (fun ls' hl' => kk hD ls' H locs hl' hP hS)
theorem ct_lv (hG : RlC l R D tys cc own nL ini mc ms Post G) (ks : List Nat) {lv' : List (Nat × Value)} (h : lv_pick lv ks = lv') (kk : G pc lv' st ws k n) : G pc lv st ws k n := by
  obtain ⟨p, e, s, m, args, below, meth, c, A, Z, rfl, hx, hb, hml, hown, hts, hK, hA, hN, hin, hfin⟩ := hG
  intro hD ls H locs hl hP hS
  exact kk hD ls H locs (lv_sub hl ks h) hP hS
theorem ct_dup (hG : RlC l R D tys cc own nL ini mc ms Post G) {a : Nat} (hd : decode cc pc = .ok (.dup, 1)) (kk : G (pc + 1) lv (.ref a :: .ref a :: st) ws k n) : G pc lv (.ref a :: st) ws k n := by
  obtain ⟨p, e, s, m, args, below, meth, c, A, Z, rfl, hx, hb, hml, hown, hts, hK, hA, hN, hin, hfin⟩ := hG
  intro hD ls H locs hl hP hS
  exact lv_dup hx hb hd rfl (kk hD ls H locs hl hP hS)
theorem ct_object (hG : RlC l R D tys cc own nL ini mc ms Post G) {a idx : Nat} (hw : Cond.methodLink own idx Lib.objectInit ∈ lwB) (hi : Cond.instanceMethod Lib.objectInit ∈ lwB) (hc : Cond.code Lib.objectInit ⟨#[0xb1]⟩ 1 none ∈ lwB) (hd : decode cc pc = .ok (.invokespecial idx, 3)) (hf : 1 ≤ R.frames) (hlo : 12 ≤ R.locals) (kk : G (pc + 3) lv [] ws k n) : G pc lv [.ref a] ws k n := by
  obtain ⟨p, e, s, m, args, below, meth, c, A, Z, rfl, hx, hb, hml, hown, hts, hK, hA, hN, hin, hfin⟩ := hG
  intro hD ls H locs hl hP hS
  refine W.objInit hx hb hown (hts _ hw) (hts _ hi) (hts _ hc) rfl (by rw [hml]; exact hl.1) rfl hd hf hlo ?_
  exact W.eq (g2 := F0 m (pc + 3) ls []) rfl (kk hD ls H locs hl hP hS)
theorem ct_new (hG : RlC l R D tys cc own nL ini mc ms Post G) {C : String} {T : u_T} {N ci index : Nat} {fs : List Value} {ty : Nat → FieldType} (hc : vwCl[ci]? = some (C, T, N)) (hlay : ∀ w ∈ u_ws C T N, w ∈ lwB) (hty : ∀ k, k < N → parseFieldDescriptor (T k).2.2.1 = some (ty k)) (hcl : Cond.classLink own index C ∈ lwB) (hinst : Cond.instantiable C N ∈ lwB) (hini : Cond.initialized C ∈ lwB) (hfs : ∀ j, j < N → defaultValue (ty j) = vp_V fs j) (hk : k + 1 ≤ R.cells) (hn : n + N ≤ R.slots) (hd : decode cc pc = .ok (.new index, 3))
    (kk : ∀ q, G (pc + 3) lv (.ref q :: st) (ws ++ [(q, ob ci fs)]) (k + 1) (n + N)) : G pc lv st ws k n := by
  obtain ⟨p, e, s, m, args, below, meth, c, A, Z, rfl, hx, hb, hml, hown, hts, hK, hA, hN, hin, hfin⟩ := hG
  intro hD ls H locs hl hP hS
  exact va_new hx hb hts hlay ty hty hown (hts _ hcl) (hts _ hinst) (hts _ hini) hK hP hD hS hA hc hfs hk hn hd (fun q H1 hP1 hD1 hS1 => kk q hD1 ls H1 locs hl hP1 hS1)
theorem ct_put (hG : RlC l R D tys cc own nL ini mc ms Post G) {index ci j a : Nat} {fs : List Value} {v : Value} {ty : FieldType} {ws' : va_W} (hF : FP own index ci j ty) (q0 : Nat) (he : ws[q0]? = some (a, .inr (ci, fs))) (hn : narrow ty v = v) (hf : fits ty v = true) (hlen : j < fs.length) (hw : ws.set q0 (a, .inr (ci, fs.set j v)) = ws') (hd : decode cc pc = .ok (.putfield index, 3)) (kk : G (pc + 3) lv st ws' k n) : G pc lv (v :: .ref a :: st) ws k n := by
  obtain ⟨p, e, s, m, args, below, meth, c, A, Z, rfl, hx, hb, hml, hown, hts, hK, hA, hN, hin, hfin⟩ := hG
  intro hD ls H locs hl hP hS
  obtain ⟨C, T, N, ty0, hc, hk, hin, hlink, hty, hnm, hfin, hp⟩ := hF
  subst hw
  exact va_put (D := D) hx hb hts hin ty0 hty hnm hown hK hP hD hS q0 he hc j hk (hts _ hlink) (fun _ h => h) hfin hp hn hf hlen hd (fun H1 locs1 hP1 hD1 hS1 => kk hD1 ls H1 locs1 hl hP1 hS1)
theorem ct_putF (hG : RlC l R D tys cc own nL true mc ms Post G) {index ci j a : Nat} {fs : List Value} {v : Value} {ty : FieldType} {ws' : va_W} (hF : FF own index ci j ty) (q0 : Nat) (he : ws[q0]? = some (a, .inr (ci, fs))) (hn : narrow ty v = v) (hf : fits ty v = true) (hlen : j < fs.length) (hw : ws.set q0 (a, .inr (ci, fs.set j v)) = ws') (hd : decode cc pc = .ok (.putfield index, 3)) (kk : G (pc + 3) lv st ws' k n) : G pc lv (v :: .ref a :: st) ws k n := by
  obtain ⟨p, e, s, m, args, below, meth, c, A, Z, rfl, hx, hb, hml, hown, hts, hK, hA, hN, hnm9, hfin⟩ := hG
  intro hD ls H locs hl hP hS
  obtain ⟨C, T, N, ty0, hc, hk, hin, hlink, hty, hnm, hfin, hdecl, hp⟩ := hF
  subst hw
  exact va_putF (D := D) hx hb hts hin ty0 hty hnm hown hK hP hD hS q0 he hc j hk (hts _ hlink) (fun _ h => h) hfin (hnm9 rfl) hdecl hp hn hf hlen hd (fun H1 locs1 hP1 hD1 hS1 => kk hD1 ls H1 locs1 hl hP1 hS1)
theorem ct_ret (hG : RlC l R D tys cc own nL ini mc ms Post G) (hk : k ≤ mc) (hn : n ≤ ms) (is : List Nat) {ws' : va_W} (hs : is.filterMap (fun i => ws[i]?) = ws') (hs2 : is.map (fun i => ws[i]?) = ws'.map some) (hnd : va_nd is = true) (hp : Post ws') (hd : decode cc pc = .ok (.return_, 1)) : G pc lv [] ws k n := by
  obtain ⟨p, e, s, m, args, below, meth, c, A, Z, rfl, hx, hb, hml, hown, hts, hK, hA, hN, hin, hfin⟩ := hG
  intro hD ls H locs hl hP hS
  exact W.widen hk hn (hfin pc hd ws' hp (hD.sub is hnd hs2) ls H locs (hP.sub is hs) hS)
theorem ct_initN (hG : RlC l R D tys cc own nL ini mc ms Post G) {y : MethodName} {bytes : ByteArray} {maxL index ci q mc' ms' : Nat} {fs : List Value} {rm : Room} {Post' : va_W → Prop} (wr : va_W)
    (hC : CtI l D tys y bytes maxL rm [.ref q] [(q, ob ci fs)] Post' mc' ms') (hws : ws = wr ++ [(q, ob ci fs)]) (hq : (own, index, y) ∈ lwN) (hT : CI y bytes maxL) (hrm : rm.cells = mc' ∧ rm.slots = ms') (hR : rm.frames + 1 ≤ R.frames ∧ 8 + (maxL + 11) + rm.locals ≤ R.locals) (hkn : k + mc' ≤ R.cells ∧ n + ms' ≤ R.slots) (hrest : (st.map fun v => v.category).sum ≤ 8) (hdg : decode cc pc = .ok (.invokespecial index, 3))
    (kk : ∀ w1, Post' w1 → G (pc + 3) lv st (wr ++ w1) (k + mc') (n + ms')) : G pc lv (.ref q :: st) ws k n := by
  obtain ⟨p, e, s, m, args, below, meth, c, A, Z, rfl, hx, hb, hml, hown, hts, hK, hA, hN, hin, hfin⟩ := hG
  subst hws
  intro hD ls H locs hl hP hS
  have hlast : (wr ++ [(q, ob ci fs)])[wr.length]? = some (q, ob ci fs) := by simp
  have hPc : va_P D vwCl [(q, ob ci fs)] H := hP.sub [wr.length] (by simp)
  have hDc : va_D (fun _ => True) [(q, ob ci fs)] := ⟨fun i j x z h1 h2 _ => by have h3 := (List.getElem?_eq_some_iff.mp h1).1; have h4 := (List.getElem?_eq_some_iff.mp h2).1; simp at h3 h4; omega, fun _ _ _ => trivial⟩
  have hFc : ∀ q', va_A [(q, ob ci fs)] H.size q' → A q' := fun q' h => by
    rcases h with ⟨i, e9, h⟩ | h
    · have h3 := (List.getElem?_eq_some_iff.mp h).1
      have : i = 0 := by simp at h3; omega
      subst this
      have h5 := hD.2 _ _ hlast
      simp at h
      rw [← h.1]; exact h5
    · exact hA q' (Nat.le_trans hS.1 h)
  refine w_callI (va_runIN (host := RX10) (As := []) (rest := st) ⟨hx, hb, hml, hown, hts⟩ (hC H.size) ⟨va_cnB 0 hts hT.good rfl hrm.1 hrm.2 (hN.1 _ hq) (hts _ hT.1) hT.2.2.2.2 hR, hT.2.2.2.1, hts _ hT.2.2.1⟩ ⟨blind_CtI, fun U hU hW => ⟨rfl, by rw [hU], by rw [hU]; exact hPc, va_K.moved hW.alike hK, hDc, hN.warm hW⟩⟩ rfl rfl hl.1 rfl (lv_room hrest) hdg hkn) hS (fun q _ h => hFc q h) hFc (fun w1 H1 locs1 hp hD1 hP1 hk1 hS1 => ?_)
  obtain ⟨e1, e2⟩ := join_last hP hD hk1 hFc hP1 hD1
  exact kk w1 hp e2 ls H1 locs1 hl e1 hS1
theorem ct_init (hG : RlC l R D tys cc own nL ini mc ms Post G) {y : MethodName} {bytes : ByteArray} {maxL index ci q mc' ms' : Nat} {fs : List Value} {rm : Room} {Post' : va_W → Prop} (wr : va_W)
    (hC : CtI l D tys y bytes maxL rm [.ref q] [(q, ob ci fs)] Post' mc' ms') (hws : ws = wr ++ [(q, ob ci fs)]) (hq : Cond.methodLink own index y ∈ lwB) (hT : CI y bytes maxL) (hrm : rm.cells = mc' ∧ rm.slots = ms') (hR : rm.frames + 1 ≤ R.frames ∧ 8 + (maxL + 11) + rm.locals ≤ R.locals) (hkn : k + mc' ≤ R.cells ∧ n + ms' ≤ R.slots) (hrest : (st.map fun v => v.category).sum ≤ 8) (hdg : decode cc pc = .ok (.invokespecial index, 3))
    (kk : ∀ w1, Post' w1 → G (pc + 3) lv st (wr ++ w1) (k + mc') (n + ms')) : G pc lv (.ref q :: st) ws k n := by
  obtain ⟨p, e, s, m, args, below, meth, c, A, Z, rfl, hx, hb, hml, hown, hts, hK, hA, hN, hin, hfin⟩ := hG
  subst hws
  intro hD ls H locs hl hP hS
  have hlast : (wr ++ [(q, ob ci fs)])[wr.length]? = some (q, ob ci fs) := by simp
  have hPc : va_P D vwCl [(q, ob ci fs)] H := hP.sub [wr.length] (by simp)
  have hDc : va_D (fun _ => True) [(q, ob ci fs)] := ⟨fun i j x z h1 h2 _ => by have h3 := (List.getElem?_eq_some_iff.mp h1).1; have h4 := (List.getElem?_eq_some_iff.mp h2).1; simp at h3 h4; omega, fun _ _ _ => trivial⟩
  have hFc : ∀ q', va_A [(q, ob ci fs)] H.size q' → A q' := fun q' h => by
    rcases h with ⟨i, e9, h⟩ | h
    · have h3 := (List.getElem?_eq_some_iff.mp h).1
      have : i = 0 := by simp at h3; omega
      subst this
      have h5 := hD.2 _ _ hlast
      simp at h
      rw [← h.1]; exact h5
    · exact hA q' (Nat.le_trans hS.1 h)
  refine w_callI (va_runI (As := []) (rest := st) ⟨hx, hb, hml, hown, hts⟩ (hC H.size) (cwI 0 hts hT.good rfl hrm.1 hrm.2 (hts _ hT.1) (hts _ hq) (hts _ hT.2.2.1) hT.2.2.2.1 hT.2.2.2.2 hR) ⟨blind_CtI, fun U hU hW => ⟨rfl, by rw [hU], by rw [hU]; exact hPc, va_K.moved hW.alike hK, hDc, hN.warm hW⟩⟩ rfl rfl hl.1 rfl (lv_room hrest) hdg hkn) hS (fun q _ h => hFc q h) hFc (fun w1 H1 locs1 hp hD1 hP1 hk1 hS1 => ?_)
  obtain ⟨e1, e2⟩ := join_last hP hD hk1 hFc hP1 hD1
  exact kk w1 hp e2 ls H1 locs1 hl e1 hS1
end CR
section CA
variable {l : Launch} {R : Room} {D : va_G} {cI cL cZ cX cG : ClassId} {cc : ByteArray} {own : String} {nL mc ms : Nat} {ini : Bool} {Post : va_W → Prop} {G : GC9} {pc : Nat} {lv : List (Nat × Value)} {st : List Value} {ws : va_W} {k n : Nat}
theorem ct_newI (hG : RlC l R D (gT cI cL cZ cX cG) cc own nL ini mc ms Post G) {N : Nat} {z : Int} (hz : z = ((N : Nat) : Int)) (hN : N < 100000) (hw : Cond.arrayClass .int ∈ lwB) (hk : k + 1 ≤ R.cells) (hn : n + N ≤ R.slots) (hd : decode cc pc = .ok (.newarray .int, 2)) (kk : ∀ q, G (pc + 2) lv (.ref q :: st) (ws ++ [(q, aI cI N (fun _ => 0))]) (k + 1) (n + N)) : G pc lv (iV z :: st) ws k n := by
  obtain ⟨p, e, s, m, args, below, meth, c, A, Z, rfl, hx, hb, hml, hown, hts, hK, hA, hN', hin, hfin⟩ := hG
  intro hD ls H locs hl hP hS
  refine va_newa (a0 := (N, .inl (fun _ => iI 0))) (atype := .int) (ty := .int) hx hb (hts _ hw) rfl hK hP hD hS hA (fun _ => rfl) (by rw [iI_lt0 (by omega)]; omega) (iI_clamp hz (by omega)) (by show N * 4 ≤ _; omega) hk hn hd (fun q cA H1 hK1 hP1 hD1 hS1 => ?_)
  have e1 : some cA = some cI := (show s.vm.findClass ("[" ++ FieldType.int.toString) = some cA from (hK1.2 5 (cA, .int) rfl).2).symm.trans (hK.2 0 (cI, .int) rfl).2
  cases e1
  exact kk q hD1 ls H1 locs hl hP1 hS1
theorem ct_newL (hG : RlC l R D (gT cI cL cZ cX cG) cc own nL ini mc ms Post G) {N : Nat} {z : Int} (hz : z = ((N : Nat) : Int)) (hN : N < 100000) (hw : Cond.arrayClass .long ∈ lwB) (hk : k + 1 ≤ R.cells) (hn : n + N ≤ R.slots) (hd : decode cc pc = .ok (.newarray .long, 2)) (kk : ∀ q, G (pc + 2) lv (.ref q :: st) (ws ++ [(q, aL cL N (fun _ => 0))]) (k + 1) (n + N)) : G pc lv (iV z :: st) ws k n := by
  obtain ⟨p, e, s, m, args, below, meth, c, A, Z, rfl, hx, hb, hml, hown, hts, hK, hA, hN', hin, hfin⟩ := hG
  intro hD ls H locs hl hP hS
  refine va_newa (a0 := (N, .inr (.inl (fun _ => lI 0)))) (atype := .long) (ty := .long) hx hb (hts _ hw) rfl hK hP hD hS hA (fun _ => rfl) (by rw [iI_lt0 (by omega)]; omega) (iI_clamp hz (by omega)) (by show N * 8 ≤ _; omega) hk hn hd (fun q cA H1 hK1 hP1 hD1 hS1 => ?_)
  have e1 : some cA = some cL := (show s.vm.findClass ("[" ++ FieldType.long.toString) = some cA from (hK1.2 5 (cA, .long) rfl).2).symm.trans (hK.2 1 (cL, .long) rfl).2
  cases e1
  exact kk q hD1 ls H1 locs hl hP1 hS1
theorem ct_newZ (hG : RlC l R D (gT cI cL cZ cX cG) cc own nL ini mc ms Post G) {N : Nat} {z : Int} (hz : z = ((N : Nat) : Int)) (hN : N < 100000) (hw : Cond.arrayClass .boolean ∈ lwB) (hk : k + 1 ≤ R.cells) (hn : n + N ≤ R.slots) (hd : decode cc pc = .ok (.newarray .boolean, 2)) (kk : ∀ q, G (pc + 2) lv (.ref q :: st) (ws ++ [(q, aZ cZ N (fun _ => false))]) (k + 1) (n + N)) : G pc lv (iV z :: st) ws k n := by
  obtain ⟨p, e, s, m, args, below, meth, c, A, Z, rfl, hx, hb, hml, hown, hts, hK, hA, hN', hin, hfin⟩ := hG
  intro hD ls H locs hl hP hS
  refine va_newa (a0 := (N, .inl (fun _ => bI false))) (atype := .boolean) (ty := .boolean) hx hb (hts _ hw) rfl hK hP hD hS hA (fun _ => rfl) (by rw [iI_lt0 (by omega)]; omega) (iI_clamp hz (by omega)) (by show N * 1 ≤ _; omega) hk hn hd (fun q cA H1 hK1 hP1 hD1 hS1 => ?_)
  have e1 : some cA = some cZ := (show s.vm.findClass ("[" ++ FieldType.boolean.toString) = some cA from (hK1.2 5 (cA, .boolean) rfl).2).symm.trans (hK.2 2 (cZ, .boolean) rfl).2
  cases e1
  exact kk q hD1 ls H1 locs hl hP1 hS1
theorem w_mna {p : Program} {e : Env} {s : State} {m : MethodId} {args : Array Value} {below : List Frame} {meth : Method} {c : Code} {A : Nat → Prop} {Z : State → Prop} {H : Heap} {locs : List Loc} {ls : Array Slot} (hexec : p.tables.exec = Jvm.exec) (hb : c.code = cc) {index : Nat} {ty : FieldType} {cA cy : ClassId} (hown : s.vm.findClass own = some m.cls) (hclink : (Cond.classLink own index ("[" ++ (FieldType.array ty).toString)).before args s = true) (hover : (Cond.arrayOver (.array ty)).before args s = true) (harr : (Cond.arrayClass ty).before args s = true) (hcy : s.vm.findClass (FieldType.array ty).toString = some cy) (hcA : s.vm.findClass ("[" ++ (FieldType.array ty).toString) = some cA)
    (hP : va_P D vwCl ws H) (hD : va_D A ws) (hS : va_S A s.heap H locs) (hA : ∀ q, s.heap.size ≤ q → A q) {n9 k9 : Int32} {N' K' : Nat} {z : vp_A} (hn : ¬ n9 < 0) (hk : ¬ k9 < 0) (hN : n9.toNatClampNeg = N') (hM : k9.toNatClampNeg = K')
    (hb1 : N' * 4 ≤ 536870912) (hb2 : K' * componentBytes ty ≤ 536870912) (hb3 : K' ≤ 536870912) (hdf : fits ty (defaultValue ty) = true) (hdd : (defaultValue ty).isDefault = true) (hcells : k + (1 + N') ≤ R.cells) (hslots : n + (N' + N' * K') ≤ R.slots) (hz : ∀ c : ClassId, Jvm.Free.Multi.innerC c K' (defaultValue ty) = vp_cell c z) (hdg : decode cc pc = .ok (.multianewarray index 2, 4))
    (kk : ∀ (q : Nat) (H1 : Heap), va_P D vwCl (ws ++ ((q, aR cA N' (fun i => q + 1 + i)) :: (List.range N').map (fun i => (q + 1 + i, (.inl (cy, z) : va_E))))) H1 → va_D A (ws ++ ((q, aR cA N' (fun i => q + 1 + i)) :: (List.range N').map (fun i => (q + 1 + i, (.inl (cy, z) : va_E))))) → va_S A s.heap H1 locs →
      W p l e R s m args below meth c H1 locs (k + 1 + N') (n + N' + N' * K') Z (F0 m (pc + 4) ls (.ref q :: st))) : W p l e R s m args below meth c H locs k n Z (F0 m pc ls (.int k9 :: .int n9 :: st)) := by
  subst hN
  subst hM
  intro T hT Xs
  obtain ⟨vm₁, cA', comp, -, fA, fC, hO, -, X', step⟩ := Xs.multianewarray2F hexec hown hclink hover harr (g := F0 m pc ls (.int k9 :: .int n9 :: st)) rfl (by rw [hb]; exact hdg) rfl hn hk hb1 hb2 hb3 hdf hdd hcells hslots
  have ec : some cy = some comp := hcy.symm.trans fC
  cases ec
  have eA : some cA = some cA' := hcA.symm.trans fA
  cases eA
  generalize hF : Jvm.Free.Multi.fill (T.setVm vm₁) cA cy n9.toNatClampNeg k9.toNatClampNeg (defaultValue ty) n9.toNatClampNeg = F at X' step
  have hTh : (T.setVm vm₁).heap = H := hT
  obtain ⟨f1, f2, -, -⟩ := Jvm.Free.Multi.fill_facts (T.setVm vm₁) cA cy n9.toNatClampNeg k9.toNatClampNeg (defaultValue ty) n9.toNatClampNeg
  rw [hF, hTh] at f1 f2
  have hold : ∀ x : Nat, x < H.size → F.heap[x]? = H[x]? := fun x hx => by
    have := Jvm.Free.Multi.fill_old (T.setVm vm₁) cA cy n9.toNatClampNeg k9.toNatClampNeg (defaultValue ty) (a := x) (by rw [hTh]; exact hx) n9.toNatClampNeg
    rw [hF, hTh] at this
    exact this
  have hrow : ∀ j : Nat, j < n9.toNatClampNeg → F.heap[H.size + 1 + j]? = some (vp_cell cy z) := fun j hj => by
    have := Jvm.Free.Multi.fill_inner (T.setVm vm₁) cA cy n9.toNatClampNeg k9.toNatClampNeg (defaultValue ty) n9.toNatClampNeg j hj
    rw [hF, hTh, hz] at this
    exact this
  have hout : Jvm.Free.Multi.outerC cA n9.toNatClampNeg H.size n9.toNatClampNeg = vp_cell cA (n9.toNatClampNeg, .inr (.inr (.inr (.inr (fun i => if i < n9.toNatClampNeg then some (H.size + 1 + i) else none))))) := by
    rw [vp_cell_q]
    exact vr_outer cA n9.toNatClampNeg H.size n9.toNatClampNeg
  rw [hout] at f2
  have hP0 : va_P D vwCl ws F.heap := hP.kept (fun k8 x hx => hold x.1 ((hP k8 x hx).lt))
  have hP1 := hP0.app (w2 := (H.size, aR cA n9.toNatClampNeg (fun i => H.size + 1 + i)) :: (List.range n9.toNatClampNeg).map (fun i => (H.size + 1 + i, (.inl (cy, z) : va_E)))) (fun k8 x hx => by
    cases k8 with
    | zero => rw [List.getElem?_cons_zero] at hx; cases hx; exact f2
    | succ j =>
      rw [List.getElem?_cons_succ, List.getElem?_map] at hx
      cases hj : (List.range n9.toNatClampNeg)[j]? with
      | none => rw [hj] at hx; cases hx
      | some i =>
        rw [hj] at hx
        have hi := List.mem_range.mp (List.mem_of_getElem? hj)
        cases hx
        exact hrow i hi)
  have hD1 : va_D A (ws ++ ((H.size, aR cA n9.toNatClampNeg (fun i => H.size + 1 + i)) :: (List.range n9.toNatClampNeg).map (fun i => (H.size + 1 + i, (.inl (cy, z) : va_E))))) := app_D hD hP (fun i x hx => by
    cases i with
    | zero => rw [List.getElem?_cons_zero] at hx; cases hx; rfl
    | succ j =>
      rw [List.getElem?_cons_succ, List.getElem?_map] at hx
      cases hj : (List.range n9.toNatClampNeg)[j]? with
      | none => rw [hj] at hx; cases hx
      | some i =>
        rw [hj] at hx
        have h2 : i = j := by
          obtain ⟨h3, h4⟩ := List.getElem?_eq_some_iff.mp hj
          rw [List.getElem_range] at h4; exact h4.symm
        cases hx
        show H.size + 1 + i = H.size + (j + 1)
        omega) (fun q h => hA q (Nat.le_trans hS.1 h))
  obtain ⟨t, a1, b1⟩ := kk H.size F.heap hP1 hD1 ⟨Nat.le_trans hS.1 (by rw [f1]; omega), fun x h1 h2 => (hold x (Nat.lt_of_lt_of_le h1 hS.1)).trans (hS.2.1 x h1 h2), hS.2.2⟩ F rfl X'
  refine ⟨t, step t ?_, b1⟩
  have e0 : T.heap.size = H.size := by rw [hT]
  rw [e0]; exact a1
theorem ct_mnaI (hG : RlC l R D (gT cI cL cZ cX cG) cc own nL ini mc ms Post G) {N K' index : Nat} {z y : Int} (hz : z = ((N : Nat) : Int)) (hy : y = ((K' : Nat) : Int)) (hN : N < 100000) (hK' : K' < 100000) (hw : Cond.arrayClass .int ∈ lwB) (hcl : Cond.classLink own index "[[I" ∈ lwB) (hk : k + (1 + N) ≤ R.cells) (hn : n + (N + N * K') ≤ R.slots) (hd : decode cc pc = .ok (.multianewarray index 2, 4)) (kk : ∀ q, G (pc + 4) lv (.ref q :: st) (ws ++ ((q, aR cX N (fun i => q + 1 + i)) :: (List.range N).map (fun i => (q + 1 + i, aI cI K' (fun _ => 0))))) (k + 1 + N) (n + N + N * K')) : G pc lv (iV y :: iV z :: st) ws k n := by
  obtain ⟨p, e, s, m, args, below, meth, c, A, Z, rfl, hx, hb, hml, hown, hts, hK, hA, hN', hin, hfin⟩ := hG
  intro hD ls H locs hl hP hS
  exact w_mna (ty := .int) (z := (K', .inl (fun _ => iI 0))) hx hb hown (hts _ hcl) (Jvm.Stand.arrayOver_alikeB (Vm.Alike.refl _) hN'.2.1) (hts _ hw) (hK.2 0 (cI, .int) rfl).2 (hK.2 3 (cX, .array .int) rfl).2 hP hD hS hA (by rw [iI_lt0 (by omega)]; omega) (by rw [iI_lt0 (by omega)]; omega) (iI_clamp hz (by omega)) (iI_clamp hy (by omega)) (by omega) (by show K' * 4 ≤ _; omega) (by omega) rfl rfl hk hn (fun c9 => by show _ = arrV c9 K' (fun _ => .int (iI 0)); rw [← arrV_new]; rfl) hd (fun q H1 hP1 hD1 hS1 => kk q hD1 ls H1 locs hl hP1 hS1)
theorem ct_mnaL (hG : RlC l R D (gT cI cL cZ cX cG) cc own nL ini mc ms Post G) {N K' index : Nat} {z y : Int} (hz : z = ((N : Nat) : Int)) (hy : y = ((K' : Nat) : Int)) (hN : N < 100000) (hK' : K' < 100000) (hw : Cond.arrayClass .long ∈ lwB) (hcl : Cond.classLink own index "[[J" ∈ lwB) (hk : k + (1 + N) ≤ R.cells) (hn : n + (N + N * K') ≤ R.slots) (hd : decode cc pc = .ok (.multianewarray index 2, 4)) (kk : ∀ q, G (pc + 4) lv (.ref q :: st) (ws ++ ((q, aR cG N (fun i => q + 1 + i)) :: (List.range N).map (fun i => (q + 1 + i, aL cL K' (fun _ => 0))))) (k + 1 + N) (n + N + N * K')) : G pc lv (iV y :: iV z :: st) ws k n := by
  obtain ⟨p, e, s, m, args, below, meth, c, A, Z, rfl, hx, hb, hml, hown, hts, hK, hA, hN', hin, hfin⟩ := hG
  intro hD ls H locs hl hP hS
  exact w_mna (ty := .long) (z := (K', .inr (.inl (fun _ => lI 0)))) hx hb hown (hts _ hcl) (Jvm.Stand.arrayOver_alikeB (Vm.Alike.refl _) hN'.2.2) (hts _ hw) (hK.2 1 (cL, .long) rfl).2 (hK.2 4 (cG, .array .long) rfl).2 hP hD hS hA (by rw [iI_lt0 (by omega)]; omega) (by rw [iI_lt0 (by omega)]; omega) (iI_clamp hz (by omega)) (iI_clamp hy (by omega)) (by omega) (by show K' * 8 ≤ _; omega) (by omega) rfl rfl hk hn (fun c9 => by show _ = arrV c9 K' (fun _ => .long (lI 0)); rw [← arrV_new]; rfl) hd (fun q H1 hP1 hD1 hS1 => kk q hD1 ls H1 locs hl hP1 hS1)
end CA
theorem ff0_12 : FF RX0 12 0 0 (.object "GuessBench$Squares") := ⟨RX0, TX0, 9, tyX0, rfl, by decide, wl_0, inB wd_249 rfl, tyX0_ok, nmX0, rfl, rfl, by decide +kernel⟩
theorem ff0_18 : FF RX0 18 0 1 (.array .long) := ⟨RX0, TX0, 9, tyX0, rfl, by decide, wl_0, inB wd_250 rfl, tyX0_ok, nmX0, rfl, rfl, by decide +kernel⟩
theorem ff0_22 : FF RX0 22 0 2 (.array .long) := ⟨RX0, TX0, 9, tyX0, rfl, by decide, wl_0, inB wd_251 rfl, tyX0_ok, nmX0, rfl, rfl, by decide +kernel⟩
theorem ff0_25 : FF RX0 25 0 3 (.array .long) := ⟨RX0, TX0, 9, tyX0, rfl, by decide, wl_0, inB wd_252 rfl, tyX0_ok, nmX0, rfl, rfl, by decide +kernel⟩
theorem ff0_28 : FF RX0 28 0 4 (.array .long) := ⟨RX0, TX0, 9, tyX0, rfl, by decide, wl_0, inB wd_253 rfl, tyX0_ok, nmX0, rfl, rfl, by decide +kernel⟩
theorem ff0_31 : FF RX0 31 0 5 (.array .long) := ⟨RX0, TX0, 9, tyX0, rfl, by decide, wl_0, inB wd_254 rfl, tyX0_ok, nmX0, rfl, rfl, by decide +kernel⟩
theorem ff0_34 : FF RX0 34 0 6 (.array .long) := ⟨RX0, TX0, 9, tyX0, rfl, by decide, wl_0, inB wd_255 rfl, tyX0_ok, nmX0, rfl, rfl, by decide +kernel⟩
theorem ff0_37 : FF RX0 37 0 7 (.array .boolean) := ⟨RX0, TX0, 9, tyX0, rfl, by decide, wl_0, inB wd_256 rfl, tyX0_ok, nmX0, rfl, rfl, by decide +kernel⟩
theorem ff3_13 : FF RX3 13 2 0 (.array .int) := ⟨RX3, TX3, 3, tyX3, rfl, by decide, wl_3, inB wd_229 rfl, tyX3_ok, nmX3, rfl, rfl, by decide +kernel⟩
theorem ff4_9 : FF RX4 9 3 0 (.array .long) := ⟨RX4, TX4, 7, tyX4, rfl, by decide, wl_4, inB wd_198 rfl, tyX4_ok, nmX4, rfl, rfl, by decide +kernel⟩
theorem ff5_9 : FF RX5 9 4 0 (.array .int) := ⟨RX5, TX5, 3, tyX5, rfl, by decide, wl_5, inB wd_151 rfl, tyX5_ok, nmX5, rfl, rfl, by decide +kernel⟩
theorem ff6_11 : FF RX6 11 5 0 (.array .int) := ⟨RX6, TX6, 6, tyX6, rfl, by decide, wl_6, inB wd_114 rfl, tyX6_ok, nmX6, rfl, rfl, by decide +kernel⟩
theorem ff6_15 : FF RX6 15 5 1 (.array .int) := ⟨RX6, TX6, 6, tyX6, rfl, by decide, wl_6, inB wd_117 rfl, tyX6_ok, nmX6, rfl, rfl, by decide +kernel⟩
theorem ff6_18 : FF RX6 18 5 2 (.array .int) := ⟨RX6, TX6, 6, tyX6, rfl, by decide, wl_6, inB wd_120 rfl, tyX6_ok, nmX6, rfl, rfl, by decide +kernel⟩
theorem ff6_21 : FF RX6 21 5 3 (.array .int) := ⟨RX6, TX6, 6, tyX6, rfl, by decide, wl_6, inB wd_123 rfl, tyX6_ok, nmX6, rfl, rfl, by decide +kernel⟩
theorem ff6_24 : FF RX6 24 5 4 (.array .int) := ⟨RX6, TX6, 6, tyX6, rfl, by decide, wl_6, inB wd_126 rfl, tyX6_ok, nmX6, rfl, rfl, by decide +kernel⟩
theorem ff7_9 : FF RX7 9 6 0 (.array .long) := ⟨RX7, TX7, 3, tyX7, rfl, by decide, wl_7, inB wd_283 rfl, tyX7_ok, nmX7, rfl, rfl, by decide +kernel⟩
theorem ff7_13 : FF RX7 13 6 1 (.array .long) := ⟨RX7, TX7, 3, tyX7, rfl, by decide, wl_7, inB wd_285 rfl, tyX7_ok, nmX7, rfl, rfl, by decide +kernel⟩
theorem ff8_9 : FF RX8 9 7 0 (.array .long) := ⟨RX8, TX8, 6, tyX8, rfl, by decide, wl_8, inB wd_167 rfl, tyX8_ok, nmX8, rfl, rfl, by decide +kernel⟩
theorem ff8_15 : FF RX8 15 7 1 (.array .long) := ⟨RX8, TX8, 6, tyX8, rfl, by decide, wl_8, inB wd_168 rfl, tyX8_ok, nmX8, rfl, rfl, by decide +kernel⟩
theorem ff8_18 : FF RX8 18 7 2 (.array .long) := ⟨RX8, TX8, 6, tyX8, rfl, by decide, wl_8, inB wd_170 rfl, tyX8_ok, nmX8, rfl, rfl, by decide +kernel⟩
theorem ff8_21 : FF RX8 21 7 3 (.array .long) := ⟨RX8, TX8, 6, tyX8, rfl, by decide, wl_8, inB wd_172 rfl, tyX8_ok, nmX8, rfl, rfl, by decide +kernel⟩
theorem ff9_9 : FF RX9 9 8 0 (.array .int) := ⟨RX9, TX9, 6, tyX9, rfl, by decide, wl_9, inB wd_78 rfl, tyX9_ok, nmX9, rfl, rfl, by decide +kernel⟩
theorem ff9_15 : FF RX9 15 8 1 (.array .int) := ⟨RX9, TX9, 6, tyX9, rfl, by decide, wl_9, inB wd_79 rfl, tyX9_ok, nmX9, rfl, rfl, by decide +kernel⟩
theorem ff9_18 : FF RX9 18 8 2 (.array .boolean) := ⟨RX9, TX9, 6, tyX9, rfl, by decide, wl_9, inB wd_83 rfl, tyX9_ok, nmX9, rfl, rfl, by decide +kernel⟩
theorem ff10_10 : FF RX10 10 9 0 (.object "GuessBench$Table") := ⟨RX10, TX10, 19, tyX10, rfl, by decide, wl_10, inB wd_315 rfl, tyX10_ok, nmX10, rfl, rfl, by decide +kernel⟩
theorem ff10_19 : FF RX10 19 9 1 (.object "GuessBench$Pool") := ⟨RX10, TX10, 19, tyX10, rfl, by decide, wl_10, inB wd_316 rfl, tyX10_ok, nmX10, rfl, rfl, by decide +kernel⟩
theorem ff10_26 : FF RX10 26 9 2 (.object "GuessBench$Picks") := ⟨RX10, TX10, 19, tyX10, rfl, by decide, wl_10, inB wd_317 rfl, tyX10_ok, nmX10, rfl, rfl, by decide +kernel⟩
theorem ff10_33 : FF RX10 33 9 3 (.object "GuessBench$Squares") := ⟨RX10, TX10, 19, tyX10, rfl, by decide, wl_10, inB wd_318 rfl, tyX10_ok, nmX10, rfl, rfl, by decide +kernel⟩
theorem ff10_37 : FF RX10 37 9 4 (.object "GuessBench$Squares") := ⟨RX10, TX10, 19, tyX10, rfl, by decide, wl_10, inB wd_319 rfl, tyX10_ok, nmX10, rfl, rfl, by decide +kernel⟩
theorem ff10_40 : FF RX10 40 9 5 (.array .long) := ⟨RX10, TX10, 19, tyX10, rfl, by decide, wl_10, inB wd_320 rfl, tyX10_ok, nmX10, rfl, rfl, by decide +kernel⟩
theorem ff10_44 : FF RX10 44 9 6 (.array .long) := ⟨RX10, TX10, 19, tyX10, rfl, by decide, wl_10, inB wd_321 rfl, tyX10_ok, nmX10, rfl, rfl, by decide +kernel⟩
theorem ff10_50 : FF RX10 50 9 7 (.object "GuessBench$LeastSizes") := ⟨RX10, TX10, 19, tyX10, rfl, by decide, wl_10, inB wd_322 rfl, tyX10_ok, nmX10, rfl, rfl, by decide +kernel⟩
theorem ff10_57 : FF RX10 57 9 8 (.object "GuessBench$LeastLevel") := ⟨RX10, TX10, 19, tyX10, rfl, by decide, wl_10, inB wd_323 rfl, tyX10_ok, nmX10, rfl, rfl, by decide +kernel⟩
theorem ff10_64 : FF RX10 64 9 9 (.object "GuessBench$Bars") := ⟨RX10, TX10, 19, tyX10, rfl, by decide, wl_10, inB wd_324 rfl, tyX10_ok, nmX10, rfl, rfl, by decide +kernel⟩
theorem ff10_71 : FF RX10 71 9 10 (.object "GuessBench$Ratios") := ⟨RX10, TX10, 19, tyX10, rfl, by decide, wl_10, inB wd_325 rfl, tyX10_ok, nmX10, rfl, rfl, by decide +kernel⟩
theorem ff10_78 : FF RX10 78 9 11 (.object "GuessBench$Best") := ⟨RX10, TX10, 19, tyX10, rfl, by decide, wl_10, inB wd_326 rfl, tyX10_ok, nmX10, rfl, rfl, by decide +kernel⟩
theorem ff10_82 : FF RX10 82 9 12 (.object "GuessBench$Best") := ⟨RX10, TX10, 19, tyX10, rfl, by decide, wl_10, inB wd_327 rfl, tyX10_ok, nmX10, rfl, rfl, by decide +kernel⟩
theorem ff11_15 : FF RX11 15 10 2 (.array (.array .int)) := ⟨RX11, TX11, 39, tyX11, rfl, by decide, wl_11, inB wd_749 rfl, tyX11_ok, nmX11, rfl, rfl, by decide +kernel⟩
theorem ff11_18 : FF RX11 18 10 3 (.array .int) := ⟨RX11, TX11, 39, tyX11, rfl, by decide, wl_11, inB wd_750 rfl, tyX11_ok, nmX11, rfl, rfl, by decide +kernel⟩
theorem ff11_22 : FF RX11 22 10 4 (.array .boolean) := ⟨RX11, TX11, 39, tyX11, rfl, by decide, wl_11, inB wd_751 rfl, tyX11_ok, nmX11, rfl, rfl, by decide +kernel⟩
theorem ff11_26 : FF RX11 26 10 5 (.array .boolean) := ⟨RX11, TX11, 39, tyX11, rfl, by decide, wl_11, inB wd_752 rfl, tyX11_ok, nmX11, rfl, rfl, by decide +kernel⟩
theorem ff11_31 : FF RX11 31 10 6 (.array (.array .long)) := ⟨RX11, TX11, 39, tyX11, rfl, by decide, wl_11, inB wd_753 rfl, tyX11_ok, nmX11, rfl, rfl, by decide +kernel⟩
theorem ff11_34 : FF RX11 34 10 7 (.array .long) := ⟨RX11, TX11, 39, tyX11, rfl, by decide, wl_11, inB wd_754 rfl, tyX11_ok, nmX11, rfl, rfl, by decide +kernel⟩
theorem ff11_38 : FF RX11 38 10 9 (.array .int) := ⟨RX11, TX11, 39, tyX11, rfl, by decide, wl_11, inB wd_756 rfl, tyX11_ok, nmX11, rfl, rfl, by decide +kernel⟩
theorem ff11_41 : FF RX11 41 10 11 (.array (.array .long)) := ⟨RX11, TX11, 39, tyX11, rfl, by decide, wl_11, inB wd_758 rfl, tyX11_ok, nmX11, rfl, rfl, by decide +kernel⟩
theorem ff11_44 : FF RX11 44 10 12 (.array .long) := ⟨RX11, TX11, 39, tyX11, rfl, by decide, wl_11, inB wd_759 rfl, tyX11_ok, nmX11, rfl, rfl, by decide +kernel⟩
theorem ff11_47 : FF RX11 47 10 13 (.array .long) := ⟨RX11, TX11, 39, tyX11, rfl, by decide, wl_11, inB wd_760 rfl, tyX11_ok, nmX11, rfl, rfl, by decide +kernel⟩
theorem ff11_50 : FF RX11 50 10 15 (.array .long) := ⟨RX11, TX11, 39, tyX11, rfl, by decide, wl_11, inB wd_762 rfl, tyX11_ok, nmX11, rfl, rfl, by decide +kernel⟩
theorem ff11_53 : FF RX11 53 10 18 (.array .long) := ⟨RX11, TX11, 39, tyX11, rfl, by decide, wl_11, inB wd_765 rfl, tyX11_ok, nmX11, rfl, rfl, by decide +kernel⟩
theorem ff11_56 : FF RX11 56 10 19 (.array .int) := ⟨RX11, TX11, 39, tyX11, rfl, by decide, wl_11, inB wd_766 rfl, tyX11_ok, nmX11, rfl, rfl, by decide +kernel⟩
theorem ff11_59 : FF RX11 59 10 20 (.array .int) := ⟨RX11, TX11, 39, tyX11, rfl, by decide, wl_11, inB wd_767 rfl, tyX11_ok, nmX11, rfl, rfl, by decide +kernel⟩
theorem ff11_62 : FF RX11 62 10 23 (.array .long) := ⟨RX11, TX11, 39, tyX11, rfl, by decide, wl_11, inB wd_770 rfl, tyX11_ok, nmX11, rfl, rfl, by decide +kernel⟩
theorem ff11_65 : FF RX11 65 10 25 (.array .int) := ⟨RX11, TX11, 39, tyX11, rfl, by decide, wl_11, inB wd_772 rfl, tyX11_ok, nmX11, rfl, rfl, by decide +kernel⟩
theorem ff11_68 : FF RX11 68 10 26 (.array .int) := ⟨RX11, TX11, 39, tyX11, rfl, by decide, wl_11, inB wd_773 rfl, tyX11_ok, nmX11, rfl, rfl, by decide +kernel⟩
theorem ff11_71 : FF RX11 71 10 28 (.array .long) := ⟨RX11, TX11, 39, tyX11, rfl, by decide, wl_11, inB wd_775 rfl, tyX11_ok, nmX11, rfl, rfl, by decide +kernel⟩
theorem ff11_74 : FF RX11 74 10 29 (.array .long) := ⟨RX11, TX11, 39, tyX11, rfl, by decide, wl_11, inB wd_776 rfl, tyX11_ok, nmX11, rfl, rfl, by decide +kernel⟩
theorem ff11_77 : FF RX11 77 10 36 (.array .long) := ⟨RX11, TX11, 39, tyX11, rfl, by decide, wl_11, inB wd_783 rfl, tyX11_ok, nmX11, rfl, rfl, by decide +kernel⟩
theorem ff11_80 : FF RX11 80 10 37 (.array .long) := ⟨RX11, TX11, 39, tyX11, rfl, by decide, wl_11, inB wd_784 rfl, tyX11_ok, nmX11, rfl, rfl, by decide +kernel⟩
theorem ci_0 : CI yX0_init cX0_init 1 := ⟨wi_56, wi_245, wi_244, rfl, by decide +kernel⟩
theorem ci_1 : CI yX1_init cX1_init 1 := ⟨wi_58, wi_300, wi_299, rfl, by decide +kernel⟩
theorem ci_3 : CI yX3_init cX3_init 1 := ⟨wi_55, wi_227, wi_226, rfl, by decide +kernel⟩
theorem ci_4 : CI yX4_init cX4_init 1 := ⟨wi_54, wi_196, wi_195, rfl, by decide +kernel⟩
theorem ci_5 : CI yX5_init cX5_init 1 := ⟨wi_52, wi_149, wi_148, rfl, by decide +kernel⟩
theorem ci_6 : CI yX6_init cX6_init 1 := ⟨wi_51, wi_112, wi_111, rfl, by decide +kernel⟩
theorem ci_7 : CI yX7_init cX7_init 1 := ⟨wi_57, wi_281, wi_280, rfl, by decide +kernel⟩
theorem ci_8 : CI yX8_init cX8_init 1 := ⟨wi_53, wi_165, wi_164, rfl, by decide +kernel⟩
theorem ci_9 : CI yX9_init cX9_init 1 := ⟨wi_50, wi_76, wi_75, rfl, by decide +kernel⟩
theorem ci_10 : CI yX10_init cX10_init 1 := ⟨wi_49, wi_68, wi_67, rfl, by decide +kernel⟩
theorem ci_11 : CI yX11_init cX11_init 1 := ⟨wi_59, wi_741, wi_740, rfl, by decide +kernel⟩
