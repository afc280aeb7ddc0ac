/-! the law: the same rules, with the cells made so far and the law's end free -/
def RlW (l : Launch) (R : Room) (D : va_G) (tys : gTy) (cc : ByteArray) (own : String) (nL : Nat) (sb sL : Nat) (sx : Nat → Int32) (as : List Nat) (G : GS) : Prop :=
  ∃ (p : Program) (e : Env) (s : State) (m : MethodId) (args : Array Value) (below : List Frame) (meth : Method) (c : Code) (A : Nat → Prop) (k0 n0 : Nat) (Z0 : State → Prop),
    G = (fun pc lv st ws => ws.map Prod.fst = as → ∀ (ls : Array Slot) (H : Heap) (locs : List Loc), lv_has ls nL lv → va_P D vwCl ws H → va_S A s.heap H locs → W p l e R s m args below meth c H locs k0 n0 Z0 (F0 m pc ls st)) ∧
    p.tables.exec = Jvm.exec ∧ c.code = cc ∧ c.maxLocals = nL ∧ s.vm.findClass own = some m.cls ∧ (∀ w ∈ lwB, w.before args s = true) ∧ va_K D vwCl tys s ∧ (∀ q, s.heap.size ≤ q → A q) ∧ AD A as ∧ (k0 ≤ R.cells ∧ n0 ≤ R.slots) ∧ va_X sb sL sx s s.heap ∧ sb < s.heap.size ∧ ¬ A sb ∧
    ∀ (ls : Array Slot) (H : Heap) (locs : List Loc), va_S A s.heap H locs → W p l e R s m args below meth c H locs k0 n0 Z0 (F0 m 849 ls [.int 1])
section QR
variable {l : Launch} {R : Room} {D : va_G} {tys : gTy} {cc : ByteArray} {own : String} {nL sb sL : Nat} {sx : Nat → Int32} {as : List Nat} {G : GS} {pc : Nat} {lv : List (Nat × Value)} {st : List Value} {ws : va_W}
theorem q_lv (hG : RlW l R D tys cc own nL sb sL sx as G) (ks : List Nat) {lv' : List (Nat × Value)} (h : lv_pick lv ks = lv') (k : G pc lv' st ws) : G pc lv st ws := by
  obtain ⟨p, e, s, m, args, below, meth, c, A, k0, n0, Z0, rfl, hx, hb, hml, hown, hts, hK, hA, hAD, hk0, hX, hbl, hbA, hend⟩ := hG
  intro has ls H locs hl hP hS
  exact k has ls H locs (lv_sub hl ks h) hP hS
theorem q_ws (_ : RlW l R D tys cc own nL sb sL sx as G) {ws' : va_W} (h : ws = ws') (k : G pc lv st ws') : G pc lv st ws := h ▸ k
theorem q_iconst (hG : RlW l R D tys cc own nL sb sL sx as G) {n : Int} (hd : decode cc pc = .ok (.iconst n, 1)) (k : G (pc + 1) lv (iV n :: st) ws) : G pc lv st ws := by
  obtain ⟨p, e, s, m, args, below, meth, c, A, k0, n0, Z0, rfl, hx, hb, hml, hown, hts, hK, hA, hAD, hk0, hX, hbl, hbA, hend⟩ := hG
  intro has ls H locs hl hP hS
  exact lv_iconst hx hb hd rfl (k has ls H locs hl hP hS)
theorem q_bipush (hG : RlW l R D tys cc own nL sb sL sx as G) {n : Int} (hd : decode cc pc = .ok (.bipush n, 2)) (hv : (Int8.ofInt n).toInt32 = iI n) (k : G (pc + 2) lv (iV n :: st) ws) : G pc lv st ws := by
  obtain ⟨p, e, s, m, args, below, meth, c, A, k0, n0, Z0, rfl, hx, hb, hml, hown, hts, hK, hA, hAD, hk0, hX, hbl, hbA, hend⟩ := hG
  intro has ls H locs hl hP hS
  exact lv_bipush hx hb hd hv (k has ls H locs hl hP hS)
theorem q_iload_n (hG : RlW l R D tys cc own nL sb sL sx as G) {f : Fin 4} {x : Int32} (k : Nat) (hk : lv[k]? = some ((f : Nat), .int x)) (hd : decode cc pc = .ok (.iload_n f, 1)) (kk : G (pc + 1) lv (.int x :: st) ws) : G pc lv st ws := by
  obtain ⟨p, e, s, m, args, below, meth, c, A, k0, n0, Z0, rfl, hx, hb, hml, hown, hts, hK, hA, hAD, hk0, hX, hbl, hbA, hend⟩ := hG
  intro has ls H locs hl hP hS
  exact lv_iload_n hx hb hd rfl (lv_at hl k hk) (kk has ls H locs hl hP hS)
theorem q_aload_n (hG : RlW l R D tys cc own nL sb sL sx as G) {f : Fin 4} {x : Nat} (k : Nat) (hk : lv[k]? = some ((f : Nat), .ref x)) (hd : decode cc pc = .ok (.aload_n f, 1)) (kk : G (pc + 1) lv (.ref x :: st) ws) : G pc lv st ws := by
  obtain ⟨p, e, s, m, args, below, meth, c, A, k0, n0, Z0, rfl, hx, hb, hml, hown, hts, hK, hA, hAD, hk0, hX, hbl, hbA, hend⟩ := hG
  intro has ls H locs hl hP hS
  exact lv_aload_n hx hb hd rfl (lv_at hl k hk) (kk has ls H locs hl hP hS)
theorem q_istore_n (hG : RlW l R D tys cc own nL sb sL sx as G) {f : Fin 4} {x : Int32} {lv' : List (Nat × Value)} (hn : (f : Nat) < nL) (hl' : ((f : Nat), Value.int x) :: lv.filter (fun q => !(q.1 == (f : Nat)) && !(q.1 + 1 == (f : Nat) && q.2.category == 2)) = lv') (hd : decode cc pc = .ok (.istore_n f, 1)) (kk : G (pc + 1) lv' st ws) : G pc lv (.int x :: st) ws := by
  obtain ⟨p, e, s, m, args, below, meth, c, A, k0, n0, Z0, rfl, hx, hb, hml, hown, hts, hK, hA, hAD, hk0, hX, hbl, hbA, hend⟩ := hG
  intro has ls H locs hl hP hS
  exact lv_istore_n hx hb hd rfl hl hn hl' (fun ls' hl' => kk has ls' H locs hl' hP hS)
theorem q_astore_n (hG : RlW l R D tys cc own nL sb sL sx as G) {f : Fin 4} {x : Nat} {lv' : List (Nat × Value)} (hn : (f : Nat) < nL) (hl' : ((f : Nat), Value.ref x) :: lv.filter (fun q => !(q.1 == (f : Nat)) && !(q.1 + 1 == (f : Nat) && q.2.category == 2)) = lv') (hd : decode cc pc = .ok (.astore_n f, 1)) (kk : G (pc + 1) lv' st ws) : G pc lv (.ref x :: st) ws := by
  obtain ⟨p, e, s, m, args, below, meth, c, A, k0, n0, Z0, rfl, hx, hb, hml, hown, hts, hK, hA, hAD, hk0, hX, hbl, hbA, hend⟩ := hG
  intro has ls H locs hl hP hS
  exact lv_astore_n hx hb hd rfl hl hn hl' (fun ls' hl' => kk has ls' H locs hl' hP hS)
theorem q_iinc (hG : RlW l R D tys cc own nL sb sL sx as G) {i : Nat} {n z : Int} {lv' : List (Nat × Value)} (k : Nat) (hk : lv[k]? = some (i, iV z)) (hn : i < nL) (hl' : (i, iV (z + n)) :: lv.filter (fun q => !(q.1 == i) && !(q.1 + 1 == i && q.2.category == 2)) = lv') (hd : decode cc pc = .ok (.iinc i n, 3)) (kk : G (pc + 3) lv' st ws) : G pc lv st ws := by
  obtain ⟨p, e, s, m, args, below, meth, c, A, k0, n0, Z0, rfl, hx, hb, hml, hown, hts, hK, hA, hAD, hk0, hX, hbl, hbA, hend⟩ := hG
  intro has ls H locs hl hP hS
  exact lv_iinc hx hb hd hl hk (v := iI (z + n)) (iI_add z n) hn hl' (fun ls' hl' => kk has ls' H locs hl' hP hS)
theorem q_iadd (hG : RlW l R D tys cc own nL sb sL sx as G) {a b : Int} (hd : decode cc pc = .ok (.iadd, 1)) (k : G (pc + 1) lv (iV (a + b) :: st) ws) : G pc lv (iV b :: iV a :: st) ws := by
  obtain ⟨p, e, s, m, args, below, meth, c, A, k0, n0, Z0, rfl, hx, hb, hml, hown, hts, hK, hA, hAD, hk0, hX, hbl, hbA, hend⟩ := hG
  intro has ls H locs hl hP hS
  exact lv_iadd hx hb hd (by rw [iI_add]; exact k has ls H locs hl hP hS)
theorem q_isub (hG : RlW l R D tys cc own nL sb sL sx as G) {a b : Int} (hd : decode cc pc = .ok (.isub, 1)) (k : G (pc + 1) lv (iV (a - b) :: st) ws) : G pc lv (iV b :: iV a :: st) ws := by
  obtain ⟨p, e, s, m, args, below, meth, c, A, k0, n0, Z0, rfl, hx, hb, hml, hown, hts, hK, hA, hAD, hk0, hX, hbl, hbA, hend⟩ := hG
  intro has ls H locs hl hP hS
  exact lv_isub hx hb hd (by rw [iI_sub]; exact k has ls H locs hl hP hS)
theorem q_iand (hG : RlW l R D tys cc own nL sb sL sx as G) {x y : Int32} {z : Int} (hz : x &&& y = iI z) (hd : decode cc pc = .ok (.iand, 1)) (k : G (pc + 1) lv (iV z :: st) ws) : G pc lv (.int y :: .int x :: st) ws := by
  obtain ⟨p, e, s, m, args, below, meth, c, A, k0, n0, Z0, rfl, hx, hb, hml, hown, hts, hK, hA, hAD, hk0, hX, hbl, hbA, hend⟩ := hG
  intro has ls H locs hl hP hS
  exact lv_iand hx hb hd (by rw [hz]; exact k has ls H locs hl hP hS)
theorem q_goto (hG : RlW l R D tys cc own nL sb sL sx as G) {off : Int} {tgt : Nat} (ht : (pc : Int) + off = (tgt : Int)) (hd : decode cc pc = .ok (.goto off, 3)) (k : G tgt lv st ws) : G pc lv st ws := by
  obtain ⟨p, e, s, m, args, below, meth, c, A, k0, n0, Z0, rfl, hx, hb, hml, hown, hts, hK, hA, hAD, hk0, hX, hbl, hbA, hend⟩ := hG
  intro has ls H locs hl hP hS
  exact lv_goto hx hb hd ht (k has ls H locs hl hP hS)
theorem q_if_eq (hG : RlW l R D tys cc own nL sb sL sx as G) {a off : Int} {tgt : Nat} (ha : InI a) (ht : (pc : Int) + off = (tgt : Int)) (hd : decode cc pc = .ok (.ifCond .eq off, 3)) (kt : a = 0 → G tgt lv st ws) (kf : ¬ a = 0 → G (pc + 3) lv st ws) : G pc lv (iV a :: st) ws := by
  obtain ⟨p, e, s, m, args, below, meth, c, A, k0, n0, Z0, rfl, hx, hb, hml, hown, hts, hK, hA, hAD, hk0, hX, hbl, hbA, hend⟩ := hG
  intro has ls H locs hl hP hS
  exact lv_if_eq hx hb hd ht (fun h => (kt ((iI_eq0 ha).mp h)) has ls H locs hl hP hS) (fun h => (kf (fun q => h ((iI_eq0 ha).mpr q))) has ls H locs hl hP hS)
theorem q_ifb_eq (hG : RlW l R D tys cc own nL sb sL sx as G) {b : Bool} {off : Int} {tgt : Nat} (ht : (pc : Int) + off = (tgt : Int)) (hd : decode cc pc = .ok (.ifCond .eq off, 3)) (kt : b = false → G tgt lv st ws) (kf : b = true → G (pc + 3) lv st ws) : G pc lv (bV b :: st) ws := by
  obtain ⟨p, e, s, m, args, below, meth, c, A, k0, n0, Z0, rfl, hx, hb, hml, hown, hts, hK, hA, hAD, hk0, hX, hbl, hbA, hend⟩ := hG
  intro has ls H locs hl hP hS
  exact lv_if_eq hx hb hd ht (fun h => kt ((bI_eq0 b).mp h) has ls H locs hl hP hS) (fun h => kf (by cases b with | false => exact absurd rfl h | true => rfl) has ls H locs hl hP hS)
theorem q_icmp_eq (hG : RlW l R D tys cc own nL sb sL sx as G) {a b off : Int} {tgt : Nat} (ha : InI a) (hb' : InI b) (ht : (pc : Int) + off = (tgt : Int)) (hd : decode cc pc = .ok (.if_icmp .eq off, 3)) (kt : a = b → G tgt lv st ws) (kf : ¬ a = b → G (pc + 3) lv st ws) : G pc lv (iV b :: iV a :: st) ws := by
  obtain ⟨p, e, s, m, args, below, meth, c, A, k0, n0, Z0, rfl, hx, hb, hml, hown, hts, hK, hA, hAD, hk0, hX, hbl, hbA, hend⟩ := hG
  intro has ls H locs hl hP hS
  exact lv_icmp_eq hx hb hd ht (fun h => kt ((iI_eq ha hb').mp h) has ls H locs hl hP hS) (fun h => kf (fun q => h ((iI_eq ha hb').mpr q)) has ls H locs hl hP hS)
theorem q_icmp_gt (hG : RlW l R D tys cc own nL sb sL sx as G) {a b off : Int} {tgt : Nat} (ha : InI a) (hb' : InI b) (ht : (pc : Int) + off = (tgt : Int)) (hd : decode cc pc = .ok (.if_icmp .gt off, 3)) (kt : b < a → G tgt lv st ws) (kf : ¬ b < a → G (pc + 3) lv st ws) : G pc lv (iV b :: iV a :: st) ws := by
  obtain ⟨p, e, s, m, args, below, meth, c, A, k0, n0, Z0, rfl, hx, hb, hml, hown, hts, hK, hA, hAD, hk0, hX, hbl, hbA, hend⟩ := hG
  intro has ls H locs hl hP hS
  exact lv_icmp_gt hx hb hd ht (fun h => kt ((iI_lt hb' ha).mp h) has ls H locs hl hP hS) (fun h => kf (fun q => h ((iI_lt hb' ha).mpr q)) has ls H locs hl hP hS)
theorem q_icmpb_eq (hG : RlW l R D tys cc own nL sb sL sx as G) {a b : Bool} {off : Int} {tgt : Nat} (ht : (pc : Int) + off = (tgt : Int)) (hd : decode cc pc = .ok (.if_icmp .eq off, 3)) (kt : a = b → G tgt lv st ws) (kf : ¬ a = b → G (pc + 3) lv st ws) : G pc lv (bV b :: bV a :: st) ws := by
  obtain ⟨p, e, s, m, args, below, meth, c, A, k0, n0, Z0, rfl, hx, hb, hml, hown, hts, hK, hA, hAD, hk0, hX, hbl, hbA, hend⟩ := hG
  intro has ls H locs hl hP hS
  exact lv_icmp_eq hx hb hd ht (fun h => kt ((bI_eq a b).mp h) has ls H locs hl hP hS) (fun h => kf (fun q => h ((bI_eq a b).mpr q)) has ls H locs hl hP hS)
theorem q_lc_eq (hG : RlW l R D tys cc own nL sb sL sx as G) {a b off : Int} {tgt : Nat} (ha : InL a) (hb' : InL b) (ht : ((pc + 1 : Nat) : Int) + off = (tgt : Int)) (hd : decode cc pc = .ok (.lcmp, 1)) (hd2 : decode cc (pc + 1) = .ok (.ifCond .eq off, 3)) (kt : a = b → G tgt lv st ws) (kf : ¬ a = b → G (pc + 4) lv st ws) : G pc lv (lV b :: lV a :: st) ws := by
  obtain ⟨p, e, s, m, args, below, meth, c, A, k0, n0, Z0, rfl, hx, hb, hml, hown, hts, hK, hA, hAD, hk0, hX, hbl, hbA, hend⟩ := hG
  intro has ls H locs hl hP hS
  exact W.lcmp hx hb hd (lv_if_eq hx hb hd2 ht (fun h => kt ((lI_eq ha hb').mp (lgc_eq.mp h)) has ls H locs hl hP hS) (fun h => kf (fun q => h (lgc_eq.mpr ((lI_eq ha hb').mpr q))) has ls H locs hl hP hS))
theorem q_nmI (_ : RlW l R D tys cc own nL sb sL sx as G) {a : Int} (k : ∀ x, x = a → G pc lv (iV x :: st) ws) : G pc lv (iV a :: st) ws := k a rfl
theorem q_eqI (_ : RlW l R D tys cc own nL sb sL sx as G) {a b : Int} (h : a = b) (k : G pc lv (iV b :: st) ws) : G pc lv (iV a :: st) ws := h ▸ k
theorem q_val (_ : RlW l R D tys cc own nL sb sL sx as G) {v w : Value} (h : v = w) (k : G pc lv (w :: st) ws) : G pc lv (v :: st) ws := h ▸ k
theorem q_callV (hG : RlW l R D tys cc own nL sb sL sx as G) {y : MethodName} {bytes : ByteArray} {maxL n index b ci N : Nat} {rt : Option FieldType} {rm : Room} {w0 : va_W} {Post' : PS} {C : String} {T : u_T} {fs : List Value} {fr : va_W → va_W} {As rest : List Value}
    (hC : Ct l D tys y bytes maxL rt rm (.ref b :: As) w0 Post') (hsp : Sp ws w0 fr) (hT : CV own index C y bytes maxL rt n) (hrm : rm.cells = 0 ∧ rm.slots = 0) (hR : rm.frames + 1 ≤ R.frames ∧ 8 + (maxL + 11) + rm.locals ≤ R.locals)
    (qr : Nat) (he : ws[qr]? = some (b, .inr (ci, fs))) (hc : vwCl[ci]? = some (C, T, N)) (hn : As.length = n) (hst : st = As.reverse ++ .ref b :: rest) (hrest : (rest.map fun v => v.category).sum ≤ 8) (hdg : decode cc pc = .ok (.invokevirtual index, 3))
    (kk : ∀ v w1, Post' v w1 → G (pc + 3) lv (v.toList ++ rest) (fr w1)) : G pc lv st ws := by
  obtain ⟨p, e, s, m, args, below, meth, c, A, k0, n0, Z0, rfl, hx, hb, hml, hown, hts, hK, hA, hAD, hk0, hX, hbl, hbA, hend⟩ := hG
  intro has ls H locs hl hP hS
  obtain ⟨hPc, hDc, hFc⟩ := sp_pre hsp has hAD hP hA hS
  subst hst
  refine w_callQ (va_runV (As := As) (rest := rest) ⟨hx, hb, hml, hown, hts⟩ (hC H.size) (cwV n hts hT.good rfl hrm.1 hrm.2 ⟨hT.2.1, hT.1.2.2.2⟩ hR) ⟨blind_Ct, va_recv hK hP hc he, fun U hU hW => ⟨rfl, by rw [hU], by rw [hU]; exact hPc, va_K.moved hW.alike hK, hDc⟩⟩ rfl hn hl.1 rfl (lv_room hrest) hdg hk0) hS (fun q _ h => hFc q h) hFc (fun v w1 H1 locs1 hp h1 hP1 hz hk hS1 => ?_)
  obtain ⟨e1, e2⟩ := sp_split hsp has hAD hP h1 hP1 hk
  exact kk v w1 hp e1 ls H1 locs1 hl e2 hS1
theorem q_tableOut (hG : RlW l R D tys cc own nL sb sL sx as G) {a dflt lo hi : Int} {offs : Array Int} {len tgt : Nat} (ha : InI a) (h : a < lo ∨ hi < a) (ht : (pc : Int) + dflt = (tgt : Int)) (hd : decode cc pc = .ok (.tableswitch dflt lo hi offs, len)) (k : G tgt lv st ws) : G pc lv (iV a :: st) ws := by
  obtain ⟨p, e, s, m, args, below, meth, c, A, k0, n0, Z0, rfl, hx, hb, hml, hown, hts, hK, hA, hAD, hk0, hX, hbl, hbA, hend⟩ := hG
  intro has ls H locs hl hP hS
  exact lv_tableOut hx hb hd (by rw [iI_toInt ha]; exact h) ht (k has ls H locs hl hP hS)
theorem q_tableIn (hG : RlW l R D tys cc own nL sb sL sx as G) {a dflt lo hi off : Int} {offs : Array Int} {len tgt : Nat} (ha : InI a) (h1 : lo ≤ a) (h2 : a ≤ hi) (ho : offs[(a - lo).toNat]? = some off) (ht : (pc : Int) + off = (tgt : Int)) (hd : decode cc pc = .ok (.tableswitch dflt lo hi offs, len)) (k : G tgt lv st ws) : G pc lv (iV a :: st) ws := by
  obtain ⟨p, e, s, m, args, below, meth, c, A, k0, n0, Z0, rfl, hx, hb, hml, hown, hts, hK, hA, hAD, hk0, hX, hbl, hbA, hend⟩ := hG
  intro has ls H locs hl hP hS
  exact lv_tableIn hx hb hd (by rw [iI_toInt ha]; omega) (by rw [iI_toInt ha]; omega) (by rw [iI_toInt ha]; exact ho) ht (k has ls H locs hl hP hS)
theorem q_sld (hG : RlW l R D tys cc own nL sb sL sx as G) {z : Int} (i : Nat) (hz : z = ((i : Nat) : Int)) (hi : i < sL) (hL : sL < 2147483648) (hd : decode cc pc = .ok (.iaload, 1)) (k : G (pc + 1) lv (iV (sx i).toInt :: st) ws) : G pc lv (iV z :: .ref sb :: st) ws := by
  obtain ⟨p, e, s, m, args, below, meth, c, A, k0, n0, Z0, rfl, hx, hb, hml, hown, hts, hK, hA, hAD, hk0, hX, hbl, hbA, hend⟩ := hG
  intro has ls H locs hl hP hS
  have e2 : iV (sx i).toInt = Value.int (sx i) := congrArg Value.int (Int32.ofInt_toInt _)
  exact va_sld hx hb hX hbl hbA hS (iI_vin hz hi hL) hd (by rw [iI_clamp hz (by omega)]; have := k has ls H locs hl hP hS; rw [e2] at this; exact this)
theorem q_slen (hG : RlW l R D tys cc own nL sb sL sx as G) (hL : sL < 2147483648) (hd : decode cc pc = .ok (.arraylength, 1)) (k : G (pc + 1) lv (iV ((sL : Nat) : Int) :: st) ws) : G pc lv (.ref sb :: st) ws := by
  obtain ⟨p, e, s, m, args, below, meth, c, A, k0, n0, Z0, rfl, hx, hb, hml, hown, hts, hK, hA, hAD, hk0, hX, hbl, hbA, hend⟩ := hG
  intro has ls H locs hl hP hS
  exact va_slen hx hb hX hbl hbA hS hd (k has ls H locs hl hP hS)
theorem q_lcS (hG : RlW l R D tys cc own nL sb sL sx as G) {a b off : Int} {tgt : Nat} (hab : a = b) (ht : ((pc + 1 : Nat) : Int) + off = (tgt : Int)) (hd : decode cc pc = .ok (.lcmp, 1)) (hd2 : decode cc (pc + 1) = .ok (.ifCond .eq off, 3)) (kt : G tgt lv st ws) : G pc lv (lV b :: lV a :: st) ws := by
  obtain ⟨p, e, s, m, args, below, meth, c, A, k0, n0, Z0, rfl, hx, hb, hml, hown, hts, hK, hA, hAD, hk0, hX, hbl, hbA, hend⟩ := hG
  intro has ls H locs hl hP hS
  subst hab
  exact W.lcmp hx hb hd (lv_if_eq hx hb hd2 ht (fun h => kt has ls H locs hl hP hS) (fun h => absurd (lgc_eq.mpr rfl) h))
theorem q_icS (hG : RlW l R D tys cc own nL sb sL sx as G) {a b off : Int} {tgt : Nat} (hab : a = b) (ht : (pc : Int) + off = (tgt : Int)) (hd : decode cc pc = .ok (.if_icmp .eq off, 3)) (kt : G tgt lv st ws) : G pc lv (iV b :: iV a :: st) ws := by
  obtain ⟨p, e, s, m, args, below, meth, c, A, k0, n0, Z0, rfl, hx, hb, hml, hown, hts, hK, hA, hAD, hk0, hX, hbl, hbA, hend⟩ := hG
  intro has ls H locs hl hP hS
  subst hab
  exact lv_icmp_eq hx hb hd ht (fun h => kt has ls H locs hl hP hS) (fun h => absurd rfl h)
theorem q_icbS (hG : RlW l R D tys cc own nL sb sL sx as G) {a b : Bool} {off : Int} {tgt : Nat} (hab : a = b) (ht : (pc : Int) + off = (tgt : Int)) (hd : decode cc pc = .ok (.if_icmp .eq off, 3)) (kt : G tgt lv st ws) : G pc lv (bV b :: bV a :: st) ws := by
  obtain ⟨p, e, s, m, args, below, meth, c, A, k0, n0, Z0, rfl, hx, hb, hml, hown, hts, hK, hA, hAD, hk0, hX, hbl, hbA, hend⟩ := hG
  intro has ls H locs hl hP hS
  subst hab
  exact lv_icmp_eq hx hb hd ht (fun h => kt has ls H locs hl hP hS) (fun h => absurd rfl h)
theorem q_end (hG : RlW l R D tys cc own nL sb sL sx as G) : G 849 lv [iV 1] ws := by
  obtain ⟨p, e, s, m, args, below, meth, c, A, k0, n0, Z0, rfl, hx, hb, hml, hown, hts, hK, hA, hAD, hk0, hX, hbl, hbA, hend⟩ := hG
  intro has ls H locs hl hP hS
  exact hend ls H locs hS
end QR
