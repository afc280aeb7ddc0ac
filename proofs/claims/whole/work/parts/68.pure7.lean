/-! pure: ranks, few rows, few columns, choices of rows -/
section RK
variable {X : Nat → Int} {x : Nat → Nat → Int} {Y : Nat → Int} {K : Nat → Bool} {m n : Nat}
theorem gq {g : M3} (h : SyM g) : rk0 (Pf g) = if q3 g ≠ 0 then 3 else if q2 g ≠ 0 then 2 else if q1 g ≠ 0 then 1 else 0 := by unfold rk0; rw [e1_q, e2_q h, e3_q h]
theorem zcol {g : M3} (hs : SyM g) (hz : ∀ i j, i < 3 → j < 3 → (m ≤ i ∨ m ≤ j) → g i j = 0) : (m ≤ 2 → q3 g = 0 ∧ q2 g = p2 g) ∧ (m ≤ 1 → q2 g = 0 ∧ q1 g = g 0 0) := by
  refine ⟨fun h => ?_, fun h => ?_⟩
  · have a := hz 2 2 (by omega) (by omega) (by omega); have b := hz 0 2 (by omega) (by omega) (by omega); have c := hz 1 2 (by omega) (by omega) (by omega)
    unfold q3 q2 p0 p1 a01 a02; rw [a, b, c]; simp
  · have a := hz 2 2 (by omega) (by omega) (by omega); have b := hz 0 2 (by omega) (by omega) (by omega); have c := hz 1 2 (by omega) (by omega) (by omega)
    have d := hz 1 1 (by omega) (by omega) (by omega); have e := hz 0 1 (by omega) (by omega) (by omega)
    unfold q2 q1 p0 p1 p2; rw [a, b, c, d, e]; simp
theorem det2_p {g : M3} (h : SyM g) : detM g 2 = p2 g := by
  have s1 := h 1 0
  simp [detM]; unfold p2; rw [s1]
theorem whole_iff (h : TabR X x Y m n) : rk0 (PG X K n) = m ↔ detM (gmA x K n) m ≠ 0 := by
  have gs := (gram (x := x) (K := K) (n := n)).1
  have z := zcol gs (h.gz (K := K))
  rw [rk0_congr (h.g (K := K)), gq gs]
  generalize gmA x K n = g at *
  have hm := h.1
  match m, hm with
  | 1, _ =>
    have z1 := z.1 (by omega); have z2 := z.2 (by omega)
    rw [if_neg (by omega), if_neg (by omega), z2.2]
    show _ ↔ g 0 0 ≠ 0
    by_cases e : g 0 0 = 0
    · rw [if_neg (by omega)]; simp [e]
    · rw [if_pos e]; simp [e]
  | 2, _ =>
    have z1 := z.1 (by omega)
    rw [if_neg (by omega), z1.2, det2_p gs]
    by_cases e : p2 g = 0
    · rw [if_neg (by omega)]; split <;> simp [e]
    · rw [if_pos e]; simp [e]
  | 3, _ =>
    rw [det3_q gs]
    by_cases e : q3 g = 0
    · rw [if_neg (by omega)]; (repeat' split) <;> simp [e]
    · rw [if_pos e]; simp [e]
theorem rank_eq (h : TabR X x Y m n) {r : Nat} {on tw : Int} {nr : Nat → Int} (hr : RkR (gmA x K n) m r on tw nr) : r = rk0 (PG X K n) := by
  have gg := gram (x := x) (K := K) (n := n)
  have w := whole_iff (K := K) h
  have hm := h.1.2
  rcases hr with ⟨h1, h2⟩ | ⟨h1, h2, h3, ⟨i, h4, -, -, h5⟩, h6⟩ | ⟨h1, h2, h3⟩
  · rw [h2]; exact (w.mpr h1).symm
  · rw [rk0_congr (h.g (K := K)), gq gg.1]
    have q30 : q3 (gmA x K n) = 0 := by rw [← det3_q gg.1, ← h2]; exact h1
    have q20 : q2 (gmA x K n) ≠ 0 := fun q => by
      obtain ⟨⟨k0, k1, k2⟩, k3, k4, k5⟩ := gg.zq2 q30 q
      obtain ⟨⟨f, hf, hfn⟩, -⟩ := h5
      have f0 := hfn 0 (by omega); have f1 := hfn 1 (by omega); have f2 := hfn 2 (by omega)
      have z : ∀ y, 0 = f * y → y = 0 := fun y hy => by rcases Int.mul_eq_zero.mp hy.symm with q | q; omega; exact q
      apply h6
      match i, h4 with
      | 0, _ =>
        have c := cx0 gg.1
        have f0' : crX (gmA x K n) 1 2 0 = f * nr 0 := f0
        have f1' : crX (gmA x K n) 1 2 1 = f * nr 1 := f1
        have f2' : crX (gmA x K n) 1 2 2 = f * nr 2 := f2
        rw [c.1, k0] at f0'; rw [c.2.1, k3] at f1'; rw [c.2.2, k4] at f2'
        exact ⟨z _ f0', z _ f1', z _ f2'⟩
      | 1, _ =>
        have c := cx1 gg.1
        have f0' : crX (gmA x K n) 0 2 0 = f * nr 0 := f0
        have f1' : crX (gmA x K n) 0 2 1 = f * nr 1 := f1
        have f2' : crX (gmA x K n) 0 2 2 = f * nr 2 := f2
        rw [c.1, k3] at f0'; rw [c.2.1, k1] at f1'; rw [c.2.2, k5] at f2'
        exact ⟨z _ (by omega), z _ (by omega), z _ (by omega)⟩
      | 2, _ =>
        have c := cx2 gg.1
        have f0' : crX (gmA x K n) 0 1 0 = f * nr 0 := f0
        have f1' : crX (gmA x K n) 0 1 1 = f * nr 1 := f1
        have f2' : crX (gmA x K n) 0 1 2 = f * nr 2 := f2
        rw [c.1, k4] at f0'; rw [c.2.1, k5] at f1'; rw [c.2.2, k2] at f2'
        exact ⟨z _ f0', z _ f1', z _ f2'⟩
    rw [if_neg (by omega), if_pos q20]; exact h3
  · obtain ⟨g1, g2⟩ := padM_gr gg hm (h.gz (K := K))
    have mz := minors_zero (k := m) g1.1 hm (padM_pd m _) (by rw [← detM_congr hm (fun a b _ _ => (g2 a b (by omega) (by omega)).symm)]; exact h1) (fun e i hi c hc => by rw [crX_congr g2 (r1_lt i) (r2_lt i)]; exact h2 e i hi c hc)
    have tr : ∀ i j, i < 3 → j < 3 → padM m (gmA x K n) i j = gmA x K n i j := g2
    have e2 : q2 (gmA x K n) = 0 := by
      obtain ⟨a, b, c, -⟩ := mz
      unfold p0 at a; unfold p1 at b; unfold p2 at c
      rw [tr 1 1 (by omega) (by omega), tr 2 2 (by omega) (by omega), tr 1 2 (by omega) (by omega)] at a
      rw [tr 0 0 (by omega) (by omega), tr 2 2 (by omega) (by omega), tr 0 2 (by omega) (by omega)] at b
      rw [tr 0 0 (by omega) (by omega), tr 1 1 (by omega) (by omega), tr 0 1 (by omega) (by omega)] at c
      unfold q2 p0 p1 p2; omega
    have e3 : q3 (gmA x K n) = 0 := by
      obtain ⟨a, -, -, b, c, -⟩ := mz
      unfold p0 at a; unfold a01 at b; unfold a02 at c
      rw [tr 1 1 (by omega) (by omega), tr 2 2 (by omega) (by omega), tr 1 2 (by omega) (by omega)] at a
      rw [tr 0 2 (by omega) (by omega), tr 1 2 (by omega) (by omega), tr 0 1 (by omega) (by omega), tr 2 2 (by omega) (by omega)] at b
      rw [tr 0 1 (by omega) (by omega), tr 1 2 (by omega) (by omega), tr 0 2 (by omega) (by omega), tr 1 1 (by omega) (by omega)] at c
      unfold q3 p0 a01 a02; rw [a, b, c]; simp
    rw [rk0_congr (h.g (K := K)), gq gg.1, if_neg (by omega), if_neg (by omega)]
    rcases h3 with ⟨rfl, a, b, ha, hb, h4⟩ | ⟨rfl, h4⟩
    · rw [if_pos (fun q => h4 (gg.zq1 q a b (by omega) (by omega)))]
    · have : q1 (gmA x K n) = 0 := by
        have zz : ∀ i, i < 3 → gmA x K n i i = 0 := fun i hi => by
          by_cases q : i < m
          · exact h4 i i q q
          · exact h.gz i i hi hi (by omega)
        unfold q1; rw [zz 0 (by omega), zz 1 (by omega), zz 2 (by omega)]; rfl
      rw [if_neg (by omega)]
/-- the form of few rows -/
theorem gm_rows (n : Nat) : (cntK K n = 0 → ∀ i j, gm2 x K i j n = 0) ∧ (cntK K n = 1 → ∃ v : Nat → Int, ∀ i j, gm2 x K i j n = v i * v j) ∧ (cntK K n = 2 → ∃ v w : Nat → Int, ∀ i j, gm2 x K i j n = v i * v j + w i * w j) := by
  induction n with
  | zero => exact ⟨fun _ _ _ => rfl, fun h => by simp [cntK] at h, fun h => by simp [cntK] at h⟩
  | succ n ih =>
    obtain ⟨a, b, c⟩ := ih
    by_cases e : K n = true
    · rw [cnt_t e]
      refine ⟨fun h => by omega, fun h => ⟨x n, fun i j => ?_⟩, fun h => ?_⟩
      · rw [gm2_t e, a (by omega) i j]; omega
      · obtain ⟨v, hv⟩ := b (by omega)
        exact ⟨v, x n, fun i j => by rw [gm2_t e, hv i j]⟩
    · have e' : K n = false := by simpa using e
      rw [cnt_f e']
      refine ⟨fun h i j => by rw [gm2_f e']; exact a h i j, fun h => ?_, fun h => ?_⟩
      · obtain ⟨v, hv⟩ := b h; exact ⟨v, fun i j => by rw [gm2_f e']; exact hv i j⟩
      · obtain ⟨v, w, hv⟩ := c h; exact ⟨v, w, fun i j => by rw [gm2_f e']; exact hv i j⟩
theorem det_rows (hm : 1 ≤ m ∧ m ≤ 3) (hd : detM (gmA x K n) m ≠ 0) : m ≤ cntK K n := by
  rcases Nat.lt_or_ge (cntK K n) m with h | h
  · exfalso
    obtain ⟨a, b, c⟩ := gm_rows (x := x) (K := K) n
    apply hd
    rcases (show cntK K n = 0 ∨ cntK K n = 1 ∨ cntK K n = 2 by omega) with q | q | q
    · have z : ∀ i j, gmA x K n i j = 0 := a q
      match m, hm with
      | 1, _ => simp [detM, z]
      | 2, _ => simp [detM, z]
      | 3, _ => simp [detM, z]
    · obtain ⟨v, hv⟩ := b q
      have z : ∀ i j, gmA x K n i j = v i * v j := hv
      match m, hm with
      | 1, _ => omega
      | 2, _ => simp [detM, z]; grind
      | 3, _ => simp [detM, minM, z]; grind
    · obtain ⟨v, w, hv⟩ := c q
      have z : ∀ i j, gmA x K n i j = v i * v j + w i * w j := hv
      match m, hm with
      | 1, _ => omega
      | 2, _ => omega
      | 3, _ =>
        simp [detM, minM, z, show r1 0 = 1 from rfl, show r2 0 = 2 from rfl, show r1 1 = 0 from rfl, show r2 1 = 2 from rfl, show r1 2 = 0 from rfl, show r2 2 = 1 from rfl]
        generalize v 0 = a; generalize v 1 = b; generalize v 2 = c; generalize w 0 = d; generalize w 1 = e; generalize w 2 = f
        grind
  · exact h
/-! masked tables -/
def mkX (st : Nat) (X : Nat → Int) : Nat → Int := fun k => if st.testBit (k % 3) = true then X k else 0
def mkx (st : Nat) (x : Nat → Nat → Int) : Nat → Nat → Int := fun r c => if st.testBit c = true then x r c else 0
theorem TabR.mask (h : TabR X x Y m n) (st : Nat) : TabR (mkX st X) (mkx st x) Y m n := by
  refine ⟨h.1, h.2.1, fun r hr => ⟨fun c hc => ?_, (h.2.2.1 r hr).2⟩, fun r hr c h1 h2 => ?_⟩
  · have := (h.2.2.1 r hr).1 c hc
    unfold mkx mkX
    rw [show (r * 3 + c) % 3 = c by omega]
    split
    · exact this
    · exact ⟨rfl, by omega⟩
  · unfold mkx; rw [h.2.2.2 r hr c h1 h2]; split <;> rfl
theorem gm_mask {st i j : Nat} : ∀ n, gm2 (mkx st x) K i j n = mkG st (gmA x K n) i j
  | 0 => by unfold mkG gmA; simp [gm2]
  | n + 1 => by
    have ih := gm_mask (st := st) (i := i) (j := j) n
    show gm2 (mkx st x) K i j n + _ = _
    rw [ih]
    unfold mkG gmA mkx
    show _ = if _ then gm2 x K i j n + _ else 0
    by_cases e : st.testBit i = true ∧ st.testBit j = true
    · rw [if_pos e, if_pos e, if_pos e.1, if_pos e.2]
    · rw [if_neg e, if_neg e]
      split
      · rcases (show ¬ st.testBit i = true ∨ ¬ st.testBit j = true by by_cases q : st.testBit i = true; exact Or.inr (fun r => e ⟨q, r⟩); exact Or.inl q) with q | q
        · rw [if_neg q]; simp
        · rw [if_neg q]; simp
      · rfl
theorem rh_mask {st i : Nat} : ∀ n, rh2 (mkx st x) Y K i n = mkV st (rhA x Y K n) i
  | 0 => by unfold mkV rhA; simp [rh2]
  | n + 1 => by
    have ih := rh_mask (st := st) (i := i) n
    show rh2 (mkx st x) Y K i n + _ = _
    rw [ih]
    unfold mkV rhA mkx
    show _ = if _ then rh2 x Y K i n + _ else 0
    by_cases e : st.testBit i = true
    · rw [if_pos e, if_pos e, if_pos e]
    · rw [if_neg e, if_neg e, if_neg e]; split <;> simp
/-- few: the class's own bounds -/
theorem TabR.fwc (h : TabR X x Y m n) {st : Nat} (hs : st < 8) : (0 ≤ fwS (PG X K n) (RG X Y K n) (yyF Y K n) st ∧ fwS (PG X K n) (RG X Y K n) (yyF Y K n) st ≤ 9223372036854775807) ∧ (0 < fwB (PG X K n) st ∧ fwB (PG X K n) st ≤ 9223372036854775807) := by
  have hk := h.mask st
  have s := hk.sm (K := K)
  have eP : ∀ k, k < 9 → cpP (PG X K n) st k = PG (mkX st X) K n k := fun k hk9 => by
    rw [hk.g k hk9]; show _ = gm2 (mkx st x) K (k / 3) (k % 3) n
    rw [gm_mask]; unfold cpP mkG; rw [h.g k hk9]; rfl
  have eR : ∀ i, i < 3 → cpR (RG X Y K n) st i = RG (mkX st X) Y K n i := fun i hi => by
    rw [hk.h i hi]; show _ = rh2 (mkx st x) Y K i n
    rw [rh_mask]; unfold cpR mkV; rw [h.h i hi]
  have eB : fwB (PG X K n) st = boG (mkX st X) K n := by unfold fwB boG; rw [rk0_congr eP, symF_congr eP]
  have eS : fwS (PG X K n) (RG X Y K n) (yyF Y K n) st = smG (mkX st X) Y K n := by
    unfold fwS smG; rw [eB, pr3_congr eR (fun i hi => slv_congr eP eR hi)]
  rw [eB, eS]; exact s
theorem pl_mk : ∀ st, st < 8 → ∀ (u : Nat → Int) (a b c : Int), Dt (mkV st u) (plF st 0 a b c) (plF st 1 a b c) (plF st 2 a b c) = Dt (cu st u) a b c := fun st hs u a b c => by
  rw [cu_d a b c st hs]
  unfold Dt mkV plF
  by_cases h0 : st.testBit 0 = true <;> by_cases h1 : st.testBit 1 = true <;> by_cases h2 : st.testBit 2 = true <;> simp [h0, h1, h2]
theorem TabR.fwh (h : TabR X x Y m n) : FwH x Y K m n (fwS (PG X K n) (RG X Y K n) (yyF Y K n)) (fwB (PG X K n)) := fun st hst => by
  have hm := h.1.2
  have h2 := pow2_le hm
  have hs : st < 8 := by omega
  have ec := cb_m hm hst
  have eP : ∀ k, k < 9 → cpP (PG X K n) st k = cpP (Pf (gmA x K n)) st k := cpP_congr h.g st
  have eR : ∀ i, i < 3 → cpR (RG X Y K n) st i = cpR (rhA x Y K n) st i := fun i hi => by unfold cpR; rw [h.h i hi]
  have eB : fwB (PG X K n) st = fwB (Pf (gmA x K n)) st := by unfold fwB; rw [rk0_congr eP, symF_congr eP]
  have eS : fwS (PG X K n) (RG X Y K n) (yyF Y K n) st = fwS (Pf (gmA x K n)) (rhA x Y K n) (yyF Y K n) st := by
    unfold fwS; rw [eB, pr3_congr eR (fun i hi => slv_congr eP eR hi)]
  refine ⟨(h.fwc hs).2.1, fun W den hf => ?_⟩
  rw [ec] at hf ⊢
  have gg := gram (x := x) (K := K) (n := n)
  obtain ⟨hd, sol, -, heq⟩ := few_eq (yy := yyF Y K n) gg (gram_h (Y := Y)) hs hf
  have c3 := cb_le st 3
  have hf2 : FitR (cg st (gmA x K n)) (cb st 3) (cu st (rhA x Y K n)) W den := hf.congr c3 (fun a b ha hb => by unfold cg padM; rw [if_pos ⟨ha, hb⟩]; rfl) (fun a ha => by unfold cu pad; rw [if_pos ha]; rfl)
  have db := den_b hf2 (fun _ => cg_gr gg hs) c3 (fun a b ha hb => by unfold cg padM; rw [if_pos ⟨ha, hb⟩]; exact gm2_bd h.mb (clF_lt hs (by omega)) (clF_lt hs (by omega))) (fun c hc => by unfold cu pad; rw [if_pos hc]; exact rh2_bd h.mb (clF_lt hs (by omega)))
  refine ⟨⟨hd, by omega⟩, ?_, by rw [eB, eS]; exact heq⟩
  generalize hQ : pad (cb st 3) W = Q at *
  have rows : ∀ i, i < 3 → Dt (gmA (mkx st x) K n i) (plF st 0 (Q 0) (Q 1) (Q 2)) (plF st 1 (Q 0) (Q 1) (Q 2)) (plF st 2 (Q 0) (Q 1) (Q 2)) = den * rhA (mkx st x) Y K n i := fun i hi => by
    have er : ∀ a b c, Dt (gmA (mkx st x) K n i) a b c = Dt (mkG st (gmA x K n) i) a b c := fun a b c => by
      unfold Dt; show gm2 (mkx st x) K i 0 n * a + gm2 (mkx st x) K i 1 n * b + gm2 (mkx st x) K i 2 n * c = _; rw [gm_mask, gm_mask, gm_mask]
    have eh : rhA (mkx st x) Y K n i = mkV st (rhA x Y K n) i := rh_mask n
    rw [er, eh]
    by_cases e : st.testBit i = true
    · rw [(cg_n (g := gmA x K n) (w := Q) (Q 0) (Q 1) (Q 2) st hs).2 i hi e]
      have hl := cb_lt hi e
      rw [sol.2.1 _ (by omega)]
      unfold cu pad mkV; rw [if_pos hl, if_pos e]; show den * rhA x Y K n (clF st (cb st i)) = _; rw [clF_at hs hi e]
    · have : ∀ j, mkG st (gmA x K n) i j = 0 := fun j => by unfold mkG; rw [if_neg (fun r => e r.1)]
      unfold Dt mkV; rw [this, this, this, if_neg e]; simp
  have l := left_nn (w := fun c => plF st c (Q 0) (Q 1) (Q 2)) hd rows
  have eD : Dt (rhA (mkx st x) Y K n) (plF st 0 (Q 0) (Q 1) (Q 2)) (plF st 1 (Q 0) (Q 1) (Q 2)) (plF st 2 (Q 0) (Q 1) (Q 2)) = Dt (cu st (rhA x Y K n)) (Q 0) (Q 1) (Q 2) := by
    rw [← pl_mk st hs]; unfold Dt
    show rh2 (mkx st x) Y K 0 n * _ + rh2 (mkx st x) Y K 1 n * _ + rh2 (mkx st x) Y K 2 n * _ = _
    rw [rh_mask, rh_mask, rh_mask]
  have l' : 0 ≤ yyF Y K n * den - Dt (cu st (rhA x Y K n)) (Q 0) (Q 1) (Q 2) ∧ 0 ≤ Dt (cu st (rhA x Y K n)) (Q 0) (Q 1) (Q 2) := by rw [← eD]; exact l
  have hmis : mis (yyF Y K n) den (rhC x Y K n st) W (cb st 3) = yyF Y K n * den - Dt (cu st (rhA x Y K n)) (Q 0) (Q 1) (Q 2) := by rw [← hQ]; exact mis_c (h := rhA x Y K n) (W := W) (yy := yyF Y K n) (d := den) st hs
  have hy := yy_bd (K := K) h.tb n (Nat.le_refl _)
  have hn := h.2.1
  have hml := mul_bd (a := yyF Y K n) (A := 235224) (b := den) (B := 32134205239296) (by omega) (by omega)
  rw [hmis]; unfold B63; omega
theorem TabR.hfh (h : TabR X x Y m n) : HfH x Y K m n (fun pl => smG X Y (kf (nthK K n) pl pl.length) n) (fun pl => boG X (kf (nthK K n) pl pl.length) n) := fun pl _ => by
  refine ⟨(h.sm (K := kf (nthK K n) pl pl.length)).2.1, fun W den hf => ?_⟩
  have a := h.ftb W den hf
  have b := eq_sum h hf
  exact ⟨⟨b.2.2, by have := a.1.2; omega⟩, h.ms63 hf, b.1⟩
end RK
theorem ofF_f (a : BsA) (t b x : Int) : (ofF a t b x).1 = false := by
  unfold ofF
  split
  · rfl
  · rename_i h
    cases e : a.1 with
    | false => rfl
    | true => exact absurd (Or.inl e) h
theorem itr_inv {α : Type} {z : Nat} {step : α → List Nat → α} (P : α → Prop) (hp : ∀ a p, P (step a p)) : ∀ n p a, P (itr z step (n + 1) p a)
  | 0, p, a => by
    show P (match adv z p with | none => step a p | some p' => itr z step 0 p' (step a p))
    cases adv z p with
    | none => exact hp a p
    | some p' => exact hp a p
  | n + 1, p, a => by
    show P (match adv z p with | none => step a p | some p' => itr z step (n + 1) p' (step a p))
    cases adv z p with
    | none => exact hp a p
    | some p' => exact itr_inv P hp n p' (step a p)
theorem hf_ne {K : Nat → Bool} {n k : Nat} {S B : List Nat → Int} {a : BsA} : (itr (cntK K n) (hfS K n S B) 10000 (List.range k) a).1 = false := itr_inv (fun a : BsA => a.1 = false) (fun a p => ofF_f _ _ _ _) 9999 _ _
theorem fw_ne {k j : Nat} {S B : Nat → Int} {a : BsA} (hj : bcN j = k) : ∀ N, j < N → (fwF k S B a N).1 = false
  | 0, h => absurd h (Nat.not_lt_zero _)
  | N + 1, h => by
    by_cases e : bcN N = k
    · rw [fwF_yes e]; exact ofF_f _ _ _ _
    · rw [fwF_no e]
      exact fw_ne hj N (by rcases Nat.lt_or_ge j N with q | q; exact q; exact absurd (by rw [← hj, show j = N by omega]) e)
theorem fw_ex {m k : Nat} (hm : m ≤ 3) (hk : k ≤ m) : ∃ j, j < 2 ^ m ∧ bcN j = k := by
  have : ∀ m : Fin 4, ∀ k : Fin 4, k.val ≤ m.val → (2 ^ k.val - 1 < 2 ^ m.val ∧ bcN (2 ^ k.val - 1) = k.val) := by decide +kernel
  exact ⟨_, this ⟨m, by omega⟩ ⟨k, by omega⟩ hk⟩
/-! every choice is gone through -/
def advN (z : Nat) : Nat → List Nat → Option (List Nat)
  | 0, p => some p
  | i + 1, p => match adv z p with
    | none => none
    | some p' => advN z i p'
theorem advN_add {z : Nat} : ∀ (i j : Nat) {p q r : List Nat}, advN z i p = some q → advN z j q = some r → advN z (i + j) p = some r
  | 0, j, p, q, r, h1, h2 => by have : p = q := Option.some.inj h1; subst this; rw [Nat.zero_add]; exact h2
  | i + 1, j, p, q, r, h1, h2 => by
    rw [show i + 1 + j = (i + j) + 1 by omega]
    have h1' : (match adv z p with | none => none | some p' => advN z i p') = some q := h1
    show (match adv z p with | none => none | some p' => advN z (i + j) p') = some r
    cases e : adv z p with
    | none => rw [e] at h1'; cases h1'
    | some p' => rw [e] at h1'; exact advN_add i j h1' h2
theorem advN_cons {z x : Nat} : ∀ (i : Nat) {p q : List Nat}, advN z i p = some q → advN z i (x :: p) = some (x :: q)
  | 0, p, q, h => by have : p = q := Option.some.inj h; subst this; rfl
  | i + 1, p, q, h => by
    have h' : (match adv z p with | none => none | some p' => advN z i p') = some q := h
    cases e : adv z p with
    | none => rw [e] at h'; cases h'
    | some p' =>
      rw [e] at h'
      have ea : adv z (x :: p) = some (x :: p') := by
        show (match adv z p with | some ys => some (x :: ys) | none => _) = _
        rw [e]
      show (match adv z (x :: p) with | none => none | some p' => advN z i p') = _
      rw [ea]; exact advN_cons i h'
theorem adv_max {z : Nat} : ∀ (k : Nat), k ≤ z → adv z (List.range' (z - k) k) = none := fun k hk => by
  apply adv_none
  intro i hi
  simp at hi
  simp [List.getD_eq_getElem?_getD, List.getElem?_range', hi]
  omega
theorem visit {z : Nat} : ∀ (k s : Nat) (ys : List Nat), ys.length = k → ys.Pairwise (· < ·) → (∀ y ∈ ys, s ≤ y ∧ y < z) → ∃ i, advN z i (List.range' s k) = some ys
  | 0, s, ys, hl, _, _ => by have : ys = [] := List.eq_nil_of_length_eq_zero hl; subst this; exact ⟨0, rfl⟩
  | k + 1, s, [], hl, _, _ => by simp at hl
  | k + 1, s, y :: ys, hl, hp, hb => by
    have hp' := List.pairwise_cons.mp hp
    have hl' : ys.length = k := by simp at hl; exact hl
    have hy := hb y (List.mem_cons_self ..)
    have hys : ∀ q ∈ ys, y + 1 ≤ q ∧ q < z := fun q hq => ⟨hp'.1 q hq, (hb q (List.mem_cons_of_mem _ hq)).2⟩
    have room : y + (k + 1) ≤ z := by
      have key : ∀ (k y : Nat) (ys : List Nat), ys.length = k → ys.Pairwise (· < ·) → (∀ q ∈ ys, y + 1 ≤ q ∧ q < z) → y < z → y + (k + 1) ≤ z := by
        intro k
        induction k with
        | zero => intro y ys _ _ _ h; omega
        | succ k ih =>
          intro y ys h1 h2 h3 h4
          match ys, h1 with
          | w :: ws, h1 =>
            have h2' := List.pairwise_cons.mp h2
            have h5 := h3 w (List.mem_cons_self ..)
            have := ih w ws (by simp at h1; exact h1) h2'.2 (fun q hq => ⟨h2'.1 q hq, (h3 q (List.mem_cons_of_mem _ hq)).2⟩) h5.2
            omega
      exact key k y ys hl' hp'.2 hys hy.2
    have at_y : ∃ i, advN z i (List.range' y (k + 1)) = some (y :: ys) := by
      obtain ⟨i, hi⟩ := visit k (y + 1) ys hl' hp'.2 hys
      exact ⟨i, by rw [List.range'_succ]; exact advN_cons i hi⟩
    have go : ∀ d s, s + d = y → ∃ i, advN z i (List.range' s (k + 1)) = some (y :: ys) := by
      intro d
      induction d with
      | zero => intro s hs; rw [show s = y by omega]; exact at_y
      | succ d ih =>
        intro s hs
        obtain ⟨j, hj⟩ := ih (s + 1) (by omega)
        obtain ⟨i, hi⟩ := visit (z := z) k (s + 1) (List.range' (z - k) k 1) (by simp) List.pairwise_lt_range' (fun q hq => by have h9 : z - k ≤ q ∧ q < z - k + k := List.mem_range'_1.mp hq; omega)
        have h1 : advN z i (List.range' s (k + 1)) = some (s :: List.range' (z - k) k) := by rw [List.range'_succ]; exact advN_cons i hi
        have h2 : adv z (s :: List.range' (z - k) k) = some (List.range' (s + 1) (k + 1)) := by
          show (match adv z (List.range' (z - k) k) with | some ys => some (s :: ys) | none => if s + ((List.range' (z - k) k).length + 1) < z then some (List.range' (s + 1) ((List.range' (z - k) k).length + 1)) else none) = _
          rw [adv_max k (by omega)]
          show (if s + ((List.range' (z - k) k).length + 1) < z then some (List.range' (s + 1) ((List.range' (z - k) k).length + 1)) else none) = _
          rw [List.length_range', if_pos (by omega)]
        have h3 : advN z 1 (s :: List.range' (z - k) k) = some (List.range' (s + 1) (k + 1)) := by
          show (match adv z (s :: List.range' (z - k) k) with | none => none | some p' => advN z 0 p') = _
          rw [h2]; rfl
        exact ⟨i + 1 + j, advN_add (i + 1) j (advN_add i 1 h1 h3) hj⟩
    exact go (y - s) s (by omega)
theorem mu_advN {z : Nat} : ∀ (i : Nat) {p q : List Nat}, advN z i p = some q → mu z q + i ≤ mu z p
  | 0, p, q, h => by have : p = q := Option.some.inj h; subst this; omega
  | i + 1, p, q, h => by
    have h' : (match adv z p with | none => none | some p' => advN z i p') = some q := h
    cases e : adv z p with
    | none => rw [e] at h'; cases h'
    | some p' => rw [e] at h'; have := mu_advN i h'; have := mu_adv e; omega
/-- a fold over all choices comes by each: what a step lays stays, if steps keep it -/
theorem itr_by {α : Type} {z : Nat} {step : α → List Nat → α} (P : α → Prop) {q : List Nat} (hq : ∀ a, P (step a q)) (hk : ∀ a p, P a → P (step a p)) : ∀ (i N : Nat) (p : List Nat) (a : α), i < N → advN z i p = some q → P (itr z step N p a) := by
  have stay : ∀ N p a, P a → P (itr z step N p a) := by
    intro N
    induction N with
    | zero => intro p a h; exact h
    | succ N ih =>
      intro p a h
      show P (match adv z p with | none => step a p | some p' => itr z step N p' (step a p))
      cases adv z p with
      | none => exact hk a p h
      | some p' => exact ih p' _ (hk a p h)
  intro i
  induction i with
  | zero =>
    intro N p a hN h
    have : p = q := Option.some.inj h
    subst this
    obtain ⟨M, rfl⟩ : ∃ M, N = M + 1 := ⟨N - 1, by omega⟩
    show P (match adv z p with | none => step a p | some p' => itr z step M p' (step a p))
    cases adv z p with
    | none => exact hq a
    | some p' => exact stay M p' _ (hq a)
  | succ i ih =>
    intro N p a hN h
    obtain ⟨M, rfl⟩ : ∃ M, N = M + 1 := ⟨N - 1, by omega⟩
    have h' : (match adv z p with | none => none | some p' => advN z i p') = some q := h
    show P (match adv z p with | none => step a p | some p' => itr z step M p' (step a p))
    cases e : adv z p with
    | none => rw [e] at h'; cases h'
    | some p' => rw [e] at h'; exact ih M p' _ (by omega) h'
theorem itr_all {α : Type} {z k N : Nat} {step : α → List Nat → α} (P : α → Prop) {q : List Nat} (hkz : k ≤ z) (hN : mu z (List.range k) < N) (hl : q.length = k) (hr : q.Pairwise (· < ·)) (hb : ∀ y ∈ q, y < z) (hq : ∀ a, P (step a q)) (hk : ∀ a p, P a → P (step a p)) (a : α) : P (itr z step N (List.range k) a) := by
  obtain ⟨i, hi⟩ := visit (z := z) k 0 q hl hr (fun y hy => ⟨Nat.zero_le _, hb y hy⟩)
  rw [← List.range_eq_range'] at hi
  have := mu_advN i hi
  exact itr_by P hq hk i N _ a (by omega) hi
