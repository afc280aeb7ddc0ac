/-! pure: bars in class and reference -/
theorem eM_dt {g : M3} {h ba sl : Nat → Int} {dt bar : Int} {c : Nat} : ∀ st, st < 8 → eM g h ba sl (clF st) dt bar c (cb st 3) = 2 * h c * dt - Dt (g c) (mkV st (fun j => ba j + bar * sl j) 0) (mkV st (fun j => ba j + bar * sl j) 1) (mkV st (fun j => ba j + bar * sl j) 2) := by
  refine lt8 ?_ ?_ ?_ ?_ ?_ ?_ ?_ ?_
  · simp [eM, Dt, mkV, cl_0_0, cl_0_1, cl_0_2, cb_0_0, cb_0_1, cb_0_2, cb_0_3, tb_0_0, tb_0_1, tb_0_2]
  · simp [eM, Dt, mkV, cl_1_0, cl_1_1, cl_1_2, cb_1_0, cb_1_1, cb_1_2, cb_1_3, tb_1_0, tb_1_1, tb_1_2]
  · simp [eM, Dt, mkV, cl_2_0, cl_2_1, cl_2_2, cb_2_0, cb_2_1, cb_2_2, cb_2_3, tb_2_0, tb_2_1, tb_2_2]
  · simp [eM, Dt, mkV, cl_3_0, cl_3_1, cl_3_2, cb_3_0, cb_3_1, cb_3_2, cb_3_3, tb_3_0, tb_3_1, tb_3_2]; grind
  · simp [eM, Dt, mkV, cl_4_0, cl_4_1, cl_4_2, cb_4_0, cb_4_1, cb_4_2, cb_4_3, tb_4_0, tb_4_1, tb_4_2]
  · simp [eM, Dt, mkV, cl_5_0, cl_5_1, cl_5_2, cb_5_0, cb_5_1, cb_5_2, cb_5_3, tb_5_0, tb_5_1, tb_5_2]; grind
  · simp [eM, Dt, mkV, cl_6_0, cl_6_1, cl_6_2, cb_6_0, cb_6_1, cb_6_2, cb_6_3, tb_6_0, tb_6_1, tb_6_2]; grind
  · simp [eM, Dt, mkV, cl_7_0, cl_7_1, cl_7_2, cb_7_0, cb_7_1, cb_7_2, cb_7_3, tb_7_0, tb_7_1, tb_7_2]; grind
theorem ab_dt {g : M3} {h : Nat → Int} {m p c : Nat} : ∀ st, st < 8 → stM p m = st → naM p m = cb st 3 → aaM g h m p c (cb st 3) = 2 * h c * dtM g p m - Dt (g c) (mkV st (baM g h p m) 0) (mkV st (baM g h p m) 1) (mkV st (baM g h p m) 2) ∧ bbM g m p c (cb st 3) = -Dt (g c) (mkV st (slM g p m) 0) (mkV st (slM g p m) 1) (mkV st (slM g p m) 2) := by
  refine lt8 ?_ ?_ ?_ ?_ ?_ ?_ ?_ ?_ <;> intro e e2
  · simp [aaM, bbM, Dt, mkV, e, cl_0_0, cl_0_1, cl_0_2, cb_0_0, cb_0_1, cb_0_2, cb_0_3, tb_0_0, tb_0_1, tb_0_2]
  · simp [aaM, bbM, Dt, mkV, e, cl_1_0, cl_1_1, cl_1_2, cb_1_0, cb_1_1, cb_1_2, cb_1_3, tb_1_0, tb_1_1, tb_1_2]
  · simp [aaM, bbM, Dt, mkV, e, cl_2_0, cl_2_1, cl_2_2, cb_2_0, cb_2_1, cb_2_2, cb_2_3, tb_2_0, tb_2_1, tb_2_2]
  · simp [aaM, bbM, Dt, mkV, e, cl_3_0, cl_3_1, cl_3_2, cb_3_0, cb_3_1, cb_3_2, cb_3_3, tb_3_0, tb_3_1, tb_3_2]; exact ⟨by omega, by omega⟩
  · simp [aaM, bbM, Dt, mkV, e, cl_4_0, cl_4_1, cl_4_2, cb_4_0, cb_4_1, cb_4_2, cb_4_3, tb_4_0, tb_4_1, tb_4_2]
  · simp [aaM, bbM, Dt, mkV, e, cl_5_0, cl_5_1, cl_5_2, cb_5_0, cb_5_1, cb_5_2, cb_5_3, tb_5_0, tb_5_1, tb_5_2]; exact ⟨by omega, by omega⟩
  · simp [aaM, bbM, Dt, mkV, e, cl_6_0, cl_6_1, cl_6_2, cb_6_0, cb_6_1, cb_6_2, cb_6_3, tb_6_0, tb_6_1, tb_6_2]; exact ⟨by omega, by omega⟩
  · simp [aaM, bbM, Dt, mkV, e, cl_7_0, cl_7_1, cl_7_2, cb_7_0, cb_7_1, cb_7_2, cb_7_3, tb_7_0, tb_7_1, tb_7_2]; exact ⟨by omega, by omega⟩
section BS
variable {g : M3} {h : Nat → Int} {m p : Nat}
theorem Bar.mk (B : Bar g h m) (hp : p < 3 ^ m) {j : Nat} (hj : j < 3) : mkV (mskP p) (baM g h (cvP m p) m) j = bsP (Pf g) h p j ∧ mkV (mskP p) (slM g (cvP m p) m) j = -slP (Pf g) p j := by
  obtain ⟨-, -, -, -, kc⟩ := cv_f B.hm.2 hp
  unfold mkV
  by_cases e : (mskP p).testBit j = true
  · rw [if_pos e, if_pos e]
    have jm : j < m := by
      rcases Nat.lt_or_ge j m with w | w
      · exact w
      · rw [(kc j hj).2.2] at e; have := (kc j hj).2.1 w; simp [this] at e
    exact (pat_eq B.gr B.pd B.hm.2 hp).2 j jm
  · rw [if_neg e, if_neg e]
    have : dig p j = 0 := by rw [(kc j hj).2.2] at e; simpa using e
    have := ((B.ac hp).2 j hj).1 (sgP_z.mpr this)
    rw [this.1, this.2]; exact ⟨rfl, rfl⟩
theorem Bar.mkw (B : Bar g h m) (hp : p < 3 ^ m) (bar : Int) {j : Nat} (hj : j < 3) : mkV (mskP p) (fun j => baM g h (cvP m p) m j + bar * slM g (cvP m p) m j) j = bsP (Pf g) h p j - bar * slP (Pf g) p j := by
  have := B.mk hp hj
  unfold mkV at *
  split at this
  · rename_i e; rw [if_pos e]; show baM g h (cvP m p) m j + bar * slM g (cvP m p) m j = _; rw [this.1, this.2]; grind
  · rename_i e; rw [if_neg e, ← this.1, show slP (Pf g) p j = 0 by omega]; simp
theorem Bar.rt (B : Bar g h m) (hp : p < 3 ^ m) {bar : Int} (hb : 0 ≤ bar) : RightM g h m (cvP m p) bar ↔ RtQ (Pf g) h p bar 1 := by
  rw [B.cd hp hb]
  obtain ⟨-, -, -, ⟨k1, -, k8⟩, kc⟩ := cv_f B.hm.2 hp
  have pe := pat_eq (h := h) B.gr B.pd B.hm.2 hp
  have en := (ref_eq (g := g) (h := h) B.hm.2 hp).2.1
  have m3 := B.hm.2
  have key : ∀ c, c < m → (RtM g h m (cvP m p) bar c ↔ ((sgP p c = 0 → -(boP (Pf g) p * bar) ≤ 1 * (2 * h c * boP (Pf g) p - Dt (g c) (bsP (Pf g) h p 0) (bsP (Pf g) h p 1) (bsP (Pf g) h p 2)) + bar * Dt (g c) (slP (Pf g) p 0) (slP (Pf g) p 1) (slP (Pf g) p 2) ∧ 1 * (2 * h c * boP (Pf g) p - Dt (g c) (bsP (Pf g) h p 0) (bsP (Pf g) h p 1) (bsP (Pf g) h p 2)) + bar * Dt (g c) (slP (Pf g) p 0) (slP (Pf g) p 1) (slP (Pf g) p 2) ≤ boP (Pf g) p * bar) ∧ (¬ sgP p c = 0 → 0 < sgP p c * (1 * bsP (Pf g) h p c - bar * slP (Pf g) p c)))) := fun c hc => by
    have s1 := (kc c (by omega)).1 hc
    unfold RtM
    rw [s1, pe.1, en, k1, eM_dt _ k8, B.mkw hp bar (by omega), B.mkw hp bar (by omega), B.mkw hp bar (by omega), (pe.2 c hc).1, (pe.2 c hc).2]
    have l : Dt (g c) (bsP (Pf g) h p 0 - bar * slP (Pf g) p 0) (bsP (Pf g) h p 1 - bar * slP (Pf g) p 1) (bsP (Pf g) h p 2 - bar * slP (Pf g) p 2) = Dt (g c) (bsP (Pf g) h p 0) (bsP (Pf g) h p 1) (bsP (Pf g) h p 2) - bar * Dt (g c) (slP (Pf g) p 0) (slP (Pf g) p 1) (slP (Pf g) p 2) := by unfold Dt; grind
    rw [l, Int.mul_comm bar (boP (Pf g) p)]
    generalize Dt (g c) (bsP (Pf g) h p 0) (bsP (Pf g) h p 1) (bsP (Pf g) h p 2) = u
    generalize bar * Dt (g c) (slP (Pf g) p 0) (slP (Pf g) p 1) (slP (Pf g) p 2) = v
    generalize boP (Pf g) p * bar = M
    generalize 2 * h c * boP (Pf g) p = z
    have e1 : bsP (Pf g) h p c + bar * -slP (Pf g) p c = 1 * bsP (Pf g) h p c - bar * slP (Pf g) p c := by grind
    rw [e1]
    generalize 1 * bsP (Pf g) h p c - bar * slP (Pf g) p c = w
    have b := sg_bd p c
    by_cases e : sgP p c = 0
    · rw [if_pos e]
      exact ⟨fun q => ⟨fun _ => by omega, fun r => absurd e r⟩, fun q => by have := q.1 e; omega⟩
    · rw [if_neg e]
      refine ⟨fun q => ⟨fun r => absurd r e, fun _ => ?_⟩, fun q => ?_⟩
      · rw [← q] at e ⊢
        rcases sgn_cases w with x | x | x <;> rw [x.2] at e ⊢ <;> omega
      · have := q.2 e
        rcases (show sgP p c = 1 ∨ sgP p c = -1 by omega) with r | r <;> rw [r] at this ⊢ <;> rcases sgn_cases w with x | x | x <;> rw [x.2] <;> omega
  exact ⟨fun H c hc => (key c hc).mp (H c hc), fun H c hc => (key c hc).mpr (H c hc)⟩
theorem rtq_1 {P R : Nat → Int} {bar : Nat} : (∀ c, c < 3 → cdC P R p (fun a b s => OKc (a + b * ((bar : Nat) : Int)) s) c) ↔ RtQ P R p ((bar : Nat) : Int) 1 := by
  have e : (fun (a b : Int) (s : Bool) => OKc (a * 1 + b * ((bar : Nat) : Int)) s) = fun a b s => OKc (a + b * ((bar : Nat) : Int)) s := by funext a b s; rw [Int.mul_one]
  unfold RtQ; rw [e]
theorem Bar.rg (B : Bar g h m) (hp : p < 3 ^ m) {bar : Nat} : Right (Pf g) h p bar ↔ RightM g h m (cvP m p) ((bar : Nat) : Int) := by
  rw [B.rt hp (by omega), ← rtq_1]
  unfold Right
  exact ⟨fun q => q.2, fun q => ⟨(cls_ac (h := h) B.gr B.pd B.hm.2 hp).1, q⟩⟩
theorem Bar.hex (B : Bar g h m) {bar : Int} (hb : 0 ≤ bar) : ∃ p, p < 3 ^ m ∧ RightM g h m p bar := by
  obtain ⟨p, hp, hr⟩ := B.ex (k := 1) hb
  exact ⟨cvP m p, (cv_f B.hm.2 hp).2.1.1, (B.rt hp hb).mpr hr⟩
/-- barred and cost: one value -/
theorem Bar.val (B : Bar g h m) {bar : Nat} {q : Nat} {Φ Ψ : Nat → Int} {v w : Int} (h1 : BarV (Pf g) h m bar Φ v) (hq : q < 3 ^ m) (h2 : RightM g h m q ((bar : Nat) : Int)) (hw : w = Ψ q) (hv : ∀ p, p < 3 ^ m → Right (Pf g) h p bar → Φ p = Ψ (cvP m p)) : v = w := by
  have cq := cv_f B.hm.2 hq
  have eq : cvP m (vcP m q) = q := cq.2.2.1.2
  have hr : Right (Pf g) h (vcP m q) bar := (B.rg cq.2.1.2).mpr (by rw [eq]; exact h2)
  rcases h1 with ⟨p, hp, hR, e⟩ | ⟨hn, -⟩
  · have r1 := (B.rt hp (by omega)).mp ((B.rg hp).mp hR)
    have r2 := (B.rt cq.2.1.2 (by omega)).mp ((B.rg cq.2.1.2).mp hr)
    have := B.un hp cq.2.1.2 (by omega) r1 r2
    rw [e, hv p hp hR, hw, this, eq]
  · exact absurd hr (hn _ cq.2.1.2)
theorem Bar.barred (B : Bar g h m) (hp : p < 3 ^ m) {bar c : Nat} (hc : c < m) (wh : Int) : tellZ (bsP (Pf g) h p c - slP (Pf g) p c * ((bar : Nat) : Int)) (2 * boP (Pf g) p) wh = tellZ (baM g h (cvP m p) m c + ((bar : Nat) : Int) * slM g (cvP m p) m c) (2 * dtM g (cvP m p) m) wh := by
  have pe := pat_eq (h := h) B.gr B.pd B.hm.2 hp
  rw [(pe.2 c hc).1, (pe.2 c hc).2, pe.1]
  congr 1; grind
theorem Bar.cost (B : Bar g h m) (hp : p < 3 ^ m) {bar : Nat} (hR : Right (Pf g) h p bar) (yy : Int) : 4 * boP (Pf g) p * yy - csP (Pf g) h p bar = ctM g h m (cvP m p) yy ((bar : Nat) : Int) m := by
  have pe := pat_eq (h := h) B.gr B.pd B.hm.2 hp
  have rm := (B.rg hp).mp hR
  obtain ⟨-, -, -, -, kc⟩ := cv_f B.hm.2 hp
  have m3 := B.hm.2
  have step : ∀ c, c ≤ m → ctM g h m (cvP m p) yy ((bar : Nat) : Int) c = 4 * boP (Pf g) p * yy - csZ (sgP p) (dbP h p) (bsP (Pf g) h p) (slP (Pf g) p) bar c := by
    intro c
    induction c with
    | zero => intro _; show 4 * dtM g (cvP m p) m * yy = _; rw [pe.1]; simp [csZ]
    | succ c ih =>
      intro hc
      show ctM g h m (cvP m p) yy ((bar : Nat) : Int) c + _ = 4 * boP (Pf g) p * yy - (csZ (sgP p) (dbP h p) (bsP (Pf g) h p) (slP (Pf g) p) bar c + _)
      rw [ih (by omega), (pe.2 c (by omega)).1, (pe.2 c (by omega)).2]
      have s1 := (kc c (by omega)).1 (by omega)
      have r := rm c (by omega)
      unfold RtM at r
      rw [s1, (pe.2 c (by omega)).1, (pe.2 c (by omega)).2] at r
      have e1 : bsP (Pf g) h p c - slP (Pf g) p c * ((bar : Nat) : Int) = bsP (Pf g) h p c + ((bar : Nat) : Int) * -slP (Pf g) p c := by grind
      rw [e1]
      by_cases e : sgP p c = 0
      · have a := ((B.ac hp).2 c (by omega)).1 e
        rw [a.1, a.2]; simp
      · rw [if_neg e] at r
        have dn := sg_ne e
        unfold dbP; rw [if_neg dn]
        generalize bsP (Pf g) h p c + ((bar : Nat) : Int) * -slP (Pf g) p c = w at *
        have ab : (w.natAbs : Int) = sgP p c * w := by
          rw [← r]; rcases sgn_cases w with x | x | x <;> rw [x.2] <;> omega
        rw [ab]; grind
  have tail : csP (Pf g) h p bar = csZ (sgP p) (dbP h p) (bsP (Pf g) h p) (slP (Pf g) p) bar m := by
    unfold csP
    have z : ∀ c, m ≤ c → c < 3 → (bsP (Pf g) h p c - slP (Pf g) p c * ((bar : Nat) : Int)) * (dbP h p c - sgP p c * ((bar : Nat) : Int)) = 0 := fun c q hc => by
      have a := ((B.ac hp).2 c hc).1 (B.sz hp c hc q)
      rw [a.1, a.2]; simp
    rcases (show m = 1 ∨ m = 2 ∨ m = 3 by have := B.hm; omega) with e | e | e
    · subst e; show csZ _ _ _ _ bar 1 + _ + _ = _; rw [z 1 (by omega) (by omega), z 2 (by omega) (by omega)]; simp
    · subst e; show csZ _ _ _ _ bar 2 + _ = _; rw [z 2 (by omega) (by omega)]; simp
    · subst e; rfl
  rw [step m (Nat.le_refl _), tail]
end BS
