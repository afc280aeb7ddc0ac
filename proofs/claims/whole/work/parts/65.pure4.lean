theorem cl_0_0 : clF 0 0 = 0 := rfl
theorem cl_0_1 : clF 0 1 = 0 := rfl
theorem cl_0_2 : clF 0 2 = 0 := rfl
theorem cb_0_0 : cb 0 0 = 0 := rfl
theorem cb_0_1 : cb 0 1 = 0 := rfl
theorem cb_0_2 : cb 0 2 = 0 := rfl
theorem cb_0_3 : cb 0 3 = 0 := rfl
theorem tb_0_0 : Nat.testBit 0 0 = false := rfl
theorem tb_0_1 : Nat.testBit 0 1 = false := rfl
theorem tb_0_2 : Nat.testBit 0 2 = false := rfl
theorem cl_1_0 : clF 1 0 = 0 := rfl
theorem cl_1_1 : clF 1 1 = 0 := rfl
theorem cl_1_2 : clF 1 2 = 0 := rfl
theorem cb_1_0 : cb 1 0 = 0 := rfl
theorem cb_1_1 : cb 1 1 = 1 := rfl
theorem cb_1_2 : cb 1 2 = 1 := rfl
theorem cb_1_3 : cb 1 3 = 1 := rfl
theorem tb_1_0 : Nat.testBit 1 0 = true := rfl
theorem tb_1_1 : Nat.testBit 1 1 = false := rfl
theorem tb_1_2 : Nat.testBit 1 2 = false := rfl
theorem cl_2_0 : clF 2 0 = 1 := rfl
theorem cl_2_1 : clF 2 1 = 0 := rfl
theorem cl_2_2 : clF 2 2 = 0 := rfl
theorem cb_2_0 : cb 2 0 = 0 := rfl
theorem cb_2_1 : cb 2 1 = 0 := rfl
theorem cb_2_2 : cb 2 2 = 1 := rfl
theorem cb_2_3 : cb 2 3 = 1 := rfl
theorem tb_2_0 : Nat.testBit 2 0 = false := rfl
theorem tb_2_1 : Nat.testBit 2 1 = true := rfl
theorem tb_2_2 : Nat.testBit 2 2 = false := rfl
theorem cl_3_0 : clF 3 0 = 0 := rfl
theorem cl_3_1 : clF 3 1 = 1 := rfl
theorem cl_3_2 : clF 3 2 = 0 := rfl
theorem cb_3_0 : cb 3 0 = 0 := rfl
theorem cb_3_1 : cb 3 1 = 1 := rfl
theorem cb_3_2 : cb 3 2 = 2 := rfl
theorem cb_3_3 : cb 3 3 = 2 := rfl
theorem tb_3_0 : Nat.testBit 3 0 = true := rfl
theorem tb_3_1 : Nat.testBit 3 1 = true := rfl
theorem tb_3_2 : Nat.testBit 3 2 = false := rfl
theorem cl_4_0 : clF 4 0 = 2 := rfl
theorem cl_4_1 : clF 4 1 = 0 := rfl
theorem cl_4_2 : clF 4 2 = 0 := rfl
theorem cb_4_0 : cb 4 0 = 0 := rfl
theorem cb_4_1 : cb 4 1 = 0 := rfl
theorem cb_4_2 : cb 4 2 = 0 := rfl
theorem cb_4_3 : cb 4 3 = 1 := rfl
theorem tb_4_0 : Nat.testBit 4 0 = false := rfl
theorem tb_4_1 : Nat.testBit 4 1 = false := rfl
theorem tb_4_2 : Nat.testBit 4 2 = true := rfl
theorem cl_5_0 : clF 5 0 = 0 := rfl
theorem cl_5_1 : clF 5 1 = 2 := rfl
theorem cl_5_2 : clF 5 2 = 0 := rfl
theorem cb_5_0 : cb 5 0 = 0 := rfl
theorem cb_5_1 : cb 5 1 = 1 := rfl
theorem cb_5_2 : cb 5 2 = 1 := rfl
theorem cb_5_3 : cb 5 3 = 2 := rfl
theorem tb_5_0 : Nat.testBit 5 0 = true := rfl
theorem tb_5_1 : Nat.testBit 5 1 = false := rfl
theorem tb_5_2 : Nat.testBit 5 2 = true := rfl
theorem cl_6_0 : clF 6 0 = 1 := rfl
theorem cl_6_1 : clF 6 1 = 2 := rfl
theorem cl_6_2 : clF 6 2 = 0 := rfl
theorem cb_6_0 : cb 6 0 = 0 := rfl
theorem cb_6_1 : cb 6 1 = 0 := rfl
theorem cb_6_2 : cb 6 2 = 1 := rfl
theorem cb_6_3 : cb 6 3 = 2 := rfl
theorem tb_6_0 : Nat.testBit 6 0 = false := rfl
theorem tb_6_1 : Nat.testBit 6 1 = true := rfl
theorem tb_6_2 : Nat.testBit 6 2 = true := rfl
theorem cl_7_0 : clF 7 0 = 0 := rfl
theorem cl_7_1 : clF 7 1 = 1 := rfl
theorem cl_7_2 : clF 7 2 = 2 := rfl
theorem cb_7_0 : cb 7 0 = 0 := rfl
theorem cb_7_1 : cb 7 1 = 1 := rfl
theorem cb_7_2 : cb 7 2 = 2 := rfl
theorem cb_7_3 : cb 7 3 = 3 := rfl
theorem tb_7_0 : Nat.testBit 7 0 = true := rfl
theorem tb_7_1 : Nat.testBit 7 1 = true := rfl
theorem tb_7_2 : Nat.testBit 7 2 = true := rfl
/-! pure: sets of columns, closed up and masked -/
def cg (st : Nat) (g : M3) : M3 := padM (cb st 3) (fun a b => g (clF st a) (clF st b))
def cu (st : Nat) (u : Nat → Int) : Nat → Int := pad (cb st 3) (fun a => u (clF st a))
def plF (st c : Nat) (x y z : Int) : Int := if st.testBit c = true then (if cb st c = 0 then x else if cb st c = 1 then y else z) else 0
def mkG (st : Nat) (g : M3) : M3 := fun i j => if st.testBit i = true ∧ st.testBit j = true then g i j else 0
def mkV (st : Nat) (u : Nat → Int) : Nat → Int := fun i => if st.testBit i = true then u i else 0
theorem lt8 {P : Nat → Prop} (h0 : P 0) (h1 : P 1) (h2 : P 2) (h3 : P 3) (h4 : P 4) (h5 : P 5) (h6 : P 6) (h7 : P 7) : ∀ st, st < 8 → P st := fun i hi => by
  match i, hi with
  | 0, _ => exact h0
  | 1, _ => exact h1
  | 2, _ => exact h2
  | 3, _ => exact h3
  | 4, _ => exact h4
  | 5, _ => exact h5
  | 6, _ => exact h6
  | 7, _ => exact h7
theorem cg_q {g : M3} (hs : SyM g) (x y z : Int) : ∀ st, st < 8 → Qf (cg st g) x y z = Qf g (plF st 0 x y z) (plF st 1 x y z) (plF st 2 x y z) :=
  lt8 (by have s1 := hs 1 0; have s2 := hs 2 0; have s3 := hs 2 1; simp [Qf, cg, padM, plF, cl_0_0, cl_0_1, cl_0_2, cb_0_0, cb_0_1, cb_0_2, cb_0_3, tb_0_0, tb_0_1, tb_0_2]) (by have s1 := hs 1 0; have s2 := hs 2 0; have s3 := hs 2 1; simp [Qf, cg, padM, plF, cl_1_0, cl_1_1, cl_1_2, cb_1_0, cb_1_1, cb_1_2, cb_1_3, tb_1_0, tb_1_1, tb_1_2]) (by have s1 := hs 1 0; have s2 := hs 2 0; have s3 := hs 2 1; simp [Qf, cg, padM, plF, cl_2_0, cl_2_1, cl_2_2, cb_2_0, cb_2_1, cb_2_2, cb_2_3, tb_2_0, tb_2_1, tb_2_2]) (by have s1 := hs 1 0; have s2 := hs 2 0; have s3 := hs 2 1; simp [Qf, cg, padM, plF, cl_3_0, cl_3_1, cl_3_2, cb_3_0, cb_3_1, cb_3_2, cb_3_3, tb_3_0, tb_3_1, tb_3_2]) (by have s1 := hs 1 0; have s2 := hs 2 0; have s3 := hs 2 1; simp [Qf, cg, padM, plF, cl_4_0, cl_4_1, cl_4_2, cb_4_0, cb_4_1, cb_4_2, cb_4_3, tb_4_0, tb_4_1, tb_4_2]) (by have s1 := hs 1 0; have s2 := hs 2 0; have s3 := hs 2 1; simp [Qf, cg, padM, plF, cl_5_0, cl_5_1, cl_5_2, cb_5_0, cb_5_1, cb_5_2, cb_5_3, tb_5_0, tb_5_1, tb_5_2]) (by have s1 := hs 1 0; have s2 := hs 2 0; have s3 := hs 2 1; simp [Qf, cg, padM, plF, cl_6_0, cl_6_1, cl_6_2, cb_6_0, cb_6_1, cb_6_2, cb_6_3, tb_6_0, tb_6_1, tb_6_2]) (by have s1 := hs 1 0; have s2 := hs 2 0; have s3 := hs 2 1; simp [Qf, cg, padM, plF, cl_7_0, cl_7_1, cl_7_2, cb_7_0, cb_7_1, cb_7_2, cb_7_3, tb_7_0, tb_7_1, tb_7_2])
theorem cu_d {u : Nat → Int} (x y z : Int) : ∀ st, st < 8 → Dt (cu st u) x y z = Dt u (plF st 0 x y z) (plF st 1 x y z) (plF st 2 x y z) :=
  lt8 (by simp [Dt, cu, pad, plF, cl_0_0, cl_0_1, cl_0_2, cb_0_0, cb_0_1, cb_0_2, cb_0_3, tb_0_0, tb_0_1, tb_0_2]) (by simp [Dt, cu, pad, plF, cl_1_0, cl_1_1, cl_1_2, cb_1_0, cb_1_1, cb_1_2, cb_1_3, tb_1_0, tb_1_1, tb_1_2]) (by simp [Dt, cu, pad, plF, cl_2_0, cl_2_1, cl_2_2, cb_2_0, cb_2_1, cb_2_2, cb_2_3, tb_2_0, tb_2_1, tb_2_2]) (by simp [Dt, cu, pad, plF, cl_3_0, cl_3_1, cl_3_2, cb_3_0, cb_3_1, cb_3_2, cb_3_3, tb_3_0, tb_3_1, tb_3_2]) (by simp [Dt, cu, pad, plF, cl_4_0, cl_4_1, cl_4_2, cb_4_0, cb_4_1, cb_4_2, cb_4_3, tb_4_0, tb_4_1, tb_4_2]) (by simp [Dt, cu, pad, plF, cl_5_0, cl_5_1, cl_5_2, cb_5_0, cb_5_1, cb_5_2, cb_5_3, tb_5_0, tb_5_1, tb_5_2]) (by simp [Dt, cu, pad, plF, cl_6_0, cl_6_1, cl_6_2, cb_6_0, cb_6_1, cb_6_2, cb_6_3, tb_6_0, tb_6_1, tb_6_2]) (by simp [Dt, cu, pad, plF, cl_7_0, cl_7_1, cl_7_2, cb_7_0, cb_7_1, cb_7_2, cb_7_3, tb_7_0, tb_7_1, tb_7_2])
theorem cg_w {g : M3} {w : Nat → Int} : ∀ st, st < 8 → ∀ a, a < cb st 3 → Dt (cg st g a) (cu st w 0) (cu st w 1) (cu st w 2) = Dt (mkG st g (clF st a)) (w 0) (w 1) (w 2) :=
  lt8 (by intro a ha; simp only [cl_0_0, cl_0_1, cl_0_2, cb_0_0, cb_0_1, cb_0_2, cb_0_3, tb_0_0, tb_0_1, tb_0_2] at ha; first | omega | (rcases (show a = 0 ∨ a = 1 ∨ a = 2 by omega) with rfl | rfl | rfl <;> first | omega | simp [Dt, cg, cu, pad, padM, mkG, cl_0_0, cl_0_1, cl_0_2, cb_0_0, cb_0_1, cb_0_2, cb_0_3, tb_0_0, tb_0_1, tb_0_2])) (by intro a ha; simp only [cl_1_0, cl_1_1, cl_1_2, cb_1_0, cb_1_1, cb_1_2, cb_1_3, tb_1_0, tb_1_1, tb_1_2] at ha; first | omega | (rcases (show a = 0 ∨ a = 1 ∨ a = 2 by omega) with rfl | rfl | rfl <;> first | omega | simp [Dt, cg, cu, pad, padM, mkG, cl_1_0, cl_1_1, cl_1_2, cb_1_0, cb_1_1, cb_1_2, cb_1_3, tb_1_0, tb_1_1, tb_1_2])) (by intro a ha; simp only [cl_2_0, cl_2_1, cl_2_2, cb_2_0, cb_2_1, cb_2_2, cb_2_3, tb_2_0, tb_2_1, tb_2_2] at ha; first | omega | (rcases (show a = 0 ∨ a = 1 ∨ a = 2 by omega) with rfl | rfl | rfl <;> first | omega | simp [Dt, cg, cu, pad, padM, mkG, cl_2_0, cl_2_1, cl_2_2, cb_2_0, cb_2_1, cb_2_2, cb_2_3, tb_2_0, tb_2_1, tb_2_2])) (by intro a ha; simp only [cl_3_0, cl_3_1, cl_3_2, cb_3_0, cb_3_1, cb_3_2, cb_3_3, tb_3_0, tb_3_1, tb_3_2] at ha; first | omega | (rcases (show a = 0 ∨ a = 1 ∨ a = 2 by omega) with rfl | rfl | rfl <;> first | omega | simp [Dt, cg, cu, pad, padM, mkG, cl_3_0, cl_3_1, cl_3_2, cb_3_0, cb_3_1, cb_3_2, cb_3_3, tb_3_0, tb_3_1, tb_3_2])) (by intro a ha; simp only [cl_4_0, cl_4_1, cl_4_2, cb_4_0, cb_4_1, cb_4_2, cb_4_3, tb_4_0, tb_4_1, tb_4_2] at ha; first | omega | (rcases (show a = 0 ∨ a = 1 ∨ a = 2 by omega) with rfl | rfl | rfl <;> first | omega | simp [Dt, cg, cu, pad, padM, mkG, cl_4_0, cl_4_1, cl_4_2, cb_4_0, cb_4_1, cb_4_2, cb_4_3, tb_4_0, tb_4_1, tb_4_2])) (by intro a ha; simp only [cl_5_0, cl_5_1, cl_5_2, cb_5_0, cb_5_1, cb_5_2, cb_5_3, tb_5_0, tb_5_1, tb_5_2] at ha; first | omega | (rcases (show a = 0 ∨ a = 1 ∨ a = 2 by omega) with rfl | rfl | rfl <;> first | omega | simp [Dt, cg, cu, pad, padM, mkG, cl_5_0, cl_5_1, cl_5_2, cb_5_0, cb_5_1, cb_5_2, cb_5_3, tb_5_0, tb_5_1, tb_5_2])) (by intro a ha; simp only [cl_6_0, cl_6_1, cl_6_2, cb_6_0, cb_6_1, cb_6_2, cb_6_3, tb_6_0, tb_6_1, tb_6_2] at ha; first | omega | (rcases (show a = 0 ∨ a = 1 ∨ a = 2 by omega) with rfl | rfl | rfl <;> first | omega | simp [Dt, cg, cu, pad, padM, mkG, cl_6_0, cl_6_1, cl_6_2, cb_6_0, cb_6_1, cb_6_2, cb_6_3, tb_6_0, tb_6_1, tb_6_2])) (by intro a ha; simp only [cl_7_0, cl_7_1, cl_7_2, cb_7_0, cb_7_1, cb_7_2, cb_7_3, tb_7_0, tb_7_1, tb_7_2] at ha; first | omega | (rcases (show a = 0 ∨ a = 1 ∨ a = 2 by omega) with rfl | rfl | rfl <;> first | omega | simp [Dt, cg, cu, pad, padM, mkG, cl_7_0, cl_7_1, cl_7_2, cb_7_0, cb_7_1, cb_7_2, cb_7_3, tb_7_0, tb_7_1, tb_7_2]))
theorem cg_n {g : M3} {w : Nat → Int} (x y z : Int) : ∀ st, st < 8 → (Dt (cu st w) x y z = Dt w (plF st 0 x y z) (plF st 1 x y z) (plF st 2 x y z)) ∧ (∀ i, i < 3 → st.testBit i = true → Dt (mkG st g i) (plF st 0 x y z) (plF st 1 x y z) (plF st 2 x y z) = Dt (cg st g (cb st i)) x y z) :=
  lt8 (by refine ⟨by simp [Dt, cu, pad, plF, cl_0_0, cl_0_1, cl_0_2, cb_0_0, cb_0_1, cb_0_2, cb_0_3, tb_0_0, tb_0_1, tb_0_2], lt3 ?_ ?_ ?_⟩ <;> simp [Dt, cg, padM, mkG, plF, cl_0_0, cl_0_1, cl_0_2, cb_0_0, cb_0_1, cb_0_2, cb_0_3, tb_0_0, tb_0_1, tb_0_2]) (by refine ⟨by simp [Dt, cu, pad, plF, cl_1_0, cl_1_1, cl_1_2, cb_1_0, cb_1_1, cb_1_2, cb_1_3, tb_1_0, tb_1_1, tb_1_2], lt3 ?_ ?_ ?_⟩ <;> simp [Dt, cg, padM, mkG, plF, cl_1_0, cl_1_1, cl_1_2, cb_1_0, cb_1_1, cb_1_2, cb_1_3, tb_1_0, tb_1_1, tb_1_2]) (by refine ⟨by simp [Dt, cu, pad, plF, cl_2_0, cl_2_1, cl_2_2, cb_2_0, cb_2_1, cb_2_2, cb_2_3, tb_2_0, tb_2_1, tb_2_2], lt3 ?_ ?_ ?_⟩ <;> simp [Dt, cg, padM, mkG, plF, cl_2_0, cl_2_1, cl_2_2, cb_2_0, cb_2_1, cb_2_2, cb_2_3, tb_2_0, tb_2_1, tb_2_2]) (by refine ⟨by simp [Dt, cu, pad, plF, cl_3_0, cl_3_1, cl_3_2, cb_3_0, cb_3_1, cb_3_2, cb_3_3, tb_3_0, tb_3_1, tb_3_2], lt3 ?_ ?_ ?_⟩ <;> simp [Dt, cg, padM, mkG, plF, cl_3_0, cl_3_1, cl_3_2, cb_3_0, cb_3_1, cb_3_2, cb_3_3, tb_3_0, tb_3_1, tb_3_2]) (by refine ⟨by simp [Dt, cu, pad, plF, cl_4_0, cl_4_1, cl_4_2, cb_4_0, cb_4_1, cb_4_2, cb_4_3, tb_4_0, tb_4_1, tb_4_2], lt3 ?_ ?_ ?_⟩ <;> simp [Dt, cg, padM, mkG, plF, cl_4_0, cl_4_1, cl_4_2, cb_4_0, cb_4_1, cb_4_2, cb_4_3, tb_4_0, tb_4_1, tb_4_2]) (by refine ⟨by simp [Dt, cu, pad, plF, cl_5_0, cl_5_1, cl_5_2, cb_5_0, cb_5_1, cb_5_2, cb_5_3, tb_5_0, tb_5_1, tb_5_2], lt3 ?_ ?_ ?_⟩ <;> simp [Dt, cg, padM, mkG, plF, cl_5_0, cl_5_1, cl_5_2, cb_5_0, cb_5_1, cb_5_2, cb_5_3, tb_5_0, tb_5_1, tb_5_2]) (by refine ⟨by simp [Dt, cu, pad, plF, cl_6_0, cl_6_1, cl_6_2, cb_6_0, cb_6_1, cb_6_2, cb_6_3, tb_6_0, tb_6_1, tb_6_2], lt3 ?_ ?_ ?_⟩ <;> simp [Dt, cg, padM, mkG, plF, cl_6_0, cl_6_1, cl_6_2, cb_6_0, cb_6_1, cb_6_2, cb_6_3, tb_6_0, tb_6_1, tb_6_2]) (by refine ⟨by simp [Dt, cu, pad, plF, cl_7_0, cl_7_1, cl_7_2, cb_7_0, cb_7_1, cb_7_2, cb_7_3, tb_7_0, tb_7_1, tb_7_2], lt3 ?_ ?_ ?_⟩ <;> simp [Dt, cg, padM, mkG, plF, cl_7_0, cl_7_1, cl_7_2, cb_7_0, cb_7_1, cb_7_2, cb_7_3, tb_7_0, tb_7_1, tb_7_2])
theorem mk_q {g : M3} (x y z : Int) : ∀ st, st < 8 → Qf (mkG st g) x y z = Qf g (mkV st (fun _ => x) 0) (mkV st (fun _ => y) 1) (mkV st (fun _ => z) 2) ∧ ∀ u : Nat → Int, Dt (mkV st u) x y z = Dt u (mkV st (fun _ => x) 0) (mkV st (fun _ => y) 1) (mkV st (fun _ => z) 2) :=
  lt8 (by refine ⟨by simp [Qf, mkG, mkV, cl_0_0, cl_0_1, cl_0_2, cb_0_0, cb_0_1, cb_0_2, cb_0_3, tb_0_0, tb_0_1, tb_0_2], fun u => by simp [Dt, mkV, cl_0_0, cl_0_1, cl_0_2, cb_0_0, cb_0_1, cb_0_2, cb_0_3, tb_0_0, tb_0_1, tb_0_2]⟩) (by refine ⟨by simp [Qf, mkG, mkV, cl_1_0, cl_1_1, cl_1_2, cb_1_0, cb_1_1, cb_1_2, cb_1_3, tb_1_0, tb_1_1, tb_1_2], fun u => by simp [Dt, mkV, cl_1_0, cl_1_1, cl_1_2, cb_1_0, cb_1_1, cb_1_2, cb_1_3, tb_1_0, tb_1_1, tb_1_2]⟩) (by refine ⟨by simp [Qf, mkG, mkV, cl_2_0, cl_2_1, cl_2_2, cb_2_0, cb_2_1, cb_2_2, cb_2_3, tb_2_0, tb_2_1, tb_2_2], fun u => by simp [Dt, mkV, cl_2_0, cl_2_1, cl_2_2, cb_2_0, cb_2_1, cb_2_2, cb_2_3, tb_2_0, tb_2_1, tb_2_2]⟩) (by refine ⟨by simp [Qf, mkG, mkV, cl_3_0, cl_3_1, cl_3_2, cb_3_0, cb_3_1, cb_3_2, cb_3_3, tb_3_0, tb_3_1, tb_3_2], fun u => by simp [Dt, mkV, cl_3_0, cl_3_1, cl_3_2, cb_3_0, cb_3_1, cb_3_2, cb_3_3, tb_3_0, tb_3_1, tb_3_2]⟩) (by refine ⟨by simp [Qf, mkG, mkV, cl_4_0, cl_4_1, cl_4_2, cb_4_0, cb_4_1, cb_4_2, cb_4_3, tb_4_0, tb_4_1, tb_4_2], fun u => by simp [Dt, mkV, cl_4_0, cl_4_1, cl_4_2, cb_4_0, cb_4_1, cb_4_2, cb_4_3, tb_4_0, tb_4_1, tb_4_2]⟩) (by refine ⟨by simp [Qf, mkG, mkV, cl_5_0, cl_5_1, cl_5_2, cb_5_0, cb_5_1, cb_5_2, cb_5_3, tb_5_0, tb_5_1, tb_5_2], fun u => by simp [Dt, mkV, cl_5_0, cl_5_1, cl_5_2, cb_5_0, cb_5_1, cb_5_2, cb_5_3, tb_5_0, tb_5_1, tb_5_2]⟩) (by refine ⟨by simp [Qf, mkG, mkV, cl_6_0, cl_6_1, cl_6_2, cb_6_0, cb_6_1, cb_6_2, cb_6_3, tb_6_0, tb_6_1, tb_6_2], fun u => by simp [Dt, mkV, cl_6_0, cl_6_1, cl_6_2, cb_6_0, cb_6_1, cb_6_2, cb_6_3, tb_6_0, tb_6_1, tb_6_2]⟩) (by refine ⟨by simp [Qf, mkG, mkV, cl_7_0, cl_7_1, cl_7_2, cb_7_0, cb_7_1, cb_7_2, cb_7_3, tb_7_0, tb_7_1, tb_7_2], fun u => by simp [Dt, mkV, cl_7_0, cl_7_1, cl_7_2, cb_7_0, cb_7_1, cb_7_2, cb_7_3, tb_7_0, tb_7_1, tb_7_2]⟩)
theorem mis_c {yy d : Int} {h W : Nat → Int} : ∀ st, st < 8 → mis yy d (fun a => h (clF st a)) W (cb st 3) = yy * d - Dt (cu st h) (pad (cb st 3) W 0) (pad (cb st 3) W 1) (pad (cb st 3) W 2) :=
  lt8 (by simp [mis, Dt, cu, pad, cl_0_0, cl_0_1, cl_0_2, cb_0_0, cb_0_1, cb_0_2, cb_0_3, tb_0_0, tb_0_1, tb_0_2]; try grind) (by simp [mis, Dt, cu, pad, cl_1_0, cl_1_1, cl_1_2, cb_1_0, cb_1_1, cb_1_2, cb_1_3, tb_1_0, tb_1_1, tb_1_2]; try grind) (by simp [mis, Dt, cu, pad, cl_2_0, cl_2_1, cl_2_2, cb_2_0, cb_2_1, cb_2_2, cb_2_3, tb_2_0, tb_2_1, tb_2_2]; try grind) (by simp [mis, Dt, cu, pad, cl_3_0, cl_3_1, cl_3_2, cb_3_0, cb_3_1, cb_3_2, cb_3_3, tb_3_0, tb_3_1, tb_3_2]; try grind) (by simp [mis, Dt, cu, pad, cl_4_0, cl_4_1, cl_4_2, cb_4_0, cb_4_1, cb_4_2, cb_4_3, tb_4_0, tb_4_1, tb_4_2]; try grind) (by simp [mis, Dt, cu, pad, cl_5_0, cl_5_1, cl_5_2, cb_5_0, cb_5_1, cb_5_2, cb_5_3, tb_5_0, tb_5_1, tb_5_2]; try grind) (by simp [mis, Dt, cu, pad, cl_6_0, cl_6_1, cl_6_2, cb_6_0, cb_6_1, cb_6_2, cb_6_3, tb_6_0, tb_6_1, tb_6_2]; try grind) (by simp [mis, Dt, cu, pad, cl_7_0, cl_7_1, cl_7_2, cb_7_0, cb_7_1, cb_7_2, cb_7_3, tb_7_0, tb_7_1, tb_7_2]; try grind)
theorem pr_c {h w : Nat → Int} : ∀ st, st < 8 → pr3 (mkV st h) w = Dt (cu st h) (cu st w 0) (cu st w 1) (cu st w 2) :=
  lt8 (by simp [pr3, Dt, cu, pad, mkV, cl_0_0, cl_0_1, cl_0_2, cb_0_0, cb_0_1, cb_0_2, cb_0_3, tb_0_0, tb_0_1, tb_0_2]) (by simp [pr3, Dt, cu, pad, mkV, cl_1_0, cl_1_1, cl_1_2, cb_1_0, cb_1_1, cb_1_2, cb_1_3, tb_1_0, tb_1_1, tb_1_2]) (by simp [pr3, Dt, cu, pad, mkV, cl_2_0, cl_2_1, cl_2_2, cb_2_0, cb_2_1, cb_2_2, cb_2_3, tb_2_0, tb_2_1, tb_2_2]) (by simp [pr3, Dt, cu, pad, mkV, cl_3_0, cl_3_1, cl_3_2, cb_3_0, cb_3_1, cb_3_2, cb_3_3, tb_3_0, tb_3_1, tb_3_2]) (by simp [pr3, Dt, cu, pad, mkV, cl_4_0, cl_4_1, cl_4_2, cb_4_0, cb_4_1, cb_4_2, cb_4_3, tb_4_0, tb_4_1, tb_4_2]) (by simp [pr3, Dt, cu, pad, mkV, cl_5_0, cl_5_1, cl_5_2, cb_5_0, cb_5_1, cb_5_2, cb_5_3, tb_5_0, tb_5_1, tb_5_2]) (by simp [pr3, Dt, cu, pad, mkV, cl_6_0, cl_6_1, cl_6_2, cb_6_0, cb_6_1, cb_6_2, cb_6_3, tb_6_0, tb_6_1, tb_6_2]) (by simp [pr3, Dt, cu, pad, mkV, cl_7_0, cl_7_1, cl_7_2, cb_7_0, cb_7_1, cb_7_2, cb_7_3, tb_7_0, tb_7_1, tb_7_2])
theorem cb_m {st m : Nat} (hm : m ≤ 3) (hs : st < 2 ^ m) : cb st m = cb st 3 := by
  have : ∀ m : Fin 4, ∀ st : Fin 8, st.val < 2 ^ m.val → cb st.val m.val = cb st.val 3 := by decide +kernel
  have h2 := pow2_le hm
  exact this ⟨m, by omega⟩ ⟨st, by omega⟩ hs
theorem cg_gr {g : M3} (h : GrM g) {st : Nat} (hs : st < 8) : GrM (cg st g) := by
  refine ⟨fun i j => ?_, fun x y z => by rw [cg_q h.1 x y z st hs]; exact h.2.1 _ _ _, fun i x y z hq => ?_⟩
  · unfold cg padM
    by_cases e : i < cb st 3 ∧ j < cb st 3
    · rw [if_pos e, if_pos ⟨e.2, e.1⟩]; exact h.1 _ _
    · rw [if_neg e, if_neg (fun q => e ⟨q.2, q.1⟩)]
  · rw [cg_q h.1 x y z st hs] at hq
    by_cases e : i < cb st 3
    · have e2 : Dt (cg st g i) x y z = Dt (cu st (g (clF st i))) x y z := by
        have c3 := cb_le st 3
        have : ∀ j, cg st g i j = cu st (g (clF st i)) j := fun j => by
          unfold cg padM cu pad
          by_cases q : j < cb st 3
          · rw [if_pos ⟨e, q⟩, if_pos q]
          · rw [if_neg (fun r => q r.2), if_neg q]
        unfold Dt; rw [this, this, this]
      rw [e2, cu_d x y z st hs]
      exact h.2.2 _ _ _ _ hq
    · have : ∀ j, cg st g i j = 0 := fun j => by unfold cg padM; rw [if_neg (fun r => e r.1)]
      unfold Dt; rw [this, this, this]; simp
theorem cg_pn {g : M3} {u : Nat → Int} (h : SyM g) (hu : PnM g u) {st : Nat} (hs : st < 8) : PnM (cg st g) (cu st u) := fun x y z hq => by
  rw [cg_q h x y z st hs] at hq; rw [cu_d x y z st hs]; exact hu _ _ _ hq
theorem mk_gr {g : M3} (h : GrM g) {st : Nat} (hs : st < 8) : GrM (mkG st g) := by
  refine ⟨fun i j => ?_, fun x y z => by rw [(mk_q x y z st hs).1]; exact h.2.1 _ _ _, fun i x y z hq => ?_⟩
  · unfold mkG
    by_cases e : st.testBit i = true ∧ st.testBit j = true
    · rw [if_pos e, if_pos ⟨e.2, e.1⟩]; exact h.1 _ _
    · rw [if_neg e, if_neg (fun q => e ⟨q.2, q.1⟩)]
  · rw [(mk_q x y z st hs).1] at hq
    by_cases e : st.testBit i = true
    · have e2 : mkG st g i = mkV st (g i) := by
        funext j; unfold mkG mkV
        by_cases q : st.testBit j = true
        · rw [if_pos ⟨e, q⟩, if_pos q]
        · rw [if_neg (fun r => q r.2), if_neg q]
      rw [e2, (mk_q (g := g) x y z st hs).2]; exact h.2.2 _ _ _ _ hq
    · have : ∀ j, mkG st g i j = 0 := fun j => by unfold mkG; rw [if_neg (fun r => e r.1)]
      unfold Dt; rw [this, this, this]; simp
theorem mk_pn {g : M3} {u : Nat → Int} (hu : PnM g u) {st : Nat} (hs : st < 8) : PnM (mkG st g) (mkV st u) := fun x y z hq => by
  rw [(mk_q x y z st hs).1] at hq; rw [(mk_q (g := g) x y z st hs).2]; exact hu _ _ _ hq
/-- a masked solution, closed up -/
theorem sol_close {g : M3} {u w : Nat → Int} {d : Int} {st : Nat} (hs : st < 8) (h : Sol (mkG st g) (mkV st u) w d) : Sol (cg st g) (cu st u) (cu st w) d := by
  obtain ⟨a, b, c⟩ := h
  refine ⟨a, fun i hi => ?_, fun x y z hz => ?_⟩
  · by_cases e : i < cb st 3
    · have hb := cl_bit hs (Nat.le_refl 3) e
      rw [cg_w st hs i e, b _ hb.2.1]
      unfold mkV cu pad; rw [if_pos hb.1, if_pos e]
    · have : ∀ j, cg st g i j = 0 := fun j => by unfold cg padM; rw [if_neg (fun r => e r.1)]
      unfold Dt; rw [this, this, this]; unfold cu pad; rw [if_neg e]; simp
  · have n := cg_n (g := g) (w := w) x y z st hs
    rw [n.1]
    apply c
    intro i hi
    by_cases e : st.testBit i = true
    · rw [n.2 i hi e]; exact hz _ (Nat.lt_of_lt_of_le (cb_lt hi e) (by have := cb_le st 3; omega))
    · have : ∀ j, mkG st g i j = 0 := fun j => by unfold mkG; rw [if_neg (fun r => e r.1)]
      unfold Dt; rw [this, this, this]; simp
/-- few: the reference's sum over its bottom is the class's -/
theorem few_eq {g : M3} {u W : Nat → Int} {st : Nat} {yy den : Int} (h : GrM g) (hu : PnM g u) (hs : st < 8) (hf : FitR (fun a b => g (clF st a) (clF st b)) (cb st 3) (fun a => u (clF st a)) W den) : 0 < den ∧ Sol (cg st g) (cu st u) (pad (cb st 3) W) den ∧ 0 < fwB (Pf g) st ∧ mis yy den (fun a => u (clF st a)) W (cb st 3) * fwB (Pf g) st = fwS (Pf g) u yy st * den := by
  have c3 := cb_le st 3
  have hf2 : FitR (cg st g) (cb st 3) (cu st u) W den := hf.congr c3 (fun a b ha hb => by unfold cg padM; rw [if_pos ⟨ha, hb⟩]) (fun a ha => by unfold cu pad; rw [if_pos ha])
  have s1 := fitk (cg_gr h hs) (cg_pn h.1 hu hs) c3 (padM_pd _ _) (fun i hi => by unfold cu pad; rw [if_neg (by omega)]) hf2
  have s2 := sol_close hs (cls_sol (mk_gr h hs) (mk_pn hu hs))
  have uq := s1.uniq s2
  have hb : fwB (Pf g) st = symF (Pf (mkG st g)) (rk0 (Pf (mkG st g))) := rfl
  have hS : fwS (Pf g) u yy st = yy * fwB (Pf g) st - pr3 (mkV st u) (slv (Pf (mkG st g)) (mkV st u)) := rfl
  refine ⟨s1.1, s1, by rw [hb]; exact s2.1, ?_⟩
  rw [← hb] at uq
  rw [mis_c st hs, hS, pr_c st hs]
  have u0 := uq 0 (by omega); have u1 := uq 1 (by omega); have u2 := uq 2 (by omega)
  generalize fwB (Pf g) st = B at *
  generalize cu st (slv (Pf (mkG st g)) (mkV st u)) = V at *
  generalize pad (cb st 3) W = Q at *
  unfold Dt
  have : (yy * den - (cu st u 0 * Q 0 + cu st u 1 * Q 1 + cu st u 2 * Q 2)) * B = yy * den * B - (cu st u 0 * (Q 0 * B) + cu st u 1 * (Q 1 * B) + cu st u 2 * (Q 2 * B)) := by generalize cu st u 0 = a; generalize cu st u 1 = b; generalize cu st u 2 = c; clear uq u0 u1 u2 s1 s2 hf hf2 hS hu h; grind
  rw [this, u0, u1, u2]
  generalize cu st u 0 = a; generalize cu st u 1 = b; generalize cu st u 2 = c; clear uq u0 u1 u2 s1 s2 hf hf2 hS hu h this; grind
