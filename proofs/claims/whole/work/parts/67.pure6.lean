/-! pure: one table, both sides: the squares' answers -/
def TabR (X : Nat → Int) (x : Nat → Nat → Int) (Y : Nat → Int) (m n : Nat) : Prop := (1 ≤ m ∧ m ≤ 3) ∧ n ≤ 24 ∧ (∀ r, r < n → (∀ c, c < 3 → x r c = X (r * 3 + c) ∧ (-9 ≤ x r c ∧ x r c ≤ 9)) ∧ (-99 ≤ Y r ∧ Y r ≤ 99)) ∧ ∀ r, r < n → ∀ c, m ≤ c → c < 3 → x r c = 0
section TB
variable {X : Nat → Int} {x : Nat → Nat → Int} {Y : Nat → Int} {K : Nat → Bool} {m n : Nat}
theorem TabR.tb (h : TabR X x Y m n) : TbB X Y n := ⟨h.2.1, fun r hr => ⟨fun c hc => by have := (h.2.2.1 r hr).1 c hc; rw [← this.1]; exact this.2, (h.2.2.1 r hr).2⟩⟩
theorem TabR.mb (h : TabR X x Y m n) : MbB x Y n := ⟨h.2.1, fun r hr => ⟨fun c hc => ((h.2.2.1 r hr).1 c hc).2, (h.2.2.1 r hr).2⟩⟩
theorem gmF_eq (h : ∀ r, r < n → ∀ c, c < 3 → x r c = X (r * 3 + c)) {i j : Nat} (hi : i < 3) (hj : j < 3) : gmF X K i j n = gm2 x K i j n := by
  induction n with
  | zero => rfl
  | succ n ih =>
    show gmF X K i j n + _ = gm2 x K i j n + _
    rw [ih (fun r hr => h r (by omega)), h n (by omega) i hi, h n (by omega) j hj]
theorem rhF_eq (h : ∀ r, r < n → ∀ c, c < 3 → x r c = X (r * 3 + c)) {i : Nat} (hi : i < 3) : rhF X Y K i n = rh2 x Y K i n := by
  induction n with
  | zero => rfl
  | succ n ih =>
    show rhF X Y K i n + _ = rh2 x Y K i n + _
    rw [ih (fun r hr => h r (by omega)), h n (by omega) i hi]
theorem TabR.g (h : TabR X x Y m n) : ∀ k, k < 9 → PG X K n k = Pf (gmA x K n) k := fun k hk => gmF_eq (fun r hr c hc => ((h.2.2.1 r hr).1 c hc).1) (by omega) (by omega)
theorem TabR.h (h : TabR X x Y m n) : ∀ i, i < 3 → RG X Y K n i = rhA x Y K n i := fun i hi => rhF_eq (fun r hr c hc => ((h.2.2.1 r hr).1 c hc).1) hi
theorem TabR.gz (h : TabR X x Y m n) : ∀ i j, i < 3 → j < 3 → (m ≤ i ∨ m ≤ j) → gmA x K n i j = 0 := fun i j hi hj q => by
  rcases q with q | q
  · exact gm2_zr (fun r hr _ => h.2.2.2 r hr i q hi)
  · show gm2 x K i j n = 0; rw [gm2_sym]; exact gm2_zr (fun r hr _ => h.2.2.2 r hr j q hj)
theorem rh2_zr {a : Nat} : ∀ {n}, (∀ r, r < n → x r a = 0) → rh2 x Y K a n = 0
  | 0, _ => rfl
  | n + 1, h => by
    show rh2 x Y K a n + _ = 0
    rw [rh2_zr (fun r hr => h r (by omega)), h n (by omega)]
    split <;> simp
theorem TabR.hz (h : TabR X x Y m n) : ∀ i, m ≤ i → i < 3 → rhA x Y K n i = 0 := fun i q hi => rh2_zr (fun r hr => h.2.2.2 r hr i q hi)
theorem padM_gr {g : M3} (hg : GrM g) {m : Nat} (hm : m ≤ 3) (hz : ∀ i j, i < 3 → j < 3 → (m ≤ i ∨ m ≤ j) → g i j = 0) : GrM (padM m g) ∧ ∀ i j, i < 3 → j < 3 → padM m g i j = g i j := by
  have e : ∀ i j, i < 3 → j < 3 → padM m g i j = g i j := fun i j hi hj => by
    unfold padM
    by_cases q : i < m ∧ j < m
    · rw [if_pos q]
    · rw [if_neg q, hz i j hi hj (by omega)]
  have q : ∀ a b c, Qf (padM m g) a b c = Qf g a b c := fun a b c => by
    unfold Qf; rw [e 0 0 (by omega) (by omega), e 1 1 (by omega) (by omega), e 2 2 (by omega) (by omega), e 0 1 (by omega) (by omega), e 0 2 (by omega) (by omega), e 1 2 (by omega) (by omega)]
  refine ⟨⟨fun i j => ?_, fun a b c => by rw [q]; exact hg.2.1 _ _ _, fun i a b c h0 => ?_⟩, e⟩
  · unfold padM
    by_cases r : i < m ∧ j < m
    · rw [if_pos r, if_pos ⟨r.2, r.1⟩]; exact hg.1 _ _
    · rw [if_neg r, if_neg (fun t => r ⟨t.2, t.1⟩)]
  · rw [q] at h0
    by_cases hi : i < 3
    · have := hg.2.2 i a b c h0
      unfold Dt at this ⊢; rw [e i 0 hi (by omega), e i 1 hi (by omega), e i 2 hi (by omega)]; exact this
    · unfold Dt padM; rw [if_neg (by omega), if_neg (by omega), if_neg (by omega)]; simp
theorem fitA {g : M3} {u W : Nat → Int} {m : Nat} {den : Int} (hg : GrM g) (hu : PnM g u) (hm : m ≤ 3) (hz : ∀ i j, i < 3 → j < 3 → (m ≤ i ∨ m ≤ j) → g i j = 0) (hu0 : ∀ i, m ≤ i → i < 3 → u i = 0) (hf : FitR g m u W den) : Sol g u (pad m W) den := by
  obtain ⟨h1, h2⟩ := padM_gr hg hm hz
  have eu : ∀ i, i < 3 → pad m u i = u i := fun i hi => by
    unfold pad
    by_cases q : i < m
    · rw [if_pos q]
    · rw [if_neg q, hu0 i (by omega) hi]
  have hu2 : PnM (padM m g) (pad m u) := fun a b c h0 => by
    have q : Qf (padM m g) a b c = Qf g a b c := by
      unfold Qf; rw [h2 0 0 (by omega) (by omega), h2 1 1 (by omega) (by omega), h2 2 2 (by omega) (by omega), h2 0 1 (by omega) (by omega), h2 0 2 (by omega) (by omega), h2 1 2 (by omega) (by omega)]
    have := hu a b c (by rw [← q]; exact h0)
    unfold Dt at this ⊢; rw [eu 0 (by omega), eu 1 (by omega), eu 2 (by omega)]; exact this
  have hf2 : FitR (padM m g) m (pad m u) W den := hf.congr hm (fun a b ha hb => by unfold padM; rw [if_pos ⟨ha, hb⟩]) (fun a ha => by unfold pad; rw [if_pos ha])
  exact (fitk h1 hu2 hm (padM_pd m g) (fun i hi => by unfold pad; rw [if_neg (by omega)]) hf2).congr h2 eu (fun _ _ => rfl)
/-- the class's solution at a table -/
theorem TabR.cls (h : TabR X x Y m n) {u : Nat → Int} (hu : PnM (gmA x K n) u) {u' : Nat → Int} (e : ∀ i, i < 3 → u' i = u i) : Sol (gmA x K n) u (slv (PG X K n) u') (boG X K n) := by
  have s := cls_sol (gram (x := x) (K := K) (n := n)) hu
  have hb : boG X K n = symF (Pf (gmA x K n)) (rk0 (Pf (gmA x K n))) := by unfold boG; rw [rk0_congr h.g, symF_congr h.g]
  rw [hb]
  exact s.congr (fun _ _ _ _ => rfl) (fun _ _ => rfl) (fun i hi => (slv_congr h.g e hi).symm)
theorem TabR.mod (h : TabR X x Y m n) {W : Nat → Int} {den : Int} (hf : FitR (gmA x K n) m (rhA x Y K n) W den) : Sol (gmA x K n) (rhA x Y K n) (pad m W) den := fitA gram gram_h h.1.2 h.gz h.hz hf
theorem TabR.modx (h : TabR X x Y m n) {W : Nat → Int} {den : Int} {r : Nat} (hr : r < n) (hk : K r = true) (hf : FitR (gmA x K n) m (x r) W den) : Sol (gmA x K n) (x r) (pad m W) den := fitA gram (gram_x hr hk) h.1.2 h.gz (fun i q hi => h.2.2.2 r hr i q hi) hf
theorem TabR.ftb (h : TabR X x Y m n) : FtB (gmA x K n) m (rhA x Y K n) := fun W den hf => by
  have hm := h.1.2
  have b := fit_bd hf hm (fun a b ha hb => gm2_bd h.mb (by omega) (by omega)) (fun c hc => rh2_bd h.mb (by omega))
  exact ⟨⟨(h.mod hf).1, b.1⟩, b.2⟩
theorem TabR.ftx (h : TabR X x Y m n) {r : Nat} (hr : r < n) (hk : K r = true) : FtB (gmA x K n) m (x r) := fun W den hf => by
  have hm := h.1.2
  have b := fit_bd hf hm (fun a b ha hb => gm2_bd h.mb (by omega) (by omega)) (fun c hc => by have := (h.mb.2 r hr).1 c (by omega); omega)
  exact ⟨⟨(h.modx hr hk hf).1, b.1⟩, b.2⟩
theorem pad_at {w : Nat → Int} {c : Nat} (hc : c < m) : pad m w c = w c := if_pos hc
theorem dtk_pad {a w : Nat → Int} (hm : m ≤ 3) : dtk a w m = Dt a (pad m w 0) (pad m w 1) (pad m w 2) := by
  match m, hm with
  | 0, _ => simp [dtk, Dt, pad]
  | 1, _ => simp [dtk, Dt, pad]
  | 2, _ => simp [dtk, Dt, pad]
  | 3, _ => simp [dtk, Dt, pad]
theorem mis_pad {yy d : Int} {h w : Nat → Int} (hm : m ≤ 3) : mis yy d h w m = yy * d - Dt h (pad m w 0) (pad m w 1) (pad m w 2) := by
  match m, hm with
  | 0, _ => simp [mis, Dt, pad]
  | 1, _ => simp [mis, Dt, pad]
  | 2, _ => simp [mis, Dt, pad]; omega
  | 3, _ => simp [mis, Dt, pad]; omega
theorem dt_x {a w w' : Nat → Int} {d d' : Int} (h : ∀ i, i < 3 → w i * d' = w' i * d) : Dt a (w 0) (w 1) (w 2) * d' = Dt a (w' 0) (w' 1) (w' 2) * d := by
  have h0 := h 0 (by omega); have h1 := h 1 (by omega); have h2 := h 2 (by omega)
  have e : Dt a (w 0) (w 1) (w 2) * d' = a 0 * (w 0 * d') + a 1 * (w 1 * d') + a 2 * (w 2 * d') := by unfold Dt; grind
  rw [e, h0, h1, h2]; unfold Dt; grind
theorem pr3_dt {a b : Nat → Int} : pr3 a b = Dt a (b 0) (b 1) (b 2) := rfl
theorem eq_weight (h : TabR X x Y m n) {W : Nat → Int} {den : Int} (hf : FitR (gmA x K n) m (rhA x Y K n) W den) {c : Nat} (hc : c < m) (wh : Int) : tellZ (slv (PG X K n) (RG X Y K n) c) (boG X K n) wh = tellZ (W c) den wh := by
  have s1 := h.cls (K := K) gram_h h.h
  have s2 := h.mod hf
  have u := s2.uniq s1 c (by have := h.1.2; omega)
  rw [pad_at hc] at u
  exact tell_eq (by have := s1.1; omega) (by have := s2.1; omega) u.symm
theorem eq_miss (h : TabR X x Y m n) {W : Nat → Int} {den : Int} (hf : FitR (gmA x K n) m (rhA x Y K n) W den) {r : Nat} (hr : r < n) (wh : Int) : tellZ (msG X Y K n r) (boG X K n) wh = tellZ (Y r * den - dtk (x r) W m) den wh := by
  have s1 := h.cls (K := K) gram_h h.h
  have s2 := h.mod hf
  have d := dt_x (a := x r) (s2.uniq s1)
  refine tell_eq (by have := s1.1; omega) (by have := s2.1; omega) ?_
  unfold msG
  rw [dtk_pad h.1.2, pr3_congr (f' := x r) (fun i hi => (((h.2.2.1 r hr).1 i hi).1).symm) (fun _ _ => rfl), pr3_dt]
  generalize Dt (x r) (pad m W 0) (pad m W 1) (pad m W 2) = D at *
  generalize Dt (x r) _ _ _ = E at *
  generalize boG X K n = B at *
  generalize Y r = y
  clear s1 s2
  grind
theorem eq_sum (h : TabR X x Y m n) {W : Nat → Int} {den : Int} (hf : FitR (gmA x K n) m (rhA x Y K n) W den) : (mis (yyF Y K n) den (rhA x Y K n) W m * boG X K n = smG X Y K n * den) ∧ 0 < boG X K n ∧ 0 < den := by
  have s1 := h.cls (K := K) gram_h h.h
  have s2 := h.mod hf
  have d := dt_x (a := rhA x Y K n) (s2.uniq s1)
  refine ⟨?_, s1.1, s2.1⟩
  unfold smG
  rw [mis_pad h.1.2, pr3_congr (h.h (K := K)) (fun _ _ => rfl), pr3_dt]
  generalize Dt (rhA x Y K n) (pad m W 0) (pad m W 1) (pad m W 2) = D at *
  generalize Dt (rhA x Y K n) _ _ _ = E at *
  generalize boG X K n = B at *
  generalize yyF Y K n = y
  clear s1 s2
  grind
theorem TabR.sm (h : TabR X x Y m n) : (0 ≤ smG X Y K n ∧ smG X Y K n ≤ 9223372036854775807) ∧ (0 < boG X K n ∧ boG X K n ≤ 9223372036854775807) := by
  have s1 := h.cls (K := K) gram_h h.h
  have l := left_nn s1.1 s1.2.1
  have e : smG X Y K n = yyF Y K n * boG X K n - Dt (rhA x Y K n) (slv (PG X K n) (RG X Y K n) 0) (slv (PG X K n) (RG X Y K n) 1) (slv (PG X K n) (RG X Y K n) 2) := by
    unfold smG; rw [pr3_congr (h.h (K := K)) (fun _ _ => rfl), pr3_dt]
  have pb : PB (PG X K n) := fun j hj => by
    rw [h.g j hj]; exact gm2_bd h.mb (by omega) (by omega)
  have hb := sym_in pb (k := rk0 (PG X K n))
  have hb2 : boG X K n ≤ 44080933104 := hb.2
  have hy := yy_bd (K := K) h.tb n (Nat.le_refl _)
  have hn := h.2.1
  have hm := mul_bd (a := yyF Y K n) (A := 235224) (b := boG X K n) (B := 44080933104) (by omega) (by have := s1.1; omega)
  rw [e]
  have := s1.1
  omega
theorem TabR.ms63 (h : TabR X x Y m n) {W : Nat → Int} {den : Int} (hf : FitR (gmA x K n) m (rhA x Y K n) W den) : B63 (mis (yyF Y K n) den (rhA x Y K n) W m) := by
  have hm := h.1.2
  have s2 := h.mod hf
  have l := left_nn s2.1 s2.2.1
  have hd := den_b hf (fun _ => gram) hm (fun a b ha hb => gm2_bd h.mb (by omega) (by omega)) (fun c hc => rh2_bd h.mb (by omega))
  have hy := yy_bd (K := K) h.tb n (Nat.le_refl _)
  have hn := h.2.1
  have hml := mul_bd (a := yyF Y K n) (A := 235224) (b := den) (B := 32134205239296) (by omega) (by have := s2.1; omega)
  rw [mis_pad hm]
  unfold B63; omega
theorem eq_pull (h : TabR X x Y m n) {W : Nat → Int} {den : Int} {r : Nat} (hr : r < n) (hk : K r = true) (hf : FitR (gmA x K n) m (x r) W den) (wh : Int) : tellZ (plG X K n r) (boG X K n) wh = tellZ (dtk (x r) W m) den wh := by
  have ex : ∀ i, i < 3 → X (r * 3 + i) = x r i := fun i hi => (((h.2.2.1 r hr).1 i hi).1).symm
  have s1 := h.cls (gram_x hr hk) (u' := fun j => X (r * 3 + j)) ex
  have s2 := h.modx hr hk hf
  have d := dt_x (a := x r) (s2.uniq s1)
  refine tell_eq (by have := s1.1; omega) (by have := s2.1; omega) ?_
  unfold plG
  rw [dtk_pad h.1.2, pr3_congr (f' := x r) ex (fun _ _ => rfl), pr3_dt]
  exact d.symm
/-! far -/
theorem far_b {w d s d2 s2 : Int} {T : Int} (hd : 0 < d) (hd2 : 0 < d2) (hs : s ≠ 0) (he : d * s = d2 * s2) (hT : ((w * s).natAbs : Int) ≤ T) (f : Int) (hf : 0 < f) (hfw : f ∣ w) : ((w.tdiv f * d2.tdiv ((Int.gcd d d2 : Nat) : Int)).natAbs : Int) ≤ T := by
  have hg : 0 < ((Int.gcd d d2 : Nat) : Int) := by have := gcd_pos_r (t := d) (show d2 ≠ 0 by omega); omega
  have e1 := (tdiv_g hg (Int.gcd_dvd_left d d2)).1
  have e2 := (tdiv_g hg (Int.gcd_dvd_right d d2)).1
  obtain ⟨a, ha⟩ : ∃ a, a = d.tdiv ((Int.gcd d d2 : Nat) : Int) := ⟨_, rfl⟩
  obtain ⟨b, hb⟩ : ∃ b, b = d2.tdiv ((Int.gcd d d2 : Nat) : Int) := ⟨_, rfl⟩
  rw [← ha] at e1; rw [← hb] at e2
  have eq : a * s = b * s2 := by
    have : ((Int.gcd d d2 : Nat) : Int) * (a * s) = ((Int.gcd d d2 : Nat) : Int) * (b * s2) := by rw [← Int.mul_assoc, ← Int.mul_assoc, e1, e2, he]
    exact cancel (by omega) this
  have cop : Int.gcd a b = 1 := by
    have h1 : Int.gcd (((Int.gcd d d2 : Nat) : Int) * a) (((Int.gcd d d2 : Nat) : Int) * b) = (Int.gcd d d2) * Int.gcd a b := by rw [Int.gcd_mul_left]; simp
    rw [e1, e2] at h1
    have h2 : Int.gcd d d2 ≠ 0 := by omega
    have h3 : Int.gcd d d2 * 1 = Int.gcd d d2 * Int.gcd a b := by omega
    exact (Nat.eq_of_mul_eq_mul_left (by omega) h3).symm
  have dv : b ∣ s := by
    have h1 : b ∣ a * s := ⟨s2, eq⟩
    have h2 : b.natAbs ∣ a.natAbs * s.natAbs := by rw [← Int.natAbs_mul]; exact Int.natAbs_dvd_natAbs.mpr h1
    have h3 : Nat.Coprime b.natAbs a.natAbs := by show Nat.gcd b.natAbs a.natAbs = 1; rw [Nat.gcd_comm]; exact cop
    exact Int.natAbs_dvd_natAbs.mp (h3.dvd_of_dvd_mul_left h2)
  have hbs : (b.natAbs : Int) ≤ (s.natAbs : Int) := by
    have := Nat.le_of_dvd (by omega) (Int.natAbs_dvd_natAbs.mpr dv); omega
  have hw := (tdiv_g hf hfw).2
  rw [← hb, Int.natAbs_mul]
  rw [Int.natAbs_mul] at hT
  have : (w.tdiv f).natAbs * b.natAbs ≤ w.natAbs * s.natAbs := Nat.mul_le_mul (by omega) (by omega)
  have h5 : ((w.tdiv f).natAbs * b.natAbs : Nat) ≤ (w.natAbs * s.natAbs : Nat) := this
  have h6 : (((w.tdiv f).natAbs * b.natAbs : Nat) : Int) ≤ ((w.natAbs * s.natAbs : Nat) : Int) := by omega
  omega
theorem fit_s {G : M3} {k : Nat} {u W : Nat → Int} {den : Int} (h : FitR G k u W den) (hd : detM G k ≠ 0) : SlR G u k W den := by
  rcases h with h | h | h
  · exact h.2
  · exact absurd h.1 hd
  · exact absurd h.1 hd
theorem far_i1 (E F B a t C : Int) : E * F * B * (-a * t * C) = -((F * a) * B * ((E * t) * C)) := by grind
theorem far_i2 (E F B A b p : Int) : E * F * B * (-A * (b * p)) = -((A * (E * p)) * ((F * b) * B)) := by grind
theorem far_i3 (A d C d2 B : Int) : -(A * d * (d2 * C)) = -(A * d * (C * d2)) := by grind
theorem eq_far (h : TabR X x Y m n) {W W2 : Nat → Int} {den den2 : Int} {r c : Nat} (hr : r < n) (hk : K r = true) (hc : c < m) (hf : FitR (gmA x K n) m (rhA x Y K n) W den) (hf2 : FitR (gmA x K n) m (x r) W2 den2) (hd : detM (gmA x K n) m ≠ 0) : (W2 c ≠ 0 → B63 (FarT W W2 den den2 c) ∧ B63 (FarB W W2 den den2 c) ∧ FarB W W2 den den2 c ≠ 0) ∧ ∀ wh, tellZ (-slv (PG X K n) (RG X Y K n) c) (slv (PG X K n) (fun j => X (r * 3 + j)) c) wh = if W2 c = 0 then -1 else tellZ (FarT W W2 den den2 c) (FarB W W2 den den2 c) wh := by
  have hm := h.1.2
  have ex : ∀ i, i < 3 → X (r * 3 + i) = x r i := fun i hi => (((h.2.2.1 r hr).1 i hi).1).symm
  have s1 := h.cls (K := K) gram_h h.h
  have s2 := h.mod hf
  have t1 := h.cls (gram_x hr hk) (u' := fun j => X (r * 3 + j)) ex
  have t2 := h.modx hr hk hf2
  have u1 := s2.uniq s1 c (by omega)
  have u2 := t2.uniq t1 c (by omega)
  rw [pad_at hc] at u1 u2
  have hB := s1.1; have hd1 := s2.1; have hd2 := t2.1
  generalize slv (PG X K n) (RG X Y K n) c = A at *
  generalize slv (PG X K n) (fun j => X (r * 3 + j)) c = C at *
  generalize boG X K n = B at *
  have far : W2 c ≠ 0 → (B63 (FarT W W2 den den2 c) ∧ B63 (FarB W W2 den den2 c) ∧ FarB W W2 den den2 c ≠ 0) ∧ FarT W W2 den den2 c * C = -A * FarB W W2 den den2 c := fun hw => by
    obtain ⟨s, hs0, hsd, -, hsw⟩ := fit_s hf hd
    obtain ⟨q, hq0, hqd, -, hqw⟩ := fit_s hf2 hd
    have w1 := hsw c hc; have w2 := hqw c hc
    have sm1 : SmM (gmA x K n) (rhA x Y K n) m := ⟨fun a b ha hb => by have := gm2_bd (U := K) h.mb (show a < 3 by omega) (show b < 3 by omega); show -MBd a ≤ gm2 x K a b n ∧ gm2 x K a b n ≤ MBd a; unfold MBd; split <;> omega, fun a ha => rh2_bd h.mb (by omega)⟩
    have sm2 : SmM (gmA x K n) (x r) m := ⟨sm1.1, fun a ha => by have := (h.mb.2 r hr).1 a (by omega); omega⟩
    have b1 := crS_b hm sm1 hc; have b2 := crS_b hm sm2 hc
    have hf0 : 0 < ((Int.gcd (W c) (W2 c) : Nat) : Int) := by have := gcd_pos_r (t := W c) hw; omega
    have he0 : 0 < ((Int.gcd den den2 : Nat) : Int) := by have := gcd_pos_r (t := den) (show den2 ≠ 0 by omega); omega
    have dv1 := Int.gcd_dvd_left (W c) (W2 c); have dv2 := Int.gcd_dvd_right (W c) (W2 c)
    have k1 := far_b (w := W c) (d := den) (s := s) (d2 := den2) (s2 := q) (T := 1000000000000000000) hd1 hd2 hs0 (by rw [Int.mul_comm den, ← hsd, hqd, Int.mul_comm]) (by rw [Int.mul_comm, ← w1]; omega) _ hf0 dv1
    have k2 := far_b (w := W2 c) (d := den2) (s := q) (d2 := den) (s2 := s) (T := 1000000000000000000) hd2 hd1 hq0 (by rw [Int.mul_comm den2, ← hqd, hsd, Int.mul_comm]) (by rw [Int.mul_comm, ← w2]; omega) _ hf0 dv2
    rw [Int.gcd_comm den2 den] at k2
    have f1 := (tdiv_g hf0 dv1).1; have f2 := (tdiv_g hf0 dv2).1
    have g1 := (tdiv_g he0 (Int.gcd_dvd_left den den2)).1; have g2 := (tdiv_g he0 (Int.gcd_dvd_right den den2)).1
    have pd := tdiv_p he0 (Int.gcd_dvd_left den den2) hd1
    unfold FarT FarB
    generalize (W c).tdiv ((Int.gcd (W c) (W2 c) : Nat) : Int) = a at *
    generalize (W2 c).tdiv ((Int.gcd (W c) (W2 c) : Nat) : Int) = b at *
    generalize den.tdiv ((Int.gcd den den2 : Nat) : Int) = p at *
    generalize den2.tdiv ((Int.gcd den den2 : Nat) : Int) = t at *
    generalize ((Int.gcd (W c) (W2 c) : Nat) : Int) = F at *
    generalize ((Int.gcd den den2 : Nat) : Int) = E at *
    have hb0 : b ≠ 0 := fun q => hw (by rw [← f2, q]; simp)
    refine ⟨⟨?_, ?_, ?_⟩, ?_⟩
    · have : ((-a * t).natAbs : Int) = ((a * t).natAbs : Int) := by rw [Int.neg_mul, Int.natAbs_neg]
      unfold B63; omega
    · unfold B63; omega
    · intro q
      rcases Int.mul_eq_zero.mp q with q | q
      · exact hb0 q
      · omega
    · have hz : E * F * B ≠ 0 := by
        intro q
        rcases Int.mul_eq_zero.mp q with q | q
        · rcases Int.mul_eq_zero.mp q with q | q <;> omega
        · omega
      apply cancel hz
      rw [far_i1, far_i2, f1, g2, g1, f2, u1, u2]
      exact far_i3 A den C den2 B
  refine ⟨fun hw => (far hw).1, fun wh => ?_⟩
  by_cases hw : W2 c = 0
  · rw [if_pos hw]
    have : C = 0 := by
      rw [hw, Int.zero_mul] at u2
      rcases Int.mul_eq_zero.mp u2.symm with q | q
      · exact q
      · omega
    unfold tellZ; rw [if_pos (Or.inl this)]
  · rw [if_neg hw]
    have hC : C ≠ 0 := fun q => by
      rw [q, Int.zero_mul] at u2
      rcases Int.mul_eq_zero.mp u2 with r | r
      · exact hw r
      · omega
    have k := far hw
    exact tell_eq hC k.1.2.2 (by rw [← k.2])
end TB
