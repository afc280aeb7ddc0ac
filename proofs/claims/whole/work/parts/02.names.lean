/-! ===== BEGIN words of one list among another's, by their places ===== -/
theorem goodIn_r {big : List Cond} (ws : List Cond) (ps : List Nat) (hp : ws = ps.filterMap (fun i => big[i]?)) (h : ws.all goodWord = true) : GoodIn big ws := by
  intro w hw
  have h1 := List.all_eq_true.mp h w hw
  rw [hp] at hw
  obtain ⟨i, -, hi⟩ := List.mem_filterMap.mp hw
  have hm : w ∈ big := by first | exact List.mem_of_getElem? hi | exact List.getElem?_mem hi
  exact ⟨hm, good_of_word h1⟩
theorem goodIn_app {big a b : List Cond} (ha : GoodIn big a) (hb : GoodIn big b) : GoodIn big (a ++ b) := fun w h => (List.mem_append.mp h).elim (ha w) (hb w)
theorem goodIn_ca {big a b : List Cond} {c : Cond} (ha : GoodIn big (c :: a)) (hb : GoodIn big b) : GoodIn big (c :: (a ++ b)) := fun w h => (List.mem_cons.mp h).elim (fun e => ha w (List.mem_cons.mpr (Or.inl e))) (fun h => (List.mem_append.mp h).elim (fun h => ha w (List.mem_cons.mpr (Or.inr h))) (hb w))
theorem goodIn_sub {big ws : List Cond} (hm : ∀ w ∈ ws, w ∈ big) (h : ws.all goodWord = true) : GoodIn big ws := fun w hw => ⟨hm w hw, good_of_word (List.all_eq_true.mp h w hw)⟩
/-! ===== END ===== -/

/-! ===== BEGIN new T[n][m]: the outer array a place, the inner ones among the pooled ===== -/
/-- f, but v at every address of l -/
def vr_up {α : Type} (f : Nat → α) (l : List Nat) (v : α) : Nat → α := fun a => if a ∈ l then v else f a
theorem vr_up_in {α : Type} {f : Nat → α} {l : List Nat} {v : α} {a : Nat} (h : a ∈ l) : vr_up f l v a = v := if_pos h
theorem vr_up_ne {α : Type} {f : Nat → α} {l : List Nat} {v : α} {a : Nat} (h : a ∉ l) : vr_up f l v a = f a := if_neg h
theorem vr_rows {L l : List Nat} {f : Nat → va_E} {e : va_E} (h : ∀ a, a ∈ l → a ∉ L) : va_pl L f ++ l.map (fun a => (a, e)) = va_pl (L ++ l) (vr_up f l e) := by
  unfold va_pl
  rw [List.map_append]
  congr 1
  · apply List.map_congr_left
    intro a ha
    rw [vr_up_ne (fun q => h a q ha)]
  · apply List.map_congr_left
    intro a ha
    rw [vr_up_in ha]
theorem vr_lay {X rows : va_W} {x : Nat × va_E} {pl : va_W} {D : va_G} {cl : List vw_C} {H : Heap} (hP : va_P D cl (((X ++ pl) ++ [x]) ++ rows) H) : va_P D cl ((X ++ [x]) ++ (pl ++ rows)) H := by
  rw [List.append_assoc (X ++ pl)] at hP
  have h := va_P.swap hP
  rw [← List.append_assoc X] at h
  have h2 := va_P.swap h
  rw [List.append_assoc (X ++ [x])] at h2
  exact h2
theorem vr_layD {X rows : va_W} {x : Nat × va_E} {pl : va_W} {A : Nat → Prop} (hD : va_D A (((X ++ pl) ++ [x]) ++ rows)) : va_D A ((X ++ [x]) ++ (pl ++ rows)) := by
  rw [List.append_assoc (X ++ pl)] at hD
  have h := va_D.swap hD
  rw [← List.append_assoc X] at h
  have h2 := va_D.swap h
  rw [List.append_assoc (X ++ [x])] at h2
  exact h2
theorem vr_outer (c : ClassId) (N h0 : Nat) : ∀ i : Nat, Jvm.Free.Multi.outerC c N h0 i = arrV c N (fun j => va_rf (if j < i then some (h0 + 1 + j) else none))
  | 0 => by
    show ({ cls := c, slots := Array.replicate N .null, vm := .none } : Cell) = _
    rw [arrV_new]
    refine congrArg (arrV c N) (funext fun j => ?_)
    simp [va_rf]
  | i + 1 => by
    show (Jvm.Free.Multi.outerC c N h0 i).setSlot i (.ref (h0 + 1 + i)) = _
    rw [vr_outer c N h0 i, arrV_store]
    refine congrArg (arrV c N) (funext fun j => ?_)
    by_cases e : j = i
    · subst e
      simp [updV, va_rf]
    · by_cases h : j < i
      · simp [updV, e, h, Nat.lt_succ_of_lt h]
      · simp [updV, e, h, show ¬ j < i + 1 by omega]
/-! ===== END ===== -/

/-! ===== BEGIN printed: names, fields, word lists, decode rows ===== -/
def RX0 : String := "GuessBench$Bars"
def TX0 : u_T := fun k => match k with
  | 0 => ("GuessBench$Bars", "part", "LGuessBench$Squares;", true)
  | 1 => ("GuessBench$Bars", "signs", "[J", true)
  | 2 => ("GuessBench$Bars", "doubled", "[J", true)
  | 3 => ("GuessBench$Bars", "bases", "[J", true)
  | 4 => ("GuessBench$Bars", "slopes", "[J", true)
  | 5 => ("GuessBench$Bars", "fixed", "[J", true)
  | 6 => ("GuessBench$Bars", "rises", "[J", true)
  | 7 => ("GuessBench$Bars", "strict", "[Z", true)
  | _ => ("GuessBench$Bars", "conditions", "I", false)
def tyX0 : Nat → FieldType := fun k => match k with
  | 0 => .object "GuessBench$Squares"
  | 1 => .array .long
  | 2 => .array .long
  | 3 => .array .long
  | 4 => .array .long
  | 5 => .array .long
  | 6 => .array .long
  | 7 => .array .boolean
  | _ => .int
theorem nmX0 : ∀ a, a < 9 → ∀ b, b < 9 → a ≠ b → (TX0 a).2.1 ≠ (TX0 b).2.1 := by decide +kernel
theorem tyX0_ok : ∀ k, k < 9 → parseFieldDescriptor (TX0 k).2.2.1 = some (tyX0 k) := by decide +kernel
abbrev cX0_init : ByteArray := prog_2_method_1_code
def yX0_init : MethodName := ⟨RX0, "<init>", "()V"⟩
abbrev cX0_find : ByteArray := prog_2_method_2_code
def yX0_find : MethodName := ⟨RX0, "find", "(LGuessBench$Squares;II)Z"⟩
abbrev cX0_weightTop : ByteArray := prog_2_method_3_code
def yX0_weightTop : MethodName := ⟨RX0, "weightTop", "(II)J"⟩
abbrev cX0_weightBottom : ByteArray := prog_2_method_4_code
def yX0_weightBottom : MethodName := ⟨RX0, "weightBottom", "()J"⟩
abbrev cX0_costTop : ByteArray := prog_2_method_5_code
def yX0_costTop : MethodName := ⟨RX0, "costTop", "(I)J"⟩
abbrev cX0_costBottom : ByteArray := prog_2_method_6_code
def yX0_costBottom : MethodName := ⟨RX0, "costBottom", "()J"⟩
abbrev cX0_collectTurns : ByteArray := prog_2_method_7_code
def yX0_collectTurns : MethodName := ⟨RX0, "collectTurns", "(LGuessBench$Squares;ILGuessBench$Ratios;)V"⟩
abbrev cX0_collectTurn : ByteArray := prog_2_method_8_code
def yX0_collectTurn : MethodName := ⟨RX0, "collectTurn", "(ILGuessBench$Ratios;)V"⟩
abbrev cX0_patternsOf : ByteArray := prog_2_method_9_code
def yX0_patternsOf : MethodName := ⟨RX0, "patternsOf", "(I)I"⟩
abbrev cX0_lay : ByteArray := prog_2_method_10_code
def yX0_lay : MethodName := ⟨RX0, "lay", "(LGuessBench$Squares;I)Z"⟩
abbrev cX0_holdBack : ByteArray := prog_2_method_11_code
def yX0_holdBack : MethodName := ⟨RX0, "holdBack", "(LGuessBench$Squares;I)V"⟩
abbrev cX0_addCondition : ByteArray := prog_2_method_12_code
def yX0_addCondition : MethodName := ⟨RX0, "addCondition", "(JJZ)V"⟩
abbrev cX0_holdsAt : ByteArray := prog_2_method_13_code
def yX0_holdsAt : MethodName := ⟨RX0, "holdsAt", "(I)Z"⟩
abbrev cX0_holdsBeside : ByteArray := prog_2_method_14_code
def yX0_holdsBeside : MethodName := ⟨RX0, "holdsBeside", "(JJI)Z"⟩
def RX1 : String := "GuessBench$Best"
def TX1 : u_T := fun k => match k with
  | 0 => ("GuessBench$Best", "isEmpty", "Z", false)
  | 1 => ("GuessBench$Best", "top", "J", false)
  | 2 => ("GuessBench$Best", "bottom", "J", false)
  | _ => ("GuessBench$Best", "bits", "J", false)
def tyX1 : Nat → FieldType := fun k => match k with
  | 0 => .boolean
  | 1 => .long
  | 2 => .long
  | _ => .long
theorem nmX1 : ∀ a, a < 4 → ∀ b, b < 4 → a ≠ b → (TX1 a).2.1 ≠ (TX1 b).2.1 := by decide +kernel
theorem tyX1_ok : ∀ k, k < 4 → parseFieldDescriptor (TX1 k).2.2.1 = some (tyX1 k) := by decide +kernel
abbrev cX1_init : ByteArray := prog_3_method_1_code
def yX1_init : MethodName := ⟨RX1, "<init>", "()V"⟩
abbrev cX1_clear : ByteArray := prog_3_method_2_code
def yX1_clear : MethodName := ⟨RX1, "clear", "()V"⟩
abbrev cX1_offer : ByteArray := prog_3_method_3_code
def yX1_offer : MethodName := ⟨RX1, "offer", "(JJJ)V"⟩
abbrev cX1_tell : ByteArray := prog_3_method_4_code
def yX1_tell : MethodName := ⟨RX1, "tell", "(I)J"⟩
def RX2 : String := "GuessBench$Fractions"
def TX2 : u_T := fun k => match k with
  | _ => ("", "", "", false)
def tyX2 : Nat → FieldType := fun k => match k with
  | _ => .int
theorem nmX2 : ∀ a, a < 0 → ∀ b, b < 0 → a ≠ b → (TX2 a).2.1 ≠ (TX2 b).2.1 := by decide +kernel
theorem tyX2_ok : ∀ k, k < 0 → parseFieldDescriptor (TX2 k).2.2.1 = some (tyX2 k) := by decide +kernel
abbrev cX2_common : ByteArray := prog_4_method_2_code
def yX2_common : MethodName := ⟨RX2, "common", "(JJ)J"⟩
abbrev cX2_tell : ByteArray := prog_4_method_3_code
def yX2_tell : MethodName := ⟨RX2, "tell", "(JJI)J"⟩
abbrev cX2_order : ByteArray := prog_4_method_4_code
def yX2_order : MethodName := ⟨RX2, "order", "(JJJJ)I"⟩
def RX3 : String := "GuessBench$LeastLevel"
def TX3 : u_T := fun k => match k with
  | 0 => ("GuessBench$LeastLevel", "volumes", "[I", true)
  | 1 => ("GuessBench$LeastLevel", "top", "J", false)
  | _ => ("GuessBench$LeastLevel", "bottom", "J", false)
def tyX3 : Nat → FieldType := fun k => match k with
  | 0 => .array .int
  | 1 => .long
  | _ => .long
theorem nmX3 : ∀ a, a < 3 → ∀ b, b < 3 → a ≠ b → (TX3 a).2.1 ≠ (TX3 b).2.1 := by decide +kernel
theorem tyX3_ok : ∀ k, k < 3 → parseFieldDescriptor (TX3 k).2.2.1 = some (tyX3 k) := by decide +kernel
abbrev cX3_init : ByteArray := prog_5_method_1_code
def yX3_init : MethodName := ⟨RX3, "<init>", "()V"⟩
abbrev cX3_find : ByteArray := prog_5_method_2_code
def yX3_find : MethodName := ⟨RX3, "find", "(LGuessBench$Pool;I)V"⟩
abbrev cX3_twosBelow : ByteArray := prog_5_method_3_code
def yX3_twosBelow : MethodName := ⟨RX3, "twosBelow", "(I)I"⟩
abbrev cX3_threesBelow : ByteArray := prog_5_method_4_code
def yX3_threesBelow : MethodName := ⟨RX3, "threesBelow", "(I)I"⟩
abbrev cX3_measure : ByteArray := prog_5_method_5_code
def yX3_measure : MethodName := ⟨RX3, "measure", "(LGuessBench$Pool;I)V"⟩
abbrev cX3_raise : ByteArray := prog_5_method_6_code
def yX3_raise : MethodName := ⟨RX3, "raise", "([IIII)V"⟩
def RX4 : String := "GuessBench$LeastSizes"
def TX4 : u_T := fun k => match k with
  | 0 => ("GuessBench$LeastSizes", "tops", "[J", true)
  | 1 => ("GuessBench$LeastSizes", "top", "J", false)
  | 2 => ("GuessBench$LeastSizes", "bottom", "J", false)
  | 3 => ("GuessBench$LeastSizes", "a", "J", false)
  | 4 => ("GuessBench$LeastSizes", "b", "J", false)
  | 5 => ("GuessBench$LeastSizes", "c", "J", false)
  | _ => ("GuessBench$LeastSizes", "divisor", "J", false)
def tyX4 : Nat → FieldType := fun k => match k with
  | 0 => .array .long
  | 1 => .long
  | 2 => .long
  | 3 => .long
  | 4 => .long
  | 5 => .long
  | _ => .long
theorem nmX4 : ∀ a, a < 7 → ∀ b, b < 7 → a ≠ b → (TX4 a).2.1 ≠ (TX4 b).2.1 := by decide +kernel
theorem tyX4_ok : ∀ k, k < 7 → parseFieldDescriptor (TX4 k).2.2.1 = some (tyX4 k) := by decide +kernel
abbrev cX4_init : ByteArray := prog_6_method_1_code
def yX4_init : MethodName := ⟨RX4, "<init>", "()V"⟩
abbrev cX4_find : ByteArray := prog_6_method_2_code
def yX4_find : MethodName := ⟨RX4, "find", "(LGuessBench$Pool;LGuessBench$Picks;I)V"⟩
abbrev cX4_solveExactly : ByteArray := prog_6_method_3_code
def yX4_solveExactly : MethodName := ⟨RX4, "solveExactly", "(LGuessBench$Pool;III)V"⟩
abbrev cX4_takeIfLess : ByteArray := prog_6_method_4_code
def yX4_takeIfLess : MethodName := ⟨RX4, "takeIfLess", "(LGuessBench$Pool;)V"⟩
abbrev cX4_sumBelow : ByteArray := prog_6_method_5_code
def yX4_sumBelow : MethodName := ⟨RX4, "sumBelow", "(LGuessBench$Pool;J)J"⟩
def RX5 : String := "GuessBench$Picks"
def TX5 : u_T := fun k => match k with
  | 0 => ("GuessBench$Picks", "places", "[I", true)
  | 1 => ("GuessBench$Picks", "many", "I", false)
  | _ => ("GuessBench$Picks", "of", "I", false)
def tyX5 : Nat → FieldType := fun k => match k with
  | 0 => .array .int
  | 1 => .int
  | _ => .int
theorem nmX5 : ∀ a, a < 3 → ∀ b, b < 3 → a ≠ b → (TX5 a).2.1 ≠ (TX5 b).2.1 := by decide +kernel
theorem tyX5_ok : ∀ k, k < 3 → parseFieldDescriptor (TX5 k).2.2.1 = some (tyX5 k) := by decide +kernel
abbrev cX5_init : ByteArray := prog_7_method_1_code
def yX5_init : MethodName := ⟨RX5, "<init>", "()V"⟩
abbrev cX5_begin : ByteArray := prog_7_method_2_code
def yX5_begin : MethodName := ⟨RX5, "begin", "(II)Z"⟩
abbrev cX5_advance : ByteArray := prog_7_method_3_code
def yX5_advance : MethodName := ⟨RX5, "advance", "()Z"⟩
abbrev cX5_placeOf : ByteArray := prog_7_method_4_code
def yX5_placeOf : MethodName := ⟨RX5, "placeOf", "(I)I"⟩
def RX6 : String := "GuessBench$Pool"
def TX6 : u_T := fun k => match k with
  | 0 => ("GuessBench$Pool", "a", "[I", true)
  | 1 => ("GuessBench$Pool", "b", "[I", true)
  | 2 => ("GuessBench$Pool", "c", "[I", true)
  | 3 => ("GuessBench$Pool", "told", "[I", true)
  | 4 => ("GuessBench$Pool", "rowOf", "[I", true)
  | _ => ("GuessBench$Pool", "size", "I", false)
def tyX6 : Nat → FieldType := fun k => match k with
  | 0 => .array .int
  | 1 => .array .int
  | 2 => .array .int
  | 3 => .array .int
  | 4 => .array .int
  | _ => .int
theorem nmX6 : ∀ a, a < 6 → ∀ b, b < 6 → a ≠ b → (TX6 a).2.1 ≠ (TX6 b).2.1 := by decide +kernel
theorem tyX6_ok : ∀ k, k < 6 → parseFieldDescriptor (TX6 k).2.2.1 = some (tyX6 k) := by decide +kernel
abbrev cX6_init : ByteArray := prog_8_method_1_code
def yX6_init : MethodName := ⟨RX6, "<init>", "()V"⟩
abbrev cX6_fill : ByteArray := prog_8_method_2_code
def yX6_fill : MethodName := ⟨RX6, "fill", "(LGuessBench$Table;)V"⟩
abbrev cX6_put : ByteArray := prog_8_method_3_code
def yX6_put : MethodName := ⟨RX6, "put", "(IIII)V"⟩
def RX7 : String := "GuessBench$Ratios"
def TX7 : u_T := fun k => match k with
  | 0 => ("GuessBench$Ratios", "tops", "[J", true)
  | 1 => ("GuessBench$Ratios", "bottoms", "[J", true)
  | _ => ("GuessBench$Ratios", "size", "I", false)
def tyX7 : Nat → FieldType := fun k => match k with
  | 0 => .array .long
  | 1 => .array .long
  | _ => .int
theorem nmX7 : ∀ a, a < 3 → ∀ b, b < 3 → a ≠ b → (TX7 a).2.1 ≠ (TX7 b).2.1 := by decide +kernel
theorem tyX7_ok : ∀ k, k < 3 → parseFieldDescriptor (TX7 k).2.2.1 = some (tyX7 k) := by decide +kernel
abbrev cX7_init : ByteArray := prog_9_method_1_code
def yX7_init : MethodName := ⟨RX7, "<init>", "()V"⟩
abbrev cX7_insert : ByteArray := prog_9_method_2_code
def yX7_insert : MethodName := ⟨RX7, "insert", "(JJ)V"⟩
def RX8 : String := "GuessBench$Squares"
def TX8 : u_T := fun k => match k with
  | 0 => ("GuessBench$Squares", "products", "[J", true)
  | 1 => ("GuessBench$Squares", "right", "[J", true)
  | 2 => ("GuessBench$Squares", "tops", "[J", true)
  | 3 => ("GuessBench$Squares", "symmetric", "[J", true)
  | 4 => ("GuessBench$Squares", "toldSquares", "J", false)
  | _ => ("GuessBench$Squares", "rank", "I", false)
def tyX8 : Nat → FieldType := fun k => match k with
  | 0 => .array .long
  | 1 => .array .long
  | 2 => .array .long
  | 3 => .array .long
  | 4 => .long
  | _ => .int
theorem nmX8 : ∀ a, a < 6 → ∀ b, b < 6 → a ≠ b → (TX8 a).2.1 ≠ (TX8 b).2.1 := by decide +kernel
theorem tyX8_ok : ∀ k, k < 6 → parseFieldDescriptor (TX8 k).2.2.1 = some (tyX8 k) := by decide +kernel
abbrev cX8_init : ByteArray := prog_10_method_1_code
def yX8_init : MethodName := ⟨RX8, "<init>", "()V"⟩
abbrev cX8_product : ByteArray := prog_10_method_2_code
def yX8_product : MethodName := ⟨RX8, "product", "([J[J)J"⟩
abbrev cX8_clear : ByteArray := prog_10_method_3_code
def yX8_clear : MethodName := ⟨RX8, "clear", "()V"⟩
abbrev cX8_add : ByteArray := prog_10_method_4_code
def yX8_add : MethodName := ⟨RX8, "add", "(LGuessBench$Table;I)V"⟩
abbrev cX8_copyColumns : ByteArray := prog_10_method_5_code
def yX8_copyColumns : MethodName := ⟨RX8, "copyColumns", "(LGuessBench$Squares;I)V"⟩
abbrev cX8_solve : ByteArray := prog_10_method_6_code
def yX8_solve : MethodName := ⟨RX8, "solve", "()V"⟩
abbrev cX8_measure : ByteArray := prog_10_method_7_code
def yX8_measure : MethodName := ⟨RX8, "measure", "()V"⟩
abbrev cX8_solveFor : ByteArray := prog_10_method_8_code
def yX8_solveFor : MethodName := ⟨RX8, "solveFor", "([J[J)V"⟩
abbrev cX8_rowProduct : ByteArray := prog_10_method_9_code
def yX8_rowProduct : MethodName := ⟨RX8, "rowProduct", "(IJJJ)J"⟩
abbrev cX8_bottom : ByteArray := prog_10_method_10_code
def yX8_bottom : MethodName := ⟨RX8, "bottom", "()J"⟩
abbrev cX8_leftTop : ByteArray := prog_10_method_11_code
def yX8_leftTop : MethodName := ⟨RX8, "leftTop", "()J"⟩
def RX9 : String := "GuessBench$Table"
def TX9 : u_T := fun k => match k with
  | 0 => ("GuessBench$Table", "numbers", "[I", true)
  | 1 => ("GuessBench$Table", "tolds", "[I", true)
  | 2 => ("GuessBench$Table", "kept", "[Z", true)
  | 3 => ("GuessBench$Table", "columns", "I", false)
  | 4 => ("GuessBench$Table", "rows", "I", false)
  | _ => ("GuessBench$Table", "keptRows", "I", false)
def tyX9 : Nat → FieldType := fun k => match k with
  | 0 => .array .int
  | 1 => .array .int
  | 2 => .array .boolean
  | 3 => .int
  | 4 => .int
  | _ => .int
theorem nmX9 : ∀ a, a < 6 → ∀ b, b < 6 → a ≠ b → (TX9 a).2.1 ≠ (TX9 b).2.1 := by decide +kernel
theorem tyX9_ok : ∀ k, k < 6 → parseFieldDescriptor (TX9 k).2.2.1 = some (tyX9 k) := by decide +kernel
abbrev cX9_init : ByteArray := prog_11_method_1_code
def yX9_init : MethodName := ⟨RX9, "<init>", "()V"⟩
abbrev cX9_clear : ByteArray := prog_11_method_2_code
def yX9_clear : MethodName := ⟨RX9, "clear", "(I)V"⟩
abbrev cX9_has : ByteArray := prog_11_method_3_code
def yX9_has : MethodName := ⟨RX9, "has", "(I)Z"⟩
abbrev cX9_hasColumn : ByteArray := prog_11_method_4_code
def yX9_hasColumn : MethodName := ⟨RX9, "hasColumn", "(I)Z"⟩
abbrev cX9_keeps : ByteArray := prog_11_method_5_code
def yX9_keeps : MethodName := ⟨RX9, "keeps", "(I)Z"⟩
abbrev cX9_keep : ByteArray := prog_11_method_6_code
def yX9_keep : MethodName := ⟨RX9, "keep", "(IZ)V"⟩
abbrev cX9_number : ByteArray := prog_11_method_7_code
def yX9_number : MethodName := ⟨RX9, "number", "(II)I"⟩
abbrev cX9_copyNumbers : ByteArray := prog_11_method_8_code
def yX9_copyNumbers : MethodName := ⟨RX9, "copyNumbers", "(I[J)V"⟩
abbrev cX9_add : ByteArray := prog_11_method_9_code
def yX9_add : MethodName := ⟨RX9, "add", "(IIII)I"⟩
abbrev cX9_isWithin : ByteArray := prog_11_method_10_code
def yX9_isWithin : MethodName := ⟨RX9, "isWithin", "(II)Z"⟩
def RX10 : String := "GuessBench"
def TX10 : u_T := fun k => match k with
  | 0 => ("GuessBench", "table", "LGuessBench$Table;", true)
  | 1 => ("GuessBench", "pool", "LGuessBench$Pool;", true)
  | 2 => ("GuessBench", "picks", "LGuessBench$Picks;", true)
  | 3 => ("GuessBench", "squares", "LGuessBench$Squares;", true)
  | 4 => ("GuessBench", "part", "LGuessBench$Squares;", true)
  | 5 => ("GuessBench", "given", "[J", true)
  | 6 => ("GuessBench", "solved", "[J", true)
  | 7 => ("GuessBench", "leastSizes", "LGuessBench$LeastSizes;", true)
  | 8 => ("GuessBench", "leastLevel", "LGuessBench$LeastLevel;", true)
  | 9 => ("GuessBench", "bars", "LGuessBench$Bars;", true)
  | 10 => ("GuessBench", "turns", "LGuessBench$Ratios;", true)
  | 11 => ("GuessBench", "bestFew", "LGuessBench$Best;", true)
  | 12 => ("GuessBench", "bestHalf", "LGuessBench$Best;", true)
  | 13 => ("GuessBench", "squaresKnown", "Z", false)
  | 14 => ("GuessBench", "poolKnown", "Z", false)
  | 15 => ("GuessBench", "sizesKnown", "Z", false)
  | 16 => ("GuessBench", "levelKnown", "Z", false)
  | 17 => ("GuessBench", "turnsKnown", "Z", false)
  | _ => ("GuessBench", "halfKnown", "I", false)
def tyX10 : Nat → FieldType := fun k => match k with
  | 0 => .object "GuessBench$Table"
  | 1 => .object "GuessBench$Pool"
  | 2 => .object "GuessBench$Picks"
  | 3 => .object "GuessBench$Squares"
  | 4 => .object "GuessBench$Squares"
  | 5 => .array .long
  | 6 => .array .long
  | 7 => .object "GuessBench$LeastSizes"
  | 8 => .object "GuessBench$LeastLevel"
  | 9 => .object "GuessBench$Bars"
  | 10 => .object "GuessBench$Ratios"
  | 11 => .object "GuessBench$Best"
  | 12 => .object "GuessBench$Best"
  | 13 => .boolean
  | 14 => .boolean
  | 15 => .boolean
  | 16 => .boolean
  | 17 => .boolean
  | _ => .int
theorem nmX10 : ∀ a, a < 19 → ∀ b, b < 19 → a ≠ b → (TX10 a).2.1 ≠ (TX10 b).2.1 := by decide +kernel
theorem tyX10_ok : ∀ k, k < 19 → parseFieldDescriptor (TX10 k).2.2.1 = some (tyX10 k) := by decide +kernel
abbrev cX10_init : ByteArray := prog_1_method_1_code
def yX10_init : MethodName := ⟨RX10, "<init>", "()V"⟩
abbrev cX10_start : ByteArray := prog_1_method_2_code
def yX10_start : MethodName := ⟨RX10, "start", "(I)Z"⟩
abbrev cX10_row : ByteArray := prog_1_method_3_code
def yX10_row : MethodName := ⟨RX10, "row", "(IIII)I"⟩
abbrev cX10_set : ByteArray := prog_1_method_4_code
def yX10_set : MethodName := ⟨RX10, "set", "(IZ)Z"⟩
abbrev cX10_at : ByteArray := prog_1_method_5_code
def yX10_at : MethodName := ⟨RX10, "at", "(II)I"⟩
abbrev cX10_there : ByteArray := prog_1_method_6_code
def yX10_there : MethodName := ⟨RX10, "there", "(I)Z"⟩
abbrev cX10_free : ByteArray := prog_1_method_7_code
def yX10_free : MethodName := ⟨RX10, "free", "()I"⟩
abbrev cX10_weight : ByteArray := prog_1_method_8_code
def yX10_weight : MethodName := ⟨RX10, "weight", "(II)J"⟩
abbrev cX10_miss : ByteArray := prog_1_method_9_code
def yX10_miss : MethodName := ⟨RX10, "miss", "(II)J"⟩
abbrev cX10_sum : ByteArray := prog_1_method_10_code
def yX10_sum : MethodName := ⟨RX10, "sum", "(I)J"⟩
abbrev cX10_pull : ByteArray := prog_1_method_11_code
def yX10_pull : MethodName := ⟨RX10, "pull", "(II)J"⟩
abbrev cX10_without : ByteArray := prog_1_method_12_code
def yX10_without : MethodName := ⟨RX10, "without", "(III)J"⟩
abbrev cX10_far : ByteArray := prog_1_method_13_code
def yX10_far : MethodName := ⟨RX10, "far", "(III)J"⟩
abbrev cX10_few : ByteArray := prog_1_method_14_code
def yX10_few : MethodName := ⟨RX10, "few", "(II)J"⟩
abbrev cX10_half : ByteArray := prog_1_method_15_code
def yX10_half : MethodName := ⟨RX10, "half", "(II)J"⟩
abbrev cX10_sizes : ByteArray := prog_1_method_16_code
def yX10_sizes : MethodName := ⟨RX10, "sizes", "(I)J"⟩
abbrev cX10_sized : ByteArray := prog_1_method_17_code
def yX10_sized : MethodName := ⟨RX10, "sized", "(II)J"⟩
abbrev cX10_level : ByteArray := prog_1_method_18_code
def yX10_level : MethodName := ⟨RX10, "level", "(I)J"⟩
abbrev cX10_barred : ByteArray := prog_1_method_19_code
def yX10_barred : MethodName := ⟨RX10, "barred", "(III)J"⟩
abbrev cX10_cost : ByteArray := prog_1_method_20_code
def yX10_cost : MethodName := ⟨RX10, "cost", "(II)J"⟩
abbrev cX10_corners : ByteArray := prog_1_method_21_code
def yX10_corners : MethodName := ⟨RX10, "corners", "()I"⟩
abbrev cX10_corner : ByteArray := prog_1_method_22_code
def yX10_corner : MethodName := ⟨RX10, "corner", "(II)J"⟩
abbrev cX10_count : ByteArray := prog_1_method_23_code
def yX10_count : MethodName := ⟨RX10, "count", "(I)I"⟩
abbrev cX10_isBar : ByteArray := prog_1_method_24_code
def yX10_isBar : MethodName := ⟨RX10, "isBar", "(I)Z"⟩
abbrev cX10_isWhole : ByteArray := prog_1_method_25_code
def yX10_isWhole : MethodName := ⟨RX10, "isWhole", "()Z"⟩
abbrev cX10_forget : ByteArray := prog_1_method_26_code
def yX10_forget : MethodName := ⟨RX10, "forget", "()V"⟩
abbrev cX10_squaresNow : ByteArray := prog_1_method_27_code
def yX10_squaresNow : MethodName := ⟨RX10, "squaresNow", "()LGuessBench$Squares;"⟩
abbrev cX10_poolNow : ByteArray := prog_1_method_28_code
def yX10_poolNow : MethodName := ⟨RX10, "poolNow", "()LGuessBench$Pool;"⟩
abbrev cX10_sizesNow : ByteArray := prog_1_method_29_code
def yX10_sizesNow : MethodName := ⟨RX10, "sizesNow", "()LGuessBench$LeastSizes;"⟩
abbrev cX10_turnsNow : ByteArray := prog_1_method_30_code
def yX10_turnsNow : MethodName := ⟨RX10, "turnsNow", "()LGuessBench$Ratios;"⟩
abbrev cX10_findHalf : ByteArray := prog_1_method_31_code
def yX10_findHalf : MethodName := ⟨RX10, "findHalf", "(I)V"⟩
def RX11 : String := "GuessBenchModel"
def TX11 : u_T := fun k => match k with
  | 0 => ("GuessBenchModel", "columns", "I", false)
  | 1 => ("GuessBenchModel", "rows", "I", false)
  | 2 => ("GuessBenchModel", "x", "[[I", true)
  | 3 => ("GuessBenchModel", "y", "[I", true)
  | 4 => ("GuessBenchModel", "there", "[Z", true)
  | 5 => ("GuessBenchModel", "use", "[Z", true)
  | 6 => ("GuessBenchModel", "g", "[[J", true)
  | 7 => ("GuessBenchModel", "h", "[J", true)
  | 8 => ("GuessBenchModel", "yy", "J", false)
  | 9 => ("GuessBenchModel", "col", "[I", true)
  | 10 => ("GuessBenchModel", "k", "I", false)
  | 11 => ("GuessBenchModel", "m", "[[J", true)
  | 12 => ("GuessBenchModel", "v", "[J", true)
  | 13 => ("GuessBenchModel", "w", "[J", true)
  | 14 => ("GuessBenchModel", "den", "J", false)
  | 15 => ("GuessBenchModel", "normal", "[J", true)
  | 16 => ("GuessBenchModel", "one", "I", false)
  | 17 => ("GuessBenchModel", "two", "I", false)
  | 18 => ("GuessBenchModel", "other", "[J", true)
  | 19 => ("GuessBenchModel", "pick", "[I", true)
  | 20 => ("GuessBenchModel", "pick2", "[I", true)
  | 21 => ("GuessBenchModel", "bestTop", "J", false)
  | 22 => ("GuessBenchModel", "bestLow", "J", false)
  | 23 => ("GuessBenchModel", "bestW", "[J", true)
  | 24 => ("GuessBenchModel", "bestDen", "J", false)
  | 25 => ("GuessBenchModel", "sign", "[I", true)
  | 26 => ("GuessBenchModel", "active", "[I", true)
  | 27 => ("GuessBenchModel", "actives", "I", false)
  | 28 => ("GuessBenchModel", "base", "[J", true)
  | 29 => ("GuessBenchModel", "slope", "[J", true)
  | 30 => ("GuessBenchModel", "det", "J", false)
  | 31 => ("GuessBenchModel", "lowTop", "J", false)
  | 32 => ("GuessBenchModel", "lowLow", "J", false)
  | 33 => ("GuessBenchModel", "highTop", "J", false)
  | 34 => ("GuessBenchModel", "highLow", "J", false)
  | 35 => ("GuessBenchModel", "holds", "Z", false)
  | 36 => ("GuessBenchModel", "cornerTop", "[J", true)
  | 37 => ("GuessBenchModel", "cornerLow", "[J", true)
  | _ => ("GuessBenchModel", "cornerMany", "I", false)
def tyX11 : Nat → FieldType := fun k => match k with
  | 0 => .int
  | 1 => .int
  | 2 => .array (.array .int)
  | 3 => .array .int
  | 4 => .array .boolean
  | 5 => .array .boolean
  | 6 => .array (.array .long)
  | 7 => .array .long
  | 8 => .long
  | 9 => .array .int
  | 10 => .int
  | 11 => .array (.array .long)
  | 12 => .array .long
  | 13 => .array .long
  | 14 => .long
  | 15 => .array .long
  | 16 => .int
  | 17 => .int
  | 18 => .array .long
  | 19 => .array .int
  | 20 => .array .int
  | 21 => .long
  | 22 => .long
  | 23 => .array .long
  | 24 => .long
  | 25 => .array .int
  | 26 => .array .int
  | 27 => .int
  | 28 => .array .long
  | 29 => .array .long
  | 30 => .long
  | 31 => .long
  | 32 => .long
  | 33 => .long
  | 34 => .long
  | 35 => .boolean
  | 36 => .array .long
  | 37 => .array .long
  | _ => .int
theorem nmX11 : ∀ a, a < 39 → ∀ b, b < 39 → a ≠ b → (TX11 a).2.1 ≠ (TX11 b).2.1 := by decide +kernel
theorem tyX11_ok : ∀ k, k < 39 → parseFieldDescriptor (TX11 k).2.2.1 = some (tyX11 k) := by decide +kernel
abbrev cX11_init : ByteArray := prog_13_method_1_code
def yX11_init : MethodName := ⟨RX11, "<init>", "()V"⟩
abbrev cX11_divisor : ByteArray := prog_13_method_2_code
def yX11_divisor : MethodName := ⟨RX11, "divisor", "(JJ)J"⟩
abbrev cX11_told : ByteArray := prog_13_method_3_code
def yX11_told : MethodName := ⟨RX11, "told", "(JJI)J"⟩
abbrev cX11_compare : ByteArray := prog_13_method_4_code
def yX11_compare : MethodName := ⟨RX11, "compare", "(JJJJ)I"⟩
abbrev cX11_all : ByteArray := prog_13_method_5_code
def yX11_all : MethodName := ⟨RX11, "all", "()V"⟩
abbrev cX11_take : ByteArray := prog_13_method_6_code
def yX11_take : MethodName := ⟨RX11, "take", "(I)V"⟩
abbrev cX11_minor : ByteArray := prog_13_method_7_code
def yX11_minor : MethodName := ⟨RX11, "minor", "(II)J"⟩
abbrev cX11_determinant : ByteArray := prog_13_method_8_code
def yX11_determinant : MethodName := ⟨RX11, "determinant", "(I)J"⟩
abbrev cX11_solve : ByteArray := prog_13_method_9_code
def yX11_solve : MethodName := ⟨RX11, "solve", "(I)V"⟩
abbrev cX11_copy : ByteArray := prog_13_method_10_code
def yX11_copy : MethodName := ⟨RX11, "copy", "(I)V"⟩
abbrev cX11_rank : ByteArray := prog_13_method_11_code
def yX11_rank : MethodName := ⟨RX11, "rank", "()I"⟩
abbrev cX11_cross : ByteArray := prog_13_method_12_code
def yX11_cross : MethodName := ⟨RX11, "cross", "(II)V"⟩
abbrev cX11_fit : ByteArray := prog_13_method_13_code
def yX11_fit : MethodName := ⟨RX11, "fit", "([J)V"⟩
abbrev cX11_alongOne : ByteArray := prog_13_method_14_code
def yX11_alongOne : MethodName := ⟨RX11, "alongOne", "([JI)V"⟩
abbrev cX11_missed : ByteArray := prog_13_method_15_code
def yX11_missed : MethodName := ⟨RX11, "missed", "()J"⟩
abbrev cX11_squares : ByteArray := prog_13_method_16_code
def yX11_squares : MethodName := ⟨RX11, "squares", "()V"⟩
abbrev cX11_start : ByteArray := prog_13_method_17_code
def yX11_start : MethodName := ⟨RX11, "start", "(I)Z"⟩
abbrev cX11_isNumber : ByteArray := prog_13_method_18_code
def yX11_isNumber : MethodName := ⟨RX11, "isNumber", "(I)Z"⟩
abbrev cX11_row : ByteArray := prog_13_method_19_code
def yX11_row : MethodName := ⟨RX11, "row", "(IIII)I"⟩
abbrev cX11_isRow : ByteArray := prog_13_method_20_code
def yX11_isRow : MethodName := ⟨RX11, "isRow", "(I)Z"⟩
abbrev cX11_isColumn : ByteArray := prog_13_method_21_code
def yX11_isColumn : MethodName := ⟨RX11, "isColumn", "(I)Z"⟩
abbrev cX11_set : ByteArray := prog_13_method_22_code
def yX11_set : MethodName := ⟨RX11, "set", "(IZ)Z"⟩
abbrev cX11_at : ByteArray := prog_13_method_23_code
def yX11_at : MethodName := ⟨RX11, "at", "(II)I"⟩
abbrev cX11_there : ByteArray := prog_13_method_24_code
def yX11_there : MethodName := ⟨RX11, "there", "(I)Z"⟩
abbrev cX11_free : ByteArray := prog_13_method_25_code
def yX11_free : MethodName := ⟨RX11, "free", "()I"⟩
abbrev cX11_weight : ByteArray := prog_13_method_26_code
def yX11_weight : MethodName := ⟨RX11, "weight", "(II)J"⟩
abbrev cX11_miss : ByteArray := prog_13_method_27_code
def yX11_miss : MethodName := ⟨RX11, "miss", "(II)J"⟩
abbrev cX11_sum : ByteArray := prog_13_method_28_code
def yX11_sum : MethodName := ⟨RX11, "sum", "(I)J"⟩
abbrev cX11_pull : ByteArray := prog_13_method_29_code
def yX11_pull : MethodName := ⟨RX11, "pull", "(II)J"⟩
abbrev cX11_fitRow : ByteArray := prog_13_method_30_code
def yX11_fitRow : MethodName := ⟨RX11, "fitRow", "(I)V"⟩
abbrev cX11_without : ByteArray := prog_13_method_31_code
def yX11_without : MethodName := ⟨RX11, "without", "(III)J"⟩
abbrev cX11_far : ByteArray := prog_13_method_32_code
def yX11_far : MethodName := ⟨RX11, "far", "(III)J"⟩
abbrev cX11_few : ByteArray := prog_13_method_33_code
def yX11_few : MethodName := ⟨RX11, "few", "(II)J"⟩
abbrev cX11_begins : ByteArray := prog_13_method_34_code
def yX11_begins : MethodName := ⟨RX11, "begins", "(I)Z"⟩
abbrev cX11_behind : ByteArray := prog_13_method_35_code
def yX11_behind : MethodName := ⟨RX11, "behind", "(I)I"⟩
abbrev cX11_next : ByteArray := prog_13_method_36_code
def yX11_next : MethodName := ⟨RX11, "next", "(I)Z"⟩
abbrev cX11_manyThere : ByteArray := prog_13_method_37_code
def yX11_manyThere : MethodName := ⟨RX11, "manyThere", "()I"⟩
abbrev cX11_half : ByteArray := prog_13_method_38_code
def yX11_half : MethodName := ⟨RX11, "half", "(II)J"⟩
abbrev cX11_isWhole : ByteArray := prog_13_method_39_code
def yX11_isWhole : MethodName := ⟨RX11, "isWhole", "()Z"⟩
abbrev cX11_fitsSet : ByteArray := prog_13_method_40_code
def yX11_fitsSet : MethodName := ⟨RX11, "fitsSet", "()Z"⟩
abbrev cX11_findSizes : ByteArray := prog_13_method_41_code
def yX11_findSizes : MethodName := ⟨RX11, "findSizes", "()V"⟩
abbrev cX11_sizes : ByteArray := prog_13_method_42_code
def yX11_sizes : MethodName := ⟨RX11, "sizes", "(I)J"⟩
abbrev cX11_sized : ByteArray := prog_13_method_43_code
def yX11_sized : MethodName := ⟨RX11, "sized", "(II)J"⟩
abbrev cX11_level : ByteArray := prog_13_method_44_code
def yX11_level : MethodName := ⟨RX11, "level", "(I)J"⟩
abbrev cX11_pattern : ByteArray := prog_13_method_45_code
def yX11_pattern : MethodName := ⟨RX11, "pattern", "(I)V"⟩
abbrev cX11_patterns : ByteArray := prog_13_method_46_code
def yX11_patterns : MethodName := ⟨RX11, "patterns", "(I)I"⟩
abbrev cX11_isRight : ByteArray := prog_13_method_47_code
def yX11_isRight : MethodName := ⟨RX11, "isRight", "(J)Z"⟩
abbrev cX11_findPattern : ByteArray := prog_13_method_48_code
def yX11_findPattern : MethodName := ⟨RX11, "findPattern", "(J)Z"⟩
abbrev cX11_barred : ByteArray := prog_13_method_49_code
def yX11_barred : MethodName := ⟨RX11, "barred", "(III)J"⟩
abbrev cX11_cost : ByteArray := prog_13_method_50_code
def yX11_cost : MethodName := ⟨RX11, "cost", "(II)J"⟩
abbrev cX11_bound : ByteArray := prog_13_method_51_code
def yX11_bound : MethodName := ⟨RX11, "bound", "(JJZ)V"⟩
abbrev cX11_range : ByteArray := prog_13_method_52_code
def yX11_range : MethodName := ⟨RX11, "range", "()V"⟩
abbrev cX11_corner : ByteArray := prog_13_method_53_code
def yX11_corner : MethodName := ⟨RX11, "corner", "(JJ)V"⟩
abbrev cX11_findCorners : ByteArray := prog_13_method_54_code
def yX11_findCorners : MethodName := ⟨RX11, "findCorners", "()V"⟩
abbrev cX11_corners : ByteArray := prog_13_method_55_code
def yX11_corners : MethodName := ⟨RX11, "corners", "()I"⟩
abbrev cX11_corner_ : ByteArray := prog_13_method_56_code
def yX11_corner_ : MethodName := ⟨RX11, "corner", "(II)J"⟩
abbrev cX11_count : ByteArray := prog_13_method_57_code
def yX11_count : MethodName := ⟨RX11, "count", "(I)I"⟩
def RJ6 : String := "java/lang/Integer"
def TJ6 : u_T := fun k => match k with
  | _ => ("", "", "", false)
def tyJ6 : Nat → FieldType := fun k => match k with
  | _ => .int
theorem nmJ6 : ∀ a, a < 0 → ∀ b, b < 0 → a ≠ b → (TJ6 a).2.1 ≠ (TJ6 b).2.1 := by decide +kernel
theorem tyJ6_ok : ∀ k, k < 0 → parseFieldDescriptor (TJ6 k).2.2.1 = some (tyJ6 k) := by decide +kernel
abbrev cJ6_bitCount_0f7a4 : ByteArray := prog_14_method_49_code
def yJ6_bitCount_0f7a4 : MethodName := ⟨RJ6, "bitCount", "(I)I"⟩
def RJ13 : String := "java/lang/Long"
def TJ13 : u_T := fun k => match k with
  | _ => ("", "", "", false)
def tyJ13 : Nat → FieldType := fun k => match k with
  | _ => .int
theorem nmJ13 : ∀ a, a < 0 → ∀ b, b < 0 → a ≠ b → (TJ13 a).2.1 ≠ (TJ13 b).2.1 := by decide +kernel
theorem tyJ13_ok : ∀ k, k < 0 → parseFieldDescriptor (TJ13 k).2.2.1 = some (tyJ13 k) := by decide +kernel
abbrev cJ13_signum_95d88 : ByteArray := prog_15_method_57_code
def yJ13_signum_95d88 : MethodName := ⟨RJ13, "signum", "(J)I"⟩
def RJ9 : String := "java/lang/Math"
def TJ9 : u_T := fun k => match k with
  | _ => ("", "", "", false)
def tyJ9 : Nat → FieldType := fun k => match k with
  | _ => .int
theorem nmJ9 : ∀ a, a < 0 → ∀ b, b < 0 → a ≠ b → (TJ9 a).2.1 ≠ (TJ9 b).2.1 := by decide +kernel
theorem tyJ9_ok : ∀ k, k < 0 → parseFieldDescriptor (TJ9 k).2.2.1 = some (tyJ9 k) := by decide +kernel
abbrev cJ9_floorDiv_f86c9 : ByteArray := prog_16_method_49_code
def yJ9_floorDiv_f86c9 : MethodName := ⟨RJ9, "floorDiv", "(JJ)J"⟩
abbrev cJ9_abs_0f7a4 : ByteArray := prog_16_method_59_code
def yJ9_abs_0f7a4 : MethodName := ⟨RJ9, "abs", "(I)I"⟩
abbrev cJ9_abs_067f4 : ByteArray := prog_16_method_61_code
def yJ9_abs_067f4 : MethodName := ⟨RJ9, "abs", "(J)J"⟩
def RL : String := "GuessBenchLaw"
abbrev cL_law : ByteArray := code
def yL_law : MethodName := ⟨RL, "law", "([I)Z"⟩
abbrev vwCl : List vw_C := [(RX0, TX0, 9), (RX1, TX1, 4), (RX3, TX3, 3), (RX4, TX4, 7), (RX5, TX5, 3), (RX6, TX6, 6), (RX7, TX7, 3), (RX8, TX8, 6), (RX9, TX9, 6), (RX10, TX10, 19), (RX11, TX11, 39)]
