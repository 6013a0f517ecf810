def WModel (G : x_G) (a : Nat → Nat) (now : (Nat → Int32)) (kept : (Nat → Int32)) (isKept : (Nat → Int32)) (rows : (Nat → Int32)) (rowLong : (Nat → Int32)) (texts : (Nat → Int32)) (textLong : (Nat → Int32)) (found : (Nat → Int32)) (taken : (Nat → Int32)) (anew : (Nat → Int32)) (hand : (Nat → Int32)) (steps : (Nat → Int32)) (shares : (Nat → Int32)) (choices : (Nat → Int32)) (values : (Nat → Int32)) (latest : Int32) (askedIs : Int32) (above : Int64) (below : Int64) (place : Int32) (partedBy : Int32) : va_W :=
  [(a 0, .inr (5, [.ref (a 1), .ref (a 2), .ref (a 3), .ref (a 4), .ref (a 5), .ref (a 6), .ref (a 7), .ref (a 8), .int latest, .int askedIs, .long above, .long below, .ref (a 9), .ref (a 10), .int place, .int partedBy, .ref (a 11), .ref (a 12), .ref (a 13), .ref (a 14), .ref (a 15)])), (a 1, .inl (G.2 0, 85, .inl now)), (a 2, .inl (G.2 0, 255, .inl kept)), (a 3, .inl (G.2 1, 3, .inl isKept)), (a 4, .inl (G.2 0, 240, .inl rows)), (a 5, .inl (G.2 0, 6, .inl rowLong)), (a 6, .inl (G.2 0, 240, .inl texts)), (a 7, .inl (G.2 0, 4, .inl textLong)), (a 8, .inl (G.2 0, 6, .inl found)), (a 9, .inl (G.2 0, 40, .inl taken)), (a 10, .inl (G.2 0, 85, .inl anew)), (a 11, .inl (G.2 0, 85, .inl hand)), (a 12, .inl (G.2 0, 4, .inl steps)), (a 13, .inl (G.2 0, 6, .inl shares)), (a 14, .inl (G.2 0, 6, .inl choices)), (a 15, .inl (G.2 0, 6, .inl values))]
theorem pk_X7_in : x_ps yX7_in cX7_in 6 (some .boolean) 3 := ⟨⟨co_X7_in, ni_X7, by decide, by decide +kernel⟩, sm_X7_in⟩
def M_X7_in (x0 : Int64) (x2 : Int64) (x4 : Int64) : Int32 :=
  if (lg_cmp x0 x2) < 0 then
  ((0 : Int32))
  else
  (if 0 < (lg_cmp x0 x4) then
  ((0 : Int32))
  else
  ((1 : Int32)))
theorem M_X7_in_b {x0 : Int64} {x2 : Int64} {x4 : Int64} : narrow .boolean (.int (M_X7_in x0 x2 x4)) = .int (M_X7_in x0 x2 x4) := by
  simp only [M_X7_in]
  repeat' split
  all_goals first | rfl
set_option maxHeartbeats 4000000 in
set_option maxRecDepth 100000 in
theorem c_X7_in {G : x_G} {l : Launch} {x0 : Int64} {x2 : Int64} {x4 : Int64} {res : Int32} (h : M_X7_in x0 x2 x4 = res) : x_M G l yX7_in cX7_in 6 (some .boolean) (0) 0 0 [.long x0, .long x2, .long x4] ([] : va_W) (x_is (some (.int res)) ([] : va_W)) := by
  unfold M_X7_in at h
  refine x_enter (ini := false) (by decide) rfl (by decide) rfl (Nat.le_of_ble_eq_true rfl) ?_
  refine x_lload_n dX7_in_0 0 rfl rfl ?_
  refine x_lload_n dX7_in_1 1 rfl rfl ?_
  refine x_lcmp dX7_in_2 ?_
  refine x_if_lt 17 dX7_in_3 (by decide) (fun c1 => ?_) (fun c1 => ?_)
  · have h := x_pos c1 h
    refine x_iconst 0 dX7_in_17 (by decide) ?_
    subst h
    exact x_ireturn dX7_in_18 rfl (x_is.rf _ _)
  · have h := x_neg c1 h
    refine x_lload_n dX7_in_6 0 rfl rfl ?_
    refine x_lload dX7_in_7 2 rfl ?_
    refine x_lcmp dX7_in_9 ?_
    refine x_if_gt 17 dX7_in_10 (by decide) (fun c2 => ?_) (fun c2 => ?_)
    · have h := x_pos c2 h
      refine x_iconst 0 dX7_in_17 (by decide) ?_
      subst h
      exact x_ireturn dX7_in_18 rfl (x_is.rf _ _)
    · have h := x_neg c2 h
      refine x_iconst 1 dX7_in_13 (by decide) ?_
      refine x_goto 18 dX7_in_14 (by decide) ?_
      subst h
      exact x_ireturn dX7_in_18 rfl (x_is.rf _ _)
theorem pk_X7_isRow : x_ps yX7_isRow cX7_isRow 1 (some .boolean) 1 := ⟨⟨co_X7_isRow, ni_X7, by decide, by decide +kernel⟩, sm_X7_isRow⟩
def M_X7_isRow (x0 : Int32) : Int32 :=
  (M_X7_in x0.toInt64 (0 : Int64) (5 : Int64))
theorem M_X7_isRow_b {x0 : Int32} : narrow .boolean (.int (M_X7_isRow x0)) = .int (M_X7_isRow x0) := by
  simp only [M_X7_isRow]
  repeat' split
  all_goals first | rfl | exact M_X7_in_b
set_option maxHeartbeats 4000000 in
set_option maxRecDepth 100000 in
theorem c_X7_isRow {G : x_G} {l : Launch} {x0 : Int32} {res : Int32} (h : M_X7_isRow x0 = res) : x_M G l yX7_isRow cX7_isRow 1 (some .boolean) (1) 0 0 [.int x0] ([] : va_W) (x_is (some (.int res)) ([] : va_W)) := by
  unfold M_X7_isRow at h
  refine x_enter (ini := false) (by decide) rfl (by decide) rfl (Nat.le_of_ble_eq_true rfl) ?_
  refine x_iload_n dX7_isRow_0 0 rfl rfl ?_
  refine x_i2l dX7_isRow_1 ?_
  refine x_lconst 0 dX7_isRow_2 (by decide) ?_
  refine x_ldc2 dX7_isRow_3 kl_X7_67 ?_
  refine x_cS (As := [.long x0.toInt64, .long (0 : Int64), .long (5 : Int64)]) (wc := ([] : va_W)) (w1 := ([] : va_W)) (pre := []) (post := ([] : va_W)) (rest := []) (st1 := [.int (M_X7_in x0.toInt64 (0 : Int64) (5 : Int64))]) (ws1 := ([] : va_W)) dX7_isRow_6 (c_X7_in rfl) pk_X7_in ml_X7_69 rfl rfl rfl rfl rfl rfl rfl ?_
  subst h
  exact x_ireturn dX7_isRow_9 M_X7_in_b (x_is.rf _ _)
theorem pk_X7_finds : x_pv RX7 yX7_finds cX7_finds 2 (some .int) 1 := ⟨⟨co_X7_finds, ni_X7, by decide, by decide +kernel⟩, im_X7_finds, se_X7_finds⟩
def M_X7_finds (found : (Nat → Int32)) (latest : Int32) (x1 : Int32) : Option (Int32 × (Nat → Int32) × Int32) :=
  if inb x1 6 then
  some ((-3 : Int32), (upd found x1.toNatClampNeg ((found x1.toNatClampNeg) + (1 : Int32))), x1)
  else none
set_option maxHeartbeats 4000000 in
set_option maxRecDepth 100000 in
theorem c_X7_finds {G : x_G} {l : Launch} {a : Nat → Nat} {now : (Nat → Int32)} {kept : (Nat → Int32)} {isKept : (Nat → Int32)} {rows : (Nat → Int32)} {rowLong : (Nat → Int32)} {texts : (Nat → Int32)} {textLong : (Nat → Int32)} {taken : (Nat → Int32)} {anew : (Nat → Int32)} {hand : (Nat → Int32)} {steps : (Nat → Int32)} {shares : (Nat → Int32)} {choices : (Nat → Int32)} {values : (Nat → Int32)} {askedIs : Int32} {above : Int64} {below : Int64} {place : Int32} {partedBy : Int32} {found : (Nat → Int32)} {latest : Int32} {x1 : Int32} {res : Int32 × (Nat → Int32) × Int32} (h : M_X7_finds found latest x1 = some res) : x_M G l yX7_finds cX7_finds 2 (some .int) (0) 0 0 [.ref (a 0), .int x1] (WModel G a now kept isKept rows rowLong texts textLong found taken anew hand steps shares choices values latest askedIs above below place partedBy) (x_is (some (.int res.1)) (WModel G a now kept isKept rows rowLong texts textLong res.2.1 taken anew hand steps shares choices values res.2.2 askedIs above below place partedBy)) := by
  unfold M_X7_finds at h
  refine x_enter (ini := false) (by decide) rfl (by decide) rfl (Nat.le_of_ble_eq_true rfl) ?_
  refine x_aload_n dX7_finds_0 0 rfl rfl ?_
  refine x_iload_n dX7_finds_1 1 rfl rfl ?_
  refine x_put (ci := 5) (ty := .int) 8 0 (WModel G a now kept isKept rows rowLong texts textLong found taken anew hand steps shares choices values x1 askedIs above below place partedBy) dX7_finds_2 fl_X7_60 inX7 tyX7_ok nmX7 rfl (by decide) ⟨rfl, rfl, rfl, rfl, rfl⟩ rfl rfl rfl rfl rfl ?_
  refine x_aload_n dX7_finds_5 0 rfl rfl ?_
  refine x_get (ci := 5) 7 0 dX7_finds_6 fl_X7_32 inX7 rfl (by decide) ⟨rfl, rfl, rfl⟩ rfl rfl ?_
  refine x_iload_n dX7_finds_9 1 rfl rfl ?_
  refine x_dup2 dX7_finds_10 rfl rfl ?_
  obtain ⟨b1, h⟩ := x_guard h
  refine x_iald x1.toNatClampNeg (q0 := 8) dX7_finds_11 rfl rfl b1 ?_
  refine x_iconst 1 dX7_finds_12 (by decide) ?_
  refine x_iadd dX7_finds_13 ?_
  refine x_iast x1.toNatClampNeg (q0 := 8) (WModel G a now kept isKept rows rowLong texts textLong ((upd found x1.toNatClampNeg ((found x1.toNatClampNeg) + (1 : Int32)))) taken anew hand steps shares choices values x1 askedIs above below place partedBy) dX7_finds_14 rfl rfl b1 rfl ?_
  refine x_bipush (-3 : Int32) dX7_finds_15 (by decide) ?_
  cases h
  exact x_ireturn dX7_finds_17 rfl (x_is.rf _ _)
theorem pk_X7_row : x_pv RX7 yX7_row cX7_row 4 (some .int) 2 := ⟨⟨co_X7_row, ni_X7, by decide, by decide +kernel⟩, im_X7_row, se_X7_row⟩
def M_X7_row_b34 : Nat → (Nat → Int32) → (Nat → Int32) → (Nat → Int32) → Int32 → Int32 → Int32 → Int32 → Option (Int32 × (Nat → Int32) × (Nat → Int32) × (Nat → Int32) × Int32)
  | 0, _, _, _, _, _, _, _ => none
  | n + 1, rows, rowLong, found, latest, x1, x2, x3 =>
    if x2 ≤ x3 then
    (some (x2, rows, rowLong, found, latest))
    else
    (if inb (((40 : Int32) * x1) + x3) 240 then
    M_X7_row_b34 n (upd rows (((40 : Int32) * x1) + x3).toNatClampNeg (0 : Int32)) rowLong found latest x1 x2 (x3 + (1 : Int32))
    else none)
set_option maxHeartbeats 4000000 in
set_option maxRecDepth 100000 in
theorem w_X7_row_b34 {G : x_G} {l : Launch} {a : Nat → Nat} {now : (Nat → Int32)} {kept : (Nat → Int32)} {isKept : (Nat → Int32)} {texts : (Nat → Int32)} {textLong : (Nat → Int32)} {taken : (Nat → Int32)} {anew : (Nat → Int32)} {hand : (Nat → Int32)} {steps : (Nat → Int32)} {shares : (Nat → Int32)} {choices : (Nat → Int32)} {values : (Nat → Int32)} {askedIs : Int32} {above : Int64} {below : Int64} {place : Int32} {partedBy : Int32} {res : Int32 × (Nat → Int32) × (Nat → Int32) × (Nat → Int32) × Int32} : ∀ (n : Nat) (rows : (Nat → Int32)) (rowLong : (Nat → Int32)) (found : (Nat → Int32)) (latest : Int32) (x1 : Int32) (x2 : Int32) (x3 : Int32), M_X7_row_b34 n rows rowLong found latest x1 x2 x3 = some res → X G l RX7 cX7_row 4 (x_R 2 0 0) (x_Cm G (some .int) false (x_is (some (.int res.1)) (WModel G a now kept isKept res.2.1 res.2.2.1 texts textLong res.2.2.2.1 taken anew hand steps shares choices values res.2.2.2.2 askedIs above below place partedBy)) 0 0) 0 0 34 [(0, .ref (a 0)), (1, .int x1), (2, .int x2), (3, .int x3)] [] (WModel G a now kept isKept rows rowLong texts textLong found taken anew hand steps shares choices values latest askedIs above below place partedBy) := by
  intro n
  induction n with
  | zero =>
    intro _ _ _ _ _ _ _ h
    cases h
  | succ n ih =>
    intro rows rowLong found latest x1 x2 x3 h
    rw [M_X7_row_b34] at h
    refine x_iload_n dX7_row_34 3 rfl rfl ?_
    refine x_iload_n dX7_row_35 2 rfl rfl ?_
    refine x_icmp_ge 57 dX7_row_36 (by decide) (fun c1 => ?_) (fun c1 => ?_)
    · have h := x_pos c1 h
      refine x_iload_n dX7_row_57 2 rfl rfl ?_
      cases h
      exact x_ireturn dX7_row_58 rfl (x_is.rf _ _)
    · have h := x_neg c1 h
      refine x_aload_n dX7_row_39 0 rfl rfl ?_
      refine x_get (ci := 5) 3 0 dX7_row_40 fl_X7_20 inX7 rfl (by decide) ⟨rfl, rfl, rfl⟩ rfl rfl ?_
      refine x_bipush 40 dX7_row_43 (by decide) ?_
      refine x_iload_n dX7_row_45 1 rfl rfl ?_
      refine x_imul dX7_row_46 ?_
      refine x_iload_n dX7_row_47 3 rfl rfl ?_
      refine x_iadd dX7_row_48 ?_
      refine x_iconst 0 dX7_row_49 (by decide) ?_
      obtain ⟨b2, h⟩ := x_guard h
      refine x_iast (((40 : Int32) * x1) + x3).toNatClampNeg (q0 := 4) (WModel G a now kept isKept ((upd rows (((40 : Int32) * x1) + x3).toNatClampNeg (0 : Int32))) rowLong texts textLong found taken anew hand steps shares choices values latest askedIs above below place partedBy) dX7_row_50 rfl rfl b2 rfl ?_
      refine x_iinc (j := 3) (1 : Int32) [(3, .int (x3 + (1 : Int32))), (0, .ref (a 0)), (1, .int x1), (2, .int x2)] dX7_row_51 (by decide) rfl (by decide) rfl ?_
      refine x_goto 34 dX7_row_54 (by decide) ?_
      refine x_lv [1, 2, 3, 0] rfl ?_
      exact ih _ _ _ _ _ _ _ h
def M_X7_row (rows : (Nat → Int32)) (rowLong : (Nat → Int32)) (found : (Nat → Int32)) (latest : Int32) (x1 : Int32) (x2 : Int32) : Option (Int32 × (Nat → Int32) × (Nat → Int32) × (Nat → Int32) × Int32) :=
  if (M_X7_isRow x1) = 0 then
  (some ((-1 : Int32), rows, rowLong, found, latest))
  else
  (if x2 ≤ (40 : Int32) then
  (if 0 ≤ x2 then
  (if inb x1 6 then
  M_X7_row_b34 x_fuel rows (upd rowLong x1.toNatClampNeg x2) found latest x1 x2 (0 : Int32)
  else none)
  else
  ((M_X7_finds found latest (5 : Int32)).bind fun r7 =>
  some (r7.1, rows, rowLong, r7.2.1, r7.2.2)))
  else
  (some ((-1 : Int32), rows, rowLong, found, latest)))
set_option maxHeartbeats 4000000 in
set_option maxRecDepth 100000 in
theorem c_X7_row {G : x_G} {l : Launch} {a : Nat → Nat} {now : (Nat → Int32)} {kept : (Nat → Int32)} {isKept : (Nat → Int32)} {texts : (Nat → Int32)} {textLong : (Nat → Int32)} {taken : (Nat → Int32)} {anew : (Nat → Int32)} {hand : (Nat → Int32)} {steps : (Nat → Int32)} {shares : (Nat → Int32)} {choices : (Nat → Int32)} {values : (Nat → Int32)} {askedIs : Int32} {above : Int64} {below : Int64} {place : Int32} {partedBy : Int32} {rows : (Nat → Int32)} {rowLong : (Nat → Int32)} {found : (Nat → Int32)} {latest : Int32} {x1 : Int32} {x2 : Int32} {res : Int32 × (Nat → Int32) × (Nat → Int32) × (Nat → Int32) × Int32} (h : M_X7_row rows rowLong found latest x1 x2 = some res) : x_M G l yX7_row cX7_row 4 (some .int) (2) 0 0 [.ref (a 0), .int x1, .int x2] (WModel G a now kept isKept rows rowLong texts textLong found taken anew hand steps shares choices values latest askedIs above below place partedBy) (x_is (some (.int res.1)) (WModel G a now kept isKept res.2.1 res.2.2.1 texts textLong res.2.2.2.1 taken anew hand steps shares choices values res.2.2.2.2 askedIs above below place partedBy)) := by
  unfold M_X7_row at h
  refine x_enter (ini := false) (by decide) rfl (by decide) rfl (Nat.le_of_ble_eq_true rfl) ?_
  refine x_iload_n dX7_row_0 1 rfl rfl ?_
  refine x_cS (As := [.int x1]) (wc := ([] : va_W)) (w1 := ([] : va_W)) (pre := []) (post := (WModel G a now kept isKept rows rowLong texts textLong found taken anew hand steps shares choices values latest askedIs above below place partedBy)) (rest := []) (st1 := [.int (M_X7_isRow x1)]) (ws1 := (WModel G a now kept isKept rows rowLong texts textLong found taken anew hand steps shares choices values latest askedIs above below place partedBy)) dX7_row_1 (c_X7_isRow rfl) pk_X7_isRow ml_X7_75 rfl rfl rfl rfl rfl rfl rfl ?_
  refine x_if_eq 13 dX7_row_4 (by decide) (fun c3 => ?_) (fun c3 => ?_)
  · have h := x_pos c3 h
    refine x_iconst (-1 : Int32) dX7_row_13 (by decide) ?_
    cases h
    exact x_ireturn dX7_row_14 rfl (x_is.rf _ _)
  · have h := x_neg c3 h
    refine x_iload_n dX7_row_7 2 rfl rfl ?_
    refine x_bipush 40 dX7_row_8 (by decide) ?_
    refine x_icmp_le 15 dX7_row_10 (by decide) (fun c4 => ?_) (fun c4 => ?_)
    · have h := x_pos c4 h
      refine x_iload_n dX7_row_15 2 rfl rfl ?_
      refine x_if_ge 25 dX7_row_16 (by decide) (fun c5 => ?_) (fun c5 => ?_)
      · have h := x_pos c5 h
        refine x_aload_n dX7_row_25 0 rfl rfl ?_
        refine x_get (ci := 5) 4 0 dX7_row_26 fl_X7_23 inX7 rfl (by decide) ⟨rfl, rfl, rfl⟩ rfl rfl ?_
        refine x_iload_n dX7_row_29 1 rfl rfl ?_
        refine x_iload_n dX7_row_30 2 rfl rfl ?_
        obtain ⟨b6, h⟩ := x_guard h
        refine x_iast x1.toNatClampNeg (q0 := 5) (WModel G a now kept isKept rows ((upd rowLong x1.toNatClampNeg x2)) texts textLong found taken anew hand steps shares choices values latest askedIs above below place partedBy) dX7_row_31 rfl rfl b6 rfl ?_
        refine x_iconst 0 dX7_row_32 (by decide) ?_
        refine x_istore_n [(3, .int (0 : Int32)), (0, .ref (a 0)), (1, .int x1), (2, .int x2)] dX7_row_33 rfl (by decide) rfl ?_
        refine x_lv [1, 2, 3, 0] rfl ?_
        exact w_X7_row_b34  _ _ _ _ _ _ _ _ h
      · have h := x_neg c5 h
        refine x_aload_n dX7_row_19 0 rfl rfl ?_
        refine x_iconst 5 dX7_row_20 (by decide) ?_
        obtain ⟨r7, e8, h⟩ := x_bind h
        refine x_cV (As := [.int (5 : Int32)]) (wc := (WModel G a now kept isKept rows rowLong texts textLong found taken anew hand steps shares choices values latest askedIs above below place partedBy)) (w1 := (WModel G a now kept isKept rows rowLong texts textLong r7.2.1 taken anew hand steps shares choices values r7.2.2 askedIs above below place partedBy)) (pre := []) (post := []) (rest := []) (st1 := [.int r7.1]) (ws1 := (WModel G a now kept isKept rows rowLong texts textLong r7.2.1 taken anew hand steps shares choices values r7.2.2 askedIs above below place partedBy)) (ci := 5) 0 dX7_row_21 (c_X7_finds (a := a) e8) pk_X7_finds ml_X7_79 (x_full _) rfl rfl rfl rfl rfl rfl rfl rfl (x_full _).symm ?_
        cases h
        exact x_ireturn dX7_row_24 rfl (x_is.rf _ _)
    · have h := x_neg c4 h
      refine x_iconst (-1 : Int32) dX7_row_13 (by decide) ?_
      cases h
      exact x_ireturn dX7_row_14 rfl (x_is.rf _ _)
theorem pk_X7_asks : x_pv RX7 yX7_asks cX7_asks 2 (some .int) 1 := ⟨⟨co_X7_asks, ni_X7, by decide, by decide +kernel⟩, im_X7_asks, se_X7_asks⟩
def M_X7_asks (askedIs : Int32) (x1 : Int32) : Int32 × Int32 :=
  ((1 : Int32), x1)
set_option maxHeartbeats 4000000 in
set_option maxRecDepth 100000 in
theorem c_X7_asks {G : x_G} {l : Launch} {a : Nat → Nat} {now : (Nat → Int32)} {kept : (Nat → Int32)} {isKept : (Nat → Int32)} {rows : (Nat → Int32)} {rowLong : (Nat → Int32)} {texts : (Nat → Int32)} {textLong : (Nat → Int32)} {found : (Nat → Int32)} {taken : (Nat → Int32)} {anew : (Nat → Int32)} {hand : (Nat → Int32)} {steps : (Nat → Int32)} {shares : (Nat → Int32)} {choices : (Nat → Int32)} {values : (Nat → Int32)} {latest : Int32} {above : Int64} {below : Int64} {place : Int32} {partedBy : Int32} {askedIs : Int32} {x1 : Int32} {res : Int32 × Int32} (h : M_X7_asks askedIs x1 = res) : x_M G l yX7_asks cX7_asks 2 (some .int) (0) 0 0 [.ref (a 0), .int x1] (WModel G a now kept isKept rows rowLong texts textLong found taken anew hand steps shares choices values latest askedIs above below place partedBy) (x_is (some (.int res.1)) (WModel G a now kept isKept rows rowLong texts textLong found taken anew hand steps shares choices values latest res.2 above below place partedBy)) := by
  unfold M_X7_asks at h
  refine x_enter (ini := false) (by decide) rfl (by decide) rfl (Nat.le_of_ble_eq_true rfl) ?_
  refine x_aload_n dX7_asks_0 0 rfl rfl ?_
  refine x_iload_n dX7_asks_1 1 rfl rfl ?_
  refine x_put (ci := 5) (ty := .int) 9 0 (WModel G a now kept isKept rows rowLong texts textLong found taken anew hand steps shares choices values latest x1 above below place partedBy) dX7_asks_2 fl_X7_64 inX7 tyX7_ok nmX7 rfl (by decide) ⟨rfl, rfl, rfl, rfl, rfl⟩ rfl rfl rfl rfl rfl ?_
  refine x_iconst 1 dX7_asks_5 (by decide) ?_
  subst h
  exact x_ireturn dX7_asks_6 rfl (x_is.rf _ _)
theorem pk_X7_at : x_pv RX7 yX7_at cX7_at 3 (some .int) 2 := ⟨⟨co_X7_at, ni_X7, by decide, by decide +kernel⟩, im_X7_at, se_X7_at⟩
def M_X7_at (rows : (Nat → Int32)) (rowLong : (Nat → Int32)) (found : (Nat → Int32)) (latest : Int32) (askedIs : Int32) (x1 : Int32) (x2 : Int32) : Option (Int32 × (Nat → Int32) × Int32 × Int32) :=
  if (M_X7_isRow x1) = 0 then
  (some ((-1 : Int32), found, latest, askedIs))
  else
  (if inb x1 6 then
  if 0 ≤ (rowLong x1.toNatClampNeg) then
  (if (M_X7_in x2.toInt64 (0 : Int64) (((rowLong x1.toNatClampNeg) - (1 : Int32)).toInt64)) = 0 then
  ((M_X7_finds found latest (2 : Int32)).bind fun r5 =>
  some (r5.1, r5.2.1, r5.2.2, askedIs))
  else
  (if inb (((40 : Int32) * x1) + x2) 240 then
  some ((M_X7_asks askedIs (rows (((40 : Int32) * x1) + x2).toNatClampNeg)).1, found, latest, (M_X7_asks askedIs (rows (((40 : Int32) * x1) + x2).toNatClampNeg)).2)
  else none))
  else
  ((M_X7_finds found latest (1 : Int32)).bind fun r8 =>
  some (r8.1, r8.2.1, r8.2.2, askedIs))
  else none)
set_option maxHeartbeats 4000000 in
set_option maxRecDepth 100000 in
theorem c_X7_at {G : x_G} {l : Launch} {a : Nat → Nat} {rows : (Nat → Int32)} {rowLong : (Nat → Int32)} {now : (Nat → Int32)} {kept : (Nat → Int32)} {isKept : (Nat → Int32)} {texts : (Nat → Int32)} {textLong : (Nat → Int32)} {taken : (Nat → Int32)} {anew : (Nat → Int32)} {hand : (Nat → Int32)} {steps : (Nat → Int32)} {shares : (Nat → Int32)} {choices : (Nat → Int32)} {values : (Nat → Int32)} {above : Int64} {below : Int64} {place : Int32} {partedBy : Int32} {found : (Nat → Int32)} {latest : Int32} {askedIs : Int32} {x1 : Int32} {x2 : Int32} {res : Int32 × (Nat → Int32) × Int32 × Int32} (h : M_X7_at rows rowLong found latest askedIs x1 x2 = some res) : x_M G l yX7_at cX7_at 3 (some .int) (2) 0 0 [.ref (a 0), .int x1, .int x2] (WModel G a now kept isKept rows rowLong texts textLong found taken anew hand steps shares choices values latest askedIs above below place partedBy) (x_is (some (.int res.1)) (WModel G a now kept isKept rows rowLong texts textLong res.2.1 taken anew hand steps shares choices values res.2.2.1 res.2.2.2 above below place partedBy)) := by
  unfold M_X7_at at h
  refine x_enter (ini := false) (by decide) rfl (by decide) rfl (Nat.le_of_ble_eq_true rfl) ?_
  refine x_iload_n dX7_at_0 1 rfl rfl ?_
  refine x_cS (As := [.int x1]) (wc := ([] : va_W)) (w1 := ([] : va_W)) (pre := []) (post := (WModel G a now kept isKept rows rowLong texts textLong found taken anew hand steps shares choices values latest askedIs above below place partedBy)) (rest := []) (st1 := [.int (M_X7_isRow x1)]) (ws1 := (WModel G a now kept isKept rows rowLong texts textLong found taken anew hand steps shares choices values latest askedIs above below place partedBy)) dX7_at_1 (c_X7_isRow rfl) pk_X7_isRow ml_X7_75 rfl rfl rfl rfl rfl rfl rfl ?_
  refine x_if_ne 9 dX7_at_4 (by decide) (fun c1 => ?_) (fun c1 => ?_)
  · have h := x_neg c1 h
    refine x_aload_n dX7_at_9 0 rfl rfl ?_
    refine x_get (ci := 5) 4 0 dX7_at_10 fl_X7_23 inX7 rfl (by decide) ⟨rfl, rfl, rfl⟩ rfl rfl ?_
    refine x_iload_n dX7_at_13 1 rfl rfl ?_
    obtain ⟨b2, h⟩ := x_guard h
    refine x_iald x1.toNatClampNeg (q0 := 5) dX7_at_14 rfl rfl b2 ?_
    refine x_if_ge 24 dX7_at_15 (by decide) (fun c3 => ?_) (fun c3 => ?_)
    · have h := x_pos c3 h
      refine x_iload_n dX7_at_24 2 rfl rfl ?_
      refine x_i2l dX7_at_25 ?_
      refine x_lconst 0 dX7_at_26 (by decide) ?_
      refine x_aload_n dX7_at_27 0 rfl rfl ?_
      refine x_get (ci := 5) 4 0 dX7_at_28 fl_X7_23 inX7 rfl (by decide) ⟨rfl, rfl, rfl⟩ rfl rfl ?_
      refine x_iload_n dX7_at_31 1 rfl rfl ?_
      refine x_iald x1.toNatClampNeg (q0 := 5) dX7_at_32 rfl rfl b2 ?_
      refine x_iconst 1 dX7_at_33 (by decide) ?_
      refine x_isub dX7_at_34 ?_
      refine x_i2l dX7_at_35 ?_
      refine x_cS (As := [.long x2.toInt64, .long (0 : Int64), .long (((rowLong x1.toNatClampNeg) - (1 : Int32)).toInt64)]) (wc := ([] : va_W)) (w1 := ([] : va_W)) (pre := []) (post := (WModel G a now kept isKept rows rowLong texts textLong found taken anew hand steps shares choices values latest askedIs above below place partedBy)) (rest := []) (st1 := [.int (M_X7_in x2.toInt64 (0 : Int64) (((rowLong x1.toNatClampNeg) - (1 : Int32)).toInt64))]) (ws1 := (WModel G a now kept isKept rows rowLong texts textLong found taken anew hand steps shares choices values latest askedIs above below place partedBy)) dX7_at_36 (c_X7_in rfl) pk_X7_in ml_X7_69 rfl rfl rfl rfl rfl rfl rfl ?_
      refine x_if_eq 60 dX7_at_39 (by decide) (fun c4 => ?_) (fun c4 => ?_)
      · have h := x_pos c4 h
        refine x_aload_n dX7_at_60 0 rfl rfl ?_
        refine x_iconst 2 dX7_at_61 (by decide) ?_
        obtain ⟨r5, e6, h⟩ := x_bind h
        refine x_cV (As := [.int (2 : Int32)]) (wc := (WModel G a now kept isKept rows rowLong texts textLong found taken anew hand steps shares choices values latest askedIs above below place partedBy)) (w1 := (WModel G a now kept isKept rows rowLong texts textLong r5.2.1 taken anew hand steps shares choices values r5.2.2 askedIs above below place partedBy)) (pre := []) (post := []) (rest := []) (st1 := [.int r5.1]) (ws1 := (WModel G a now kept isKept rows rowLong texts textLong r5.2.1 taken anew hand steps shares choices values r5.2.2 askedIs above below place partedBy)) (ci := 5) 0 dX7_at_62 (c_X7_finds (a := a) e6) pk_X7_finds ml_X7_79 (x_full _) rfl rfl rfl rfl rfl rfl rfl rfl (x_full _).symm ?_
        cases h
        exact x_ireturn dX7_at_65 rfl (x_is.rf _ _)
      · have h := x_neg c4 h
        refine x_aload_n dX7_at_42 0 rfl rfl ?_
        refine x_aload_n dX7_at_43 0 rfl rfl ?_
        refine x_get (ci := 5) 3 0 dX7_at_44 fl_X7_20 inX7 rfl (by decide) ⟨rfl, rfl, rfl⟩ rfl rfl ?_
        refine x_bipush 40 dX7_at_47 (by decide) ?_
        refine x_iload_n dX7_at_49 1 rfl rfl ?_
        refine x_imul dX7_at_50 ?_
        refine x_iload_n dX7_at_51 2 rfl rfl ?_
        refine x_iadd dX7_at_52 ?_
        obtain ⟨b7, h⟩ := x_guard h
        refine x_iald (((40 : Int32) * x1) + x2).toNatClampNeg (q0 := 4) dX7_at_53 rfl rfl b7 ?_
        refine x_cV (As := [.int (rows (((40 : Int32) * x1) + x2).toNatClampNeg)]) (wc := (WModel G a now kept isKept rows rowLong texts textLong found taken anew hand steps shares choices values latest askedIs above below place partedBy)) (w1 := (WModel G a now kept isKept rows rowLong texts textLong found taken anew hand steps shares choices values latest ((M_X7_asks askedIs (rows (((40 : Int32) * x1) + x2).toNatClampNeg)).2) above below place partedBy)) (pre := []) (post := []) (rest := []) (st1 := [.int ((M_X7_asks askedIs (rows (((40 : Int32) * x1) + x2).toNatClampNeg)).1)]) (ws1 := (WModel G a now kept isKept rows rowLong texts textLong found taken anew hand steps shares choices values latest ((M_X7_asks askedIs (rows (((40 : Int32) * x1) + x2).toNatClampNeg)).2) above below place partedBy)) (ci := 5) 0 dX7_at_54 (c_X7_asks (a := a) rfl) pk_X7_asks ml_X7_87 (x_full _) rfl rfl rfl rfl rfl rfl rfl rfl (x_full _).symm ?_
        refine x_goto 65 dX7_at_57 (by decide) ?_
        cases h
        exact x_ireturn dX7_at_65 rfl (x_is.rf _ _)
    · have h := x_neg c3 h
      refine x_aload_n dX7_at_18 0 rfl rfl ?_
      refine x_iconst 1 dX7_at_19 (by decide) ?_
      obtain ⟨r8, e9, h⟩ := x_bind h
      refine x_cV (As := [.int (1 : Int32)]) (wc := (WModel G a now kept isKept rows rowLong texts textLong found taken anew hand steps shares choices values latest askedIs above below place partedBy)) (w1 := (WModel G a now kept isKept rows rowLong texts textLong r8.2.1 taken anew hand steps shares choices values r8.2.2 askedIs above below place partedBy)) (pre := []) (post := []) (rest := []) (st1 := [.int r8.1]) (ws1 := (WModel G a now kept isKept rows rowLong texts textLong r8.2.1 taken anew hand steps shares choices values r8.2.2 askedIs above below place partedBy)) (ci := 5) 0 dX7_at_20 (c_X7_finds (a := a) e9) pk_X7_finds ml_X7_79 (x_full _) rfl rfl rfl rfl rfl rfl rfl rfl (x_full _).symm ?_
      cases h
      exact x_ireturn dX7_at_23 rfl (x_is.rf _ _)
  · have h := x_pos c1 h
    refine x_iconst (-1 : Int32) dX7_at_7 (by decide) ?_
    cases h
    exact x_ireturn dX7_at_8 rfl (x_is.rf _ _)
theorem pk_X7_lay : x_pv RX7 yX7_lay cX7_lay 5 (some .int) 3 := ⟨⟨co_X7_lay, ni_X7, by decide, by decide +kernel⟩, im_X7_lay, se_X7_lay⟩
def M_X7_lay (rowLong : (Nat → Int32)) (rows : (Nat → Int32)) (found : (Nat → Int32)) (latest : Int32) (askedIs : Int32) (x1 : Int32) (x2 : Int32) (x3 : Int32) : Option (Int32 × (Nat → Int32) × (Nat → Int32) × Int32 × Int32) :=
  (M_X7_at rows rowLong found latest askedIs x1 x2).bind fun r1 =>
  if r1.1 = (1 : Int32) then
  (if inb (((40 : Int32) * x1) + x2) 240 then
  some (r1.1, (upd rows (((40 : Int32) * x1) + x2).toNatClampNeg x3), r1.2.1, r1.2.2.1, r1.2.2.2)
  else none)
  else
  (some (r1.1, rows, r1.2.1, r1.2.2.1, r1.2.2.2))
set_option maxHeartbeats 4000000 in
set_option maxRecDepth 100000 in
theorem c_X7_lay {G : x_G} {l : Launch} {a : Nat → Nat} {rowLong : (Nat → Int32)} {now : (Nat → Int32)} {kept : (Nat → Int32)} {isKept : (Nat → Int32)} {texts : (Nat → Int32)} {textLong : (Nat → Int32)} {taken : (Nat → Int32)} {anew : (Nat → Int32)} {hand : (Nat → Int32)} {steps : (Nat → Int32)} {shares : (Nat → Int32)} {choices : (Nat → Int32)} {values : (Nat → Int32)} {above : Int64} {below : Int64} {place : Int32} {partedBy : Int32} {rows : (Nat → Int32)} {found : (Nat → Int32)} {latest : Int32} {askedIs : Int32} {x1 : Int32} {x2 : Int32} {x3 : Int32} {res : Int32 × (Nat → Int32) × (Nat → Int32) × Int32 × Int32} (h : M_X7_lay rowLong rows found latest askedIs x1 x2 x3 = some res) : x_M G l yX7_lay cX7_lay 5 (some .int) (3) 0 0 [.ref (a 0), .int x1, .int x2, .int x3] (WModel G a now kept isKept rows rowLong texts textLong found taken anew hand steps shares choices values latest askedIs above below place partedBy) (x_is (some (.int res.1)) (WModel G a now kept isKept res.2.1 rowLong texts textLong res.2.2.1 taken anew hand steps shares choices values res.2.2.2.1 res.2.2.2.2 above below place partedBy)) := by
  unfold M_X7_lay at h
  refine x_enter (ini := false) (by decide) rfl (by decide) rfl (Nat.le_of_ble_eq_true rfl) ?_
  refine x_aload_n dX7_lay_0 0 rfl rfl ?_
  refine x_iload_n dX7_lay_1 1 rfl rfl ?_
  refine x_iload_n dX7_lay_2 2 rfl rfl ?_
  obtain ⟨r1, e2, h⟩ := x_bind h
  refine x_cV (As := [.int x1, .int x2]) (wc := (WModel G a now kept isKept rows rowLong texts textLong found taken anew hand steps shares choices values latest askedIs above below place partedBy)) (w1 := (WModel G a now kept isKept rows rowLong texts textLong r1.2.1 taken anew hand steps shares choices values r1.2.2.1 r1.2.2.2 above below place partedBy)) (pre := []) (post := []) (rest := []) (st1 := [.int r1.1]) (ws1 := (WModel G a now kept isKept rows rowLong texts textLong r1.2.1 taken anew hand steps shares choices values r1.2.2.1 r1.2.2.2 above below place partedBy)) (ci := 5) 0 dX7_lay_3 (c_X7_at (a := a) e2) pk_X7_at ml_X7_83 (x_full _) rfl rfl rfl rfl rfl rfl rfl rfl (x_full _).symm ?_
  refine x_istore [(4, .int r1.1), (0, .ref (a 0)), (1, .int x1), (2, .int x2), (3, .int x3)] dX7_lay_6 (by decide) rfl ?_
  refine x_iload dX7_lay_8 0 rfl ?_
  refine x_iconst 1 dX7_lay_10 (by decide) ?_
  refine x_icmp_ne 26 dX7_lay_11 (by decide) (fun c3 => ?_) (fun c3 => ?_)
  · have h := x_neg c3 h
    refine x_iload dX7_lay_26 0 rfl ?_
    cases h
    exact x_ireturn dX7_lay_28 rfl (x_is.rf _ _)
  · have h := x_pos c3 h
    refine x_aload_n dX7_lay_14 1 rfl rfl ?_
    refine x_get (ci := 5) 3 0 dX7_lay_15 fl_X7_20 inX7 rfl (by decide) ⟨rfl, rfl, rfl⟩ rfl rfl ?_
    refine x_bipush 40 dX7_lay_18 (by decide) ?_
    refine x_iload_n dX7_lay_20 2 rfl rfl ?_
    refine x_imul dX7_lay_21 ?_
    refine x_iload_n dX7_lay_22 3 rfl rfl ?_
    refine x_iadd dX7_lay_23 ?_
    refine x_iload_n dX7_lay_24 4 rfl rfl ?_
    obtain ⟨b4, h⟩ := x_guard h
    refine x_iast (((40 : Int32) * x1) + x2).toNatClampNeg (q0 := 4) (WModel G a now kept isKept ((upd rows (((40 : Int32) * x1) + x2).toNatClampNeg x3)) rowLong texts textLong r1.2.1 taken anew hand steps shares choices values r1.2.2.1 r1.2.2.2 above below place partedBy) dX7_lay_25 rfl rfl b4 rfl ?_
    refine x_iload dX7_lay_26 0 rfl ?_
    cases h
    exact x_ireturn dX7_lay_28 rfl (x_is.rf _ _)
theorem pk_X7_tear : x_pv RX7 yX7_tear cX7_tear 2 (some .int) 1 := ⟨⟨co_X7_tear, ni_X7, by decide, by decide +kernel⟩, im_X7_tear, se_X7_tear⟩
def M_X7_tear (rowLong : (Nat → Int32)) (found : (Nat → Int32)) (latest : Int32) (x1 : Int32) : Option (Int32 × (Nat → Int32) × (Nat → Int32) × Int32) :=
  if (M_X7_isRow x1) = 0 then
  (some ((-1 : Int32), rowLong, found, latest))
  else
  (if inb x1 6 then
  if 0 ≤ (rowLong x1.toNatClampNeg) then
  (some ((1 : Int32), (upd rowLong x1.toNatClampNeg (-1 : Int32)), found, latest))
  else
  ((M_X7_finds found latest (1 : Int32)).bind fun r4 =>
  some (r4.1, rowLong, r4.2.1, r4.2.2))
  else none)
set_option maxHeartbeats 4000000 in
set_option maxRecDepth 100000 in
theorem c_X7_tear {G : x_G} {l : Launch} {a : Nat → Nat} {now : (Nat → Int32)} {kept : (Nat → Int32)} {isKept : (Nat → Int32)} {rows : (Nat → Int32)} {texts : (Nat → Int32)} {textLong : (Nat → Int32)} {taken : (Nat → Int32)} {anew : (Nat → Int32)} {hand : (Nat → Int32)} {steps : (Nat → Int32)} {shares : (Nat → Int32)} {choices : (Nat → Int32)} {values : (Nat → Int32)} {askedIs : Int32} {above : Int64} {below : Int64} {place : Int32} {partedBy : Int32} {rowLong : (Nat → Int32)} {found : (Nat → Int32)} {latest : Int32} {x1 : Int32} {res : Int32 × (Nat → Int32) × (Nat → Int32) × Int32} (h : M_X7_tear rowLong found latest x1 = some res) : x_M G l yX7_tear cX7_tear 2 (some .int) (2) 0 0 [.ref (a 0), .int x1] (WModel G a now kept isKept rows rowLong texts textLong found taken anew hand steps shares choices values latest askedIs above below place partedBy) (x_is (some (.int res.1)) (WModel G a now kept isKept rows res.2.1 texts textLong res.2.2.1 taken anew hand steps shares choices values res.2.2.2 askedIs above below place partedBy)) := by
  unfold M_X7_tear at h
  refine x_enter (ini := false) (by decide) rfl (by decide) rfl (Nat.le_of_ble_eq_true rfl) ?_
  refine x_iload_n dX7_tear_0 1 rfl rfl ?_
  refine x_cS (As := [.int x1]) (wc := ([] : va_W)) (w1 := ([] : va_W)) (pre := []) (post := (WModel G a now kept isKept rows rowLong texts textLong found taken anew hand steps shares choices values latest askedIs above below place partedBy)) (rest := []) (st1 := [.int (M_X7_isRow x1)]) (ws1 := (WModel G a now kept isKept rows rowLong texts textLong found taken anew hand steps shares choices values latest askedIs above below place partedBy)) dX7_tear_1 (c_X7_isRow rfl) pk_X7_isRow ml_X7_75 rfl rfl rfl rfl rfl rfl rfl ?_
  refine x_if_ne 9 dX7_tear_4 (by decide) (fun c1 => ?_) (fun c1 => ?_)
  · have h := x_neg c1 h
    refine x_aload_n dX7_tear_9 0 rfl rfl ?_
    refine x_get (ci := 5) 4 0 dX7_tear_10 fl_X7_23 inX7 rfl (by decide) ⟨rfl, rfl, rfl⟩ rfl rfl ?_
    refine x_iload_n dX7_tear_13 1 rfl rfl ?_
    obtain ⟨b2, h⟩ := x_guard h
    refine x_iald x1.toNatClampNeg (q0 := 5) dX7_tear_14 rfl rfl b2 ?_
    refine x_if_ge 24 dX7_tear_15 (by decide) (fun c3 => ?_) (fun c3 => ?_)
    · have h := x_pos c3 h
      refine x_aload_n dX7_tear_24 0 rfl rfl ?_
      refine x_get (ci := 5) 4 0 dX7_tear_25 fl_X7_23 inX7 rfl (by decide) ⟨rfl, rfl, rfl⟩ rfl rfl ?_
      refine x_iload_n dX7_tear_28 1 rfl rfl ?_
      refine x_iconst (-1 : Int32) dX7_tear_29 (by decide) ?_
      refine x_iast x1.toNatClampNeg (q0 := 5) (WModel G a now kept isKept rows ((upd rowLong x1.toNatClampNeg (-1 : Int32))) texts textLong found taken anew hand steps shares choices values latest askedIs above below place partedBy) dX7_tear_30 rfl rfl b2 rfl ?_
      refine x_iconst 1 dX7_tear_31 (by decide) ?_
      cases h
      exact x_ireturn dX7_tear_32 rfl (x_is.rf _ _)
    · have h := x_neg c3 h
      refine x_aload_n dX7_tear_18 0 rfl rfl ?_
      refine x_iconst 1 dX7_tear_19 (by decide) ?_
      obtain ⟨r4, e5, h⟩ := x_bind h
      refine x_cV (As := [.int (1 : Int32)]) (wc := (WModel G a now kept isKept rows rowLong texts textLong found taken anew hand steps shares choices values latest askedIs above below place partedBy)) (w1 := (WModel G a now kept isKept rows rowLong texts textLong r4.2.1 taken anew hand steps shares choices values r4.2.2 askedIs above below place partedBy)) (pre := []) (post := []) (rest := []) (st1 := [.int r4.1]) (ws1 := (WModel G a now kept isKept rows rowLong texts textLong r4.2.1 taken anew hand steps shares choices values r4.2.2 askedIs above below place partedBy)) (ci := 5) 0 dX7_tear_20 (c_X7_finds (a := a) e5) pk_X7_finds ml_X7_79 (x_full _) rfl rfl rfl rfl rfl rfl rfl rfl (x_full _).symm ?_
      cases h
      exact x_ireturn dX7_tear_23 rfl (x_is.rf _ _)
  · have h := x_pos c1 h
    refine x_iconst (-1 : Int32) dX7_tear_7 (by decide) ?_
    cases h
    exact x_ireturn dX7_tear_8 rfl (x_is.rf _ _)
theorem pk_X7_copy : x_pv RX7 yX7_copy cX7_copy 7 (some .int) 5 := ⟨⟨co_X7_copy, ni_X7, by decide, by decide +kernel⟩, im_X7_copy, se_X7_copy⟩
def M_X7_copy_b45 (rowLong : (Nat → Int32)) (rows : (Nat → Int32)) (found : (Nat → Int32)) (taken : (Nat → Int32)) (latest : Int32) : Option (Int32 × (Nat → Int32) × (Nat → Int32) × (Nat → Int32) × Int32) :=
  (M_X7_finds found latest (1 : Int32)).bind fun r1 =>
  some (r1.1, rows, r1.2.1, taken, r1.2.2)
set_option maxHeartbeats 4000000 in
set_option maxRecDepth 100000 in
theorem w_X7_copy_b45 {G : x_G} {l : Launch} {a : Nat → Nat} {rowLong : (Nat → Int32)} {now : (Nat → Int32)} {kept : (Nat → Int32)} {isKept : (Nat → Int32)} {texts : (Nat → Int32)} {textLong : (Nat → Int32)} {anew : (Nat → Int32)} {hand : (Nat → Int32)} {steps : (Nat → Int32)} {shares : (Nat → Int32)} {choices : (Nat → Int32)} {values : (Nat → Int32)} {askedIs : Int32} {above : Int64} {below : Int64} {place : Int32} {partedBy : Int32} {res : Int32 × (Nat → Int32) × (Nat → Int32) × (Nat → Int32) × Int32} (rows : (Nat → Int32)) (found : (Nat → Int32)) (taken : (Nat → Int32)) (latest : Int32) (h : M_X7_copy_b45 rowLong rows found taken latest = some res) : X G l RX7 cX7_copy 7 (x_R 2 0 0) (x_Cm G (some .int) false (x_is (some (.int res.1)) (WModel G a now kept isKept res.2.1 rowLong texts textLong res.2.2.1 res.2.2.2.1 anew hand steps shares choices values res.2.2.2.2 askedIs above below place partedBy)) 0 0) 0 0 45 [(0, .ref (a 0))] [] (WModel G a now kept isKept rows rowLong texts textLong found taken anew hand steps shares choices values latest askedIs above below place partedBy) := by
  unfold M_X7_copy_b45 at h
  refine x_aload_n dX7_copy_45 0 rfl rfl ?_
  refine x_iconst 1 dX7_copy_46 (by decide) ?_
  obtain ⟨r1, e2, h⟩ := x_bind h
  refine x_cV (As := [.int (1 : Int32)]) (wc := (WModel G a now kept isKept rows rowLong texts textLong found taken anew hand steps shares choices values latest askedIs above below place partedBy)) (w1 := (WModel G a now kept isKept rows rowLong texts textLong r1.2.1 taken anew hand steps shares choices values r1.2.2 askedIs above below place partedBy)) (pre := []) (post := []) (rest := []) (st1 := [.int r1.1]) (ws1 := (WModel G a now kept isKept rows rowLong texts textLong r1.2.1 taken anew hand steps shares choices values r1.2.2 askedIs above below place partedBy)) (ci := 5) 0 dX7_copy_47 (c_X7_finds (a := a) e2) pk_X7_finds ml_X7_79 (x_full _) rfl rfl rfl rfl rfl rfl rfl rfl (x_full _).symm ?_
  cases h
  exact x_ireturn dX7_copy_50 rfl (x_is.rf _ _)
def M_X7_copy_b92 (rowLong : (Nat → Int32)) (rows : (Nat → Int32)) (found : (Nat → Int32)) (taken : (Nat → Int32)) (latest : Int32) : Option (Int32 × (Nat → Int32) × (Nat → Int32) × (Nat → Int32) × Int32) :=
  (M_X7_finds found latest (2 : Int32)).bind fun r3 =>
  some (r3.1, rows, r3.2.1, taken, r3.2.2)
set_option maxHeartbeats 4000000 in
set_option maxRecDepth 100000 in
theorem w_X7_copy_b92 {G : x_G} {l : Launch} {a : Nat → Nat} {rowLong : (Nat → Int32)} {now : (Nat → Int32)} {kept : (Nat → Int32)} {isKept : (Nat → Int32)} {texts : (Nat → Int32)} {textLong : (Nat → Int32)} {anew : (Nat → Int32)} {hand : (Nat → Int32)} {steps : (Nat → Int32)} {shares : (Nat → Int32)} {choices : (Nat → Int32)} {values : (Nat → Int32)} {askedIs : Int32} {above : Int64} {below : Int64} {place : Int32} {partedBy : Int32} {res : Int32 × (Nat → Int32) × (Nat → Int32) × (Nat → Int32) × Int32} (rows : (Nat → Int32)) (found : (Nat → Int32)) (taken : (Nat → Int32)) (latest : Int32) (h : M_X7_copy_b92 rowLong rows found taken latest = some res) : X G l RX7 cX7_copy 7 (x_R 2 0 0) (x_Cm G (some .int) false (x_is (some (.int res.1)) (WModel G a now kept isKept res.2.1 rowLong texts textLong res.2.2.1 res.2.2.2.1 anew hand steps shares choices values res.2.2.2.2 askedIs above below place partedBy)) 0 0) 0 0 92 [(0, .ref (a 0))] [] (WModel G a now kept isKept rows rowLong texts textLong found taken anew hand steps shares choices values latest askedIs above below place partedBy) := by
  unfold M_X7_copy_b92 at h
  refine x_aload_n dX7_copy_92 0 rfl rfl ?_
  refine x_iconst 2 dX7_copy_93 (by decide) ?_
  obtain ⟨r3, e4, h⟩ := x_bind h
  refine x_cV (As := [.int (2 : Int32)]) (wc := (WModel G a now kept isKept rows rowLong texts textLong found taken anew hand steps shares choices values latest askedIs above below place partedBy)) (w1 := (WModel G a now kept isKept rows rowLong texts textLong r3.2.1 taken anew hand steps shares choices values r3.2.2 askedIs above below place partedBy)) (pre := []) (post := []) (rest := []) (st1 := [.int r3.1]) (ws1 := (WModel G a now kept isKept rows rowLong texts textLong r3.2.1 taken anew hand steps shares choices values r3.2.2 askedIs above below place partedBy)) (ci := 5) 0 dX7_copy_94 (c_X7_finds (a := a) e4) pk_X7_finds ml_X7_79 (x_full _) rfl rfl rfl rfl rfl rfl rfl rfl (x_full _).symm ?_
  cases h
  exact x_ireturn dX7_copy_97 rfl (x_is.rf _ _)
def M_X7_copy_b138 (rowLong : (Nat → Int32)) : Nat → (Nat → Int32) → (Nat → Int32) → (Nat → Int32) → Int32 → Int32 → Int32 → Int32 → Int32 → Option (Int32 × (Nat → Int32) × (Nat → Int32) × (Nat → Int32) × Int32)
  | 0, _, _, _, _, _, _, _, _ => none
  | n + 1, rows, found, taken, latest, x3, x4, x5, x6 =>
    if x5 ≤ x6 then
    (some ((1 : Int32), rows, found, taken, latest))
    else
    (if inb x6 40 then
    if inb ((((40 : Int32) * x3) + x4) + x6) 240 then
    M_X7_copy_b138 rowLong n (upd rows ((((40 : Int32) * x3) + x4) + x6).toNatClampNeg (taken x6.toNatClampNeg)) found taken latest x3 x4 x5 (x6 + (1 : Int32))
    else none
    else none)
set_option maxHeartbeats 4000000 in
set_option maxRecDepth 100000 in
theorem w_X7_copy_b138 {G : x_G} {l : Launch} {a : Nat → Nat} {rowLong : (Nat → Int32)} {now : (Nat → Int32)} {kept : (Nat → Int32)} {isKept : (Nat → Int32)} {texts : (Nat → Int32)} {textLong : (Nat → Int32)} {anew : (Nat → Int32)} {hand : (Nat → Int32)} {steps : (Nat → Int32)} {shares : (Nat → Int32)} {choices : (Nat → Int32)} {values : (Nat → Int32)} {askedIs : Int32} {above : Int64} {below : Int64} {place : Int32} {partedBy : Int32} {res : Int32 × (Nat → Int32) × (Nat → Int32) × (Nat → Int32) × Int32} : ∀ (n : Nat) (rows : (Nat → Int32)) (found : (Nat → Int32)) (taken : (Nat → Int32)) (latest : Int32) (x3 : Int32) (x4 : Int32) (x5 : Int32) (x6 : Int32), M_X7_copy_b138 rowLong n rows found taken latest x3 x4 x5 x6 = some res → X G l RX7 cX7_copy 7 (x_R 2 0 0) (x_Cm G (some .int) false (x_is (some (.int res.1)) (WModel G a now kept isKept res.2.1 rowLong texts textLong res.2.2.1 res.2.2.2.1 anew hand steps shares choices values res.2.2.2.2 askedIs above below place partedBy)) 0 0) 0 0 138 [(0, .ref (a 0)), (3, .int x3), (4, .int x4), (5, .int x5), (6, .int x6)] [] (WModel G a now kept isKept rows rowLong texts textLong found taken anew hand steps shares choices values latest askedIs above below place partedBy) := by
  intro n
  induction n with
  | zero =>
    intro _ _ _ _ _ _ _ _ h
    cases h
  | succ n ih =>
    intro rows found taken latest x3 x4 x5 x6 h
    rw [M_X7_copy_b138] at h
    refine x_iload dX7_copy_138 4 rfl ?_
    refine x_iload dX7_copy_140 3 rfl ?_
    refine x_icmp_ge 173 dX7_copy_142 (by decide) (fun c8 => ?_) (fun c8 => ?_)
    · have h := x_pos c8 h
      refine x_iconst 1 dX7_copy_173 (by decide) ?_
      cases h
      exact x_ireturn dX7_copy_174 rfl (x_is.rf _ _)
    · have h := x_neg c8 h
      refine x_aload_n dX7_copy_145 0 rfl rfl ?_
      refine x_get (ci := 5) 3 0 dX7_copy_146 fl_X7_20 inX7 rfl (by decide) ⟨rfl, rfl, rfl⟩ rfl rfl ?_
      refine x_bipush 40 dX7_copy_149 (by decide) ?_
      refine x_iload_n dX7_copy_151 1 rfl rfl ?_
      refine x_imul dX7_copy_152 ?_
      refine x_iload dX7_copy_153 2 rfl ?_
      refine x_iadd dX7_copy_155 ?_
      refine x_iload dX7_copy_156 4 rfl ?_
      refine x_iadd dX7_copy_158 ?_
      refine x_aload_n dX7_copy_159 0 rfl rfl ?_
      refine x_get (ci := 5) 12 0 dX7_copy_160 fl_X7_39 inX7 rfl (by decide) ⟨rfl, rfl, rfl⟩ rfl rfl ?_
      refine x_iload dX7_copy_163 4 rfl ?_
      obtain ⟨b9, h⟩ := x_guard h
      refine x_iald x6.toNatClampNeg (q0 := 9) dX7_copy_165 rfl rfl b9 ?_
      obtain ⟨b10, h⟩ := x_guard h
      refine x_iast ((((40 : Int32) * x3) + x4) + x6).toNatClampNeg (q0 := 4) (WModel G a now kept isKept ((upd rows ((((40 : Int32) * x3) + x4) + x6).toNatClampNeg (taken x6.toNatClampNeg))) rowLong texts textLong found taken anew hand steps shares choices values latest askedIs above below place partedBy) dX7_copy_166 rfl rfl b10 rfl ?_
      refine x_iinc (j := 4) (1 : Int32) [(6, .int (x6 + (1 : Int32))), (0, .ref (a 0)), (3, .int x3), (4, .int x4), (5, .int x5)] dX7_copy_167 (by decide) rfl (by decide) rfl ?_
      refine x_goto 138 dX7_copy_170 (by decide) ?_
      refine x_lv [1, 2, 3, 4, 0] rfl ?_
      exact ih _ _ _ _ _ _ _ _ h
def M_X7_copy_b101 (rowLong : (Nat → Int32)) : Nat → (Nat → Int32) → (Nat → Int32) → (Nat → Int32) → Int32 → Int32 → Int32 → Int32 → Int32 → Int32 → Int32 → Option (Int32 × (Nat → Int32) × (Nat → Int32) × (Nat → Int32) × Int32)
  | 0, _, _, _, _, _, _, _, _, _, _ => none
  | n + 1, rows, found, taken, latest, x1, x2, x3, x4, x5, x6 =>
    if x5 ≤ x6 then
    (M_X7_copy_b138 rowLong x_fuel rows found taken latest x3 x4 x5 (0 : Int32))
    else
    (if inb ((((40 : Int32) * x1) + x2) + x6) 240 then
    if inb x6 40 then
    M_X7_copy_b101 rowLong n rows found (upd taken x6.toNatClampNeg (rows ((((40 : Int32) * x1) + x2) + x6).toNatClampNeg)) latest x1 x2 x3 x4 x5 (x6 + (1 : Int32))
    else none
    else none)
set_option maxHeartbeats 4000000 in
set_option maxRecDepth 100000 in
theorem w_X7_copy_b101 {G : x_G} {l : Launch} {a : Nat → Nat} {rowLong : (Nat → Int32)} {now : (Nat → Int32)} {kept : (Nat → Int32)} {isKept : (Nat → Int32)} {texts : (Nat → Int32)} {textLong : (Nat → Int32)} {anew : (Nat → Int32)} {hand : (Nat → Int32)} {steps : (Nat → Int32)} {shares : (Nat → Int32)} {choices : (Nat → Int32)} {values : (Nat → Int32)} {askedIs : Int32} {above : Int64} {below : Int64} {place : Int32} {partedBy : Int32} {res : Int32 × (Nat → Int32) × (Nat → Int32) × (Nat → Int32) × Int32} : ∀ (n : Nat) (rows : (Nat → Int32)) (found : (Nat → Int32)) (taken : (Nat → Int32)) (latest : Int32) (x1 : Int32) (x2 : Int32) (x3 : Int32) (x4 : Int32) (x5 : Int32) (x6 : Int32), M_X7_copy_b101 rowLong n rows found taken latest x1 x2 x3 x4 x5 x6 = some res → X G l RX7 cX7_copy 7 (x_R 2 0 0) (x_Cm G (some .int) false (x_is (some (.int res.1)) (WModel G a now kept isKept res.2.1 rowLong texts textLong res.2.2.1 res.2.2.2.1 anew hand steps shares choices values res.2.2.2.2 askedIs above below place partedBy)) 0 0) 0 0 101 [(0, .ref (a 0)), (1, .int x1), (2, .int x2), (3, .int x3), (4, .int x4), (5, .int x5), (6, .int x6)] [] (WModel G a now kept isKept rows rowLong texts textLong found taken anew hand steps shares choices values latest askedIs above below place partedBy) := by
  intro n
  induction n with
  | zero =>
    intro _ _ _ _ _ _ _ _ _ _ h
    cases h
  | succ n ih =>
    intro rows found taken latest x1 x2 x3 x4 x5 x6 h
    rw [M_X7_copy_b101] at h
    refine x_iload dX7_copy_101 6 rfl ?_
    refine x_iload dX7_copy_103 5 rfl ?_
    refine x_icmp_ge 135 dX7_copy_105 (by decide) (fun c5 => ?_) (fun c5 => ?_)
    · have h := x_pos c5 h
      refine x_iconst 0 dX7_copy_135 (by decide) ?_
      refine x_istore [(6, .int (0 : Int32)), (0, .ref (a 0)), (1, .int x1), (2, .int x2), (3, .int x3), (4, .int x4), (5, .int x5)] dX7_copy_136 (by decide) rfl ?_
      refine x_lv [1, 4, 5, 6, 0] rfl ?_
      exact w_X7_copy_b138  _ _ _ _ _ _ _ _ _ h
    · have h := x_neg c5 h
      refine x_aload_n dX7_copy_108 0 rfl rfl ?_
      refine x_get (ci := 5) 12 0 dX7_copy_109 fl_X7_39 inX7 rfl (by decide) ⟨rfl, rfl, rfl⟩ rfl rfl ?_
      refine x_iload dX7_copy_112 6 rfl ?_
      refine x_aload_n dX7_copy_114 0 rfl rfl ?_
      refine x_get (ci := 5) 3 0 dX7_copy_115 fl_X7_20 inX7 rfl (by decide) ⟨rfl, rfl, rfl⟩ rfl rfl ?_
      refine x_bipush 40 dX7_copy_118 (by decide) ?_
      refine x_iload_n dX7_copy_120 1 rfl rfl ?_
      refine x_imul dX7_copy_121 ?_
      refine x_iload_n dX7_copy_122 2 rfl rfl ?_
      refine x_iadd dX7_copy_123 ?_
      refine x_iload dX7_copy_124 6 rfl ?_
      refine x_iadd dX7_copy_126 ?_
      obtain ⟨b6, h⟩ := x_guard h
      refine x_iald ((((40 : Int32) * x1) + x2) + x6).toNatClampNeg (q0 := 4) dX7_copy_127 rfl rfl b6 ?_
      obtain ⟨b7, h⟩ := x_guard h
      refine x_iast x6.toNatClampNeg (q0 := 9) (WModel G a now kept isKept rows rowLong texts textLong found ((upd taken x6.toNatClampNeg (rows ((((40 : Int32) * x1) + x2) + x6).toNatClampNeg))) anew hand steps shares choices values latest askedIs above below place partedBy) dX7_copy_128 rfl rfl b7 rfl ?_
      refine x_iinc (j := 6) (1 : Int32) [(6, .int (x6 + (1 : Int32))), (0, .ref (a 0)), (1, .int x1), (2, .int x2), (3, .int x3), (4, .int x4), (5, .int x5)] dX7_copy_129 (by decide) rfl (by decide) rfl ?_
      refine x_goto 101 dX7_copy_132 (by decide) ?_
      refine x_lv [1, 2, 3, 4, 5, 6, 0] rfl ?_
      exact ih _ _ _ _ _ _ _ _ _ _ h
def M_X7_copy (rowLong : (Nat → Int32)) (rows : (Nat → Int32)) (found : (Nat → Int32)) (taken : (Nat → Int32)) (latest : Int32) (x1 : Int32) (x2 : Int32) (x3 : Int32) (x4 : Int32) (x5 : Int32) : Option (Int32 × (Nat → Int32) × (Nat → Int32) × (Nat → Int32) × Int32) :=
  if (M_X7_isRow x1) = 0 then
  (some ((-1 : Int32), rows, found, taken, latest))
  else
  (if (M_X7_isRow x3) = 0 then
  (some ((-1 : Int32), rows, found, taken, latest))
  else
  (if 0 ≤ x5 then
  (if inb x1 6 then
  if (rowLong x1.toNatClampNeg) < 0 then
  (M_X7_copy_b45 rowLong rows found taken latest)
  else
  (if inb x3 6 then
  if 0 ≤ (rowLong x3.toNatClampNeg) then
  (if (M_X7_in x2.toInt64 (0 : Int64) ((rowLong x1.toNatClampNeg).toInt64 - x5.toInt64)) = 0 then
  (M_X7_copy_b92 rowLong rows found taken latest)
  else
  (if (M_X7_in x4.toInt64 (0 : Int64) ((rowLong x3.toNatClampNeg).toInt64 - x5.toInt64)) = 0 then
  (M_X7_copy_b92 rowLong rows found taken latest)
  else
  (M_X7_copy_b101 rowLong x_fuel rows found taken latest x1 x2 x3 x4 x5 (0 : Int32))))
  else
  (M_X7_copy_b45 rowLong rows found taken latest)
  else none)
  else none)
  else
  ((M_X7_finds found latest (5 : Int32)).bind fun r20 =>
  some (r20.1, rows, r20.2.1, taken, r20.2.2))))
set_option maxHeartbeats 4000000 in
set_option maxRecDepth 100000 in
theorem c_X7_copy {G : x_G} {l : Launch} {a : Nat → Nat} {rowLong : (Nat → Int32)} {now : (Nat → Int32)} {kept : (Nat → Int32)} {isKept : (Nat → Int32)} {texts : (Nat → Int32)} {textLong : (Nat → Int32)} {anew : (Nat → Int32)} {hand : (Nat → Int32)} {steps : (Nat → Int32)} {shares : (Nat → Int32)} {choices : (Nat → Int32)} {values : (Nat → Int32)} {askedIs : Int32} {above : Int64} {below : Int64} {place : Int32} {partedBy : Int32} {rows : (Nat → Int32)} {found : (Nat → Int32)} {taken : (Nat → Int32)} {latest : Int32} {x1 : Int32} {x2 : Int32} {x3 : Int32} {x4 : Int32} {x5 : Int32} {res : Int32 × (Nat → Int32) × (Nat → Int32) × (Nat → Int32) × Int32} (h : M_X7_copy rowLong rows found taken latest x1 x2 x3 x4 x5 = some res) : x_M G l yX7_copy cX7_copy 7 (some .int) (2) 0 0 [.ref (a 0), .int x1, .int x2, .int x3, .int x4, .int x5] (WModel G a now kept isKept rows rowLong texts textLong found taken anew hand steps shares choices values latest askedIs above below place partedBy) (x_is (some (.int res.1)) (WModel G a now kept isKept res.2.1 rowLong texts textLong res.2.2.1 res.2.2.2.1 anew hand steps shares choices values res.2.2.2.2 askedIs above below place partedBy)) := by
  unfold M_X7_copy at h
  refine x_enter (ini := false) (by decide) rfl (by decide) rfl (Nat.le_of_ble_eq_true rfl) ?_
  refine x_iload_n dX7_copy_0 1 rfl rfl ?_
  refine x_cS (As := [.int x1]) (wc := ([] : va_W)) (w1 := ([] : va_W)) (pre := []) (post := (WModel G a now kept isKept rows rowLong texts textLong found taken anew hand steps shares choices values latest askedIs above below place partedBy)) (rest := []) (st1 := [.int (M_X7_isRow x1)]) (ws1 := (WModel G a now kept isKept rows rowLong texts textLong found taken anew hand steps shares choices values latest askedIs above below place partedBy)) dX7_copy_1 (c_X7_isRow rfl) pk_X7_isRow ml_X7_75 rfl rfl rfl rfl rfl rfl rfl ?_
  refine x_if_eq 14 dX7_copy_4 (by decide) (fun c11 => ?_) (fun c11 => ?_)
  · have h := x_pos c11 h
    refine x_iconst (-1 : Int32) dX7_copy_14 (by decide) ?_
    cases h
    exact x_ireturn dX7_copy_15 rfl (x_is.rf _ _)
  · have h := x_neg c11 h
    refine x_iload_n dX7_copy_7 3 rfl rfl ?_
    refine x_cS (As := [.int x3]) (wc := ([] : va_W)) (w1 := ([] : va_W)) (pre := []) (post := (WModel G a now kept isKept rows rowLong texts textLong found taken anew hand steps shares choices values latest askedIs above below place partedBy)) (rest := []) (st1 := [.int (M_X7_isRow x3)]) (ws1 := (WModel G a now kept isKept rows rowLong texts textLong found taken anew hand steps shares choices values latest askedIs above below place partedBy)) dX7_copy_8 (c_X7_isRow rfl) pk_X7_isRow ml_X7_75 rfl rfl rfl rfl rfl rfl rfl ?_
    refine x_if_ne 16 dX7_copy_11 (by decide) (fun c12 => ?_) (fun c12 => ?_)
    · have h := x_neg c12 h
      refine x_iload dX7_copy_16 5 rfl ?_
      refine x_if_ge 27 dX7_copy_18 (by decide) (fun c13 => ?_) (fun c13 => ?_)
      · have h := x_pos c13 h
        refine x_aload_n dX7_copy_27 0 rfl rfl ?_
        refine x_get (ci := 5) 4 0 dX7_copy_28 fl_X7_23 inX7 rfl (by decide) ⟨rfl, rfl, rfl⟩ rfl rfl ?_
        refine x_iload_n dX7_copy_31 1 rfl rfl ?_
        obtain ⟨b14, h⟩ := x_guard h
        refine x_iald x1.toNatClampNeg (q0 := 5) dX7_copy_32 rfl rfl b14 ?_
        refine x_if_lt 45 dX7_copy_33 (by decide) (fun c15 => ?_) (fun c15 => ?_)
        · have h := x_pos c15 h
          refine x_lv [0] rfl ?_
          exact w_X7_copy_b45  _ _ _ _ h
        · have h := x_neg c15 h
          refine x_aload_n dX7_copy_36 0 rfl rfl ?_
          refine x_get (ci := 5) 4 0 dX7_copy_37 fl_X7_23 inX7 rfl (by decide) ⟨rfl, rfl, rfl⟩ rfl rfl ?_
          refine x_iload_n dX7_copy_40 3 rfl rfl ?_
          obtain ⟨b16, h⟩ := x_guard h
          refine x_iald x3.toNatClampNeg (q0 := 5) dX7_copy_41 rfl rfl b16 ?_
          refine x_if_ge 51 dX7_copy_42 (by decide) (fun c17 => ?_) (fun c17 => ?_)
          · have h := x_pos c17 h
            refine x_iload_n dX7_copy_51 2 rfl rfl ?_
            refine x_i2l dX7_copy_52 ?_
            refine x_lconst 0 dX7_copy_53 (by decide) ?_
            refine x_aload_n dX7_copy_54 0 rfl rfl ?_
            refine x_get (ci := 5) 4 0 dX7_copy_55 fl_X7_23 inX7 rfl (by decide) ⟨rfl, rfl, rfl⟩ rfl rfl ?_
            refine x_iload_n dX7_copy_58 1 rfl rfl ?_
            refine x_iald x1.toNatClampNeg (q0 := 5) dX7_copy_59 rfl rfl b14 ?_
            refine x_i2l dX7_copy_60 ?_
            refine x_iload dX7_copy_61 5 rfl ?_
            refine x_i2l dX7_copy_63 ?_
            refine x_lsub dX7_copy_64 ?_
            refine x_cS (As := [.long x2.toInt64, .long (0 : Int64), .long ((rowLong x1.toNatClampNeg).toInt64 - x5.toInt64)]) (wc := ([] : va_W)) (w1 := ([] : va_W)) (pre := []) (post := (WModel G a now kept isKept rows rowLong texts textLong found taken anew hand steps shares choices values latest askedIs above below place partedBy)) (rest := []) (st1 := [.int (M_X7_in x2.toInt64 (0 : Int64) ((rowLong x1.toNatClampNeg).toInt64 - x5.toInt64))]) (ws1 := (WModel G a now kept isKept rows rowLong texts textLong found taken anew hand steps shares choices values latest askedIs above below place partedBy)) dX7_copy_65 (c_X7_in rfl) pk_X7_in ml_X7_69 rfl rfl rfl rfl rfl rfl rfl ?_
            refine x_if_eq 92 dX7_copy_68 (by decide) (fun c18 => ?_) (fun c18 => ?_)
            · have h := x_pos c18 h
              refine x_lv [0] rfl ?_
              exact w_X7_copy_b92  _ _ _ _ h
            · have h := x_neg c18 h
              refine x_iload dX7_copy_71 4 rfl ?_
              refine x_i2l dX7_copy_73 ?_
              refine x_lconst 0 dX7_copy_74 (by decide) ?_
              refine x_aload_n dX7_copy_75 0 rfl rfl ?_
              refine x_get (ci := 5) 4 0 dX7_copy_76 fl_X7_23 inX7 rfl (by decide) ⟨rfl, rfl, rfl⟩ rfl rfl ?_
              refine x_iload_n dX7_copy_79 3 rfl rfl ?_
              refine x_iald x3.toNatClampNeg (q0 := 5) dX7_copy_80 rfl rfl b16 ?_
              refine x_i2l dX7_copy_81 ?_
              refine x_iload dX7_copy_82 5 rfl ?_
              refine x_i2l dX7_copy_84 ?_
              refine x_lsub dX7_copy_85 ?_
              refine x_cS (As := [.long x4.toInt64, .long (0 : Int64), .long ((rowLong x3.toNatClampNeg).toInt64 - x5.toInt64)]) (wc := ([] : va_W)) (w1 := ([] : va_W)) (pre := []) (post := (WModel G a now kept isKept rows rowLong texts textLong found taken anew hand steps shares choices values latest askedIs above below place partedBy)) (rest := []) (st1 := [.int (M_X7_in x4.toInt64 (0 : Int64) ((rowLong x3.toNatClampNeg).toInt64 - x5.toInt64))]) (ws1 := (WModel G a now kept isKept rows rowLong texts textLong found taken anew hand steps shares choices values latest askedIs above below place partedBy)) dX7_copy_86 (c_X7_in rfl) pk_X7_in ml_X7_69 rfl rfl rfl rfl rfl rfl rfl ?_
              refine x_if_ne 98 dX7_copy_89 (by decide) (fun c19 => ?_) (fun c19 => ?_)
              · have h := x_neg c19 h
                refine x_iconst 0 dX7_copy_98 (by decide) ?_
                refine x_istore [(6, .int (0 : Int32)), (0, .ref (a 0)), (1, .int x1), (2, .int x2), (3, .int x3), (4, .int x4), (5, .int x5)] dX7_copy_99 (by decide) rfl ?_
                refine x_lv [1, 2, 3, 4, 5, 6, 0] rfl ?_
                exact w_X7_copy_b101  _ _ _ _ _ _ _ _ _ _ _ h
              · have h := x_pos c19 h
                refine x_lv [0] rfl ?_
                exact w_X7_copy_b92  _ _ _ _ h
          · have h := x_neg c17 h
            refine x_lv [0] rfl ?_
            exact w_X7_copy_b45  _ _ _ _ h
      · have h := x_neg c13 h
        refine x_aload_n dX7_copy_21 0 rfl rfl ?_
        refine x_iconst 5 dX7_copy_22 (by decide) ?_
        obtain ⟨r20, e21, h⟩ := x_bind h
        refine x_cV (As := [.int (5 : Int32)]) (wc := (WModel G a now kept isKept rows rowLong texts textLong found taken anew hand steps shares choices values latest askedIs above below place partedBy)) (w1 := (WModel G a now kept isKept rows rowLong texts textLong r20.2.1 taken anew hand steps shares choices values r20.2.2 askedIs above below place partedBy)) (pre := []) (post := []) (rest := []) (st1 := [.int r20.1]) (ws1 := (WModel G a now kept isKept rows rowLong texts textLong r20.2.1 taken anew hand steps shares choices values r20.2.2 askedIs above below place partedBy)) (ci := 5) 0 dX7_copy_23 (c_X7_finds (a := a) e21) pk_X7_finds ml_X7_79 (x_full _) rfl rfl rfl rfl rfl rfl rfl rfl (x_full _).symm ?_
        cases h
        exact x_ireturn dX7_copy_26 rfl (x_is.rf _ _)
    · have h := x_pos c12 h
      refine x_iconst (-1 : Int32) dX7_copy_14 (by decide) ?_
      cases h
      exact x_ireturn dX7_copy_15 rfl (x_is.rf _ _)
theorem pk_X7_mean : x_pv RX7 yX7_mean cX7_mean 5 (some .int) 1 := ⟨⟨co_X7_mean, ni_X7, by decide, by decide +kernel⟩, im_X7_mean, se_X7_mean⟩
def M_X7_mean_b44 (rows : (Nat → Int32)) (rowLong : (Nat → Int32)) : Nat → (Nat → Int32) → Int32 → Int32 → Int32 → Int64 → Int32 → Option (Int32 × (Nat → Int32) × Int32 × Int32)
  | 0, _, _, _, _, _, _ => none
  | n + 1, found, latest, askedIs, x1, x2, x4 =>
    if inb x1 6 then
    if (rowLong x1.toNatClampNeg) ≤ x4 then
    (if ¬ (rowLong x1.toNatClampNeg).toInt64 = 0 then
    some ((M_X7_asks askedIs ((x2 / (rowLong x1.toNatClampNeg).toInt64).toInt32)).1, found, latest, (M_X7_asks askedIs ((x2 / (rowLong x1.toNatClampNeg).toInt64).toInt32)).2)
    else none)
    else
    (if inb (((40 : Int32) * x1) + x4) 240 then
    M_X7_mean_b44 rows rowLong n found latest askedIs x1 (x2 + (rows (((40 : Int32) * x1) + x4).toNatClampNeg).toInt64) (x4 + (1 : Int32))
    else none)
    else none
set_option maxHeartbeats 4000000 in
set_option maxRecDepth 100000 in
theorem w_X7_mean_b44 {G : x_G} {l : Launch} {a : Nat → Nat} {rows : (Nat → Int32)} {rowLong : (Nat → Int32)} {now : (Nat → Int32)} {kept : (Nat → Int32)} {isKept : (Nat → Int32)} {texts : (Nat → Int32)} {textLong : (Nat → Int32)} {taken : (Nat → Int32)} {anew : (Nat → Int32)} {hand : (Nat → Int32)} {steps : (Nat → Int32)} {shares : (Nat → Int32)} {choices : (Nat → Int32)} {values : (Nat → Int32)} {above : Int64} {below : Int64} {place : Int32} {partedBy : Int32} {res : Int32 × (Nat → Int32) × Int32 × Int32} : ∀ (n : Nat) (found : (Nat → Int32)) (latest : Int32) (askedIs : Int32) (x1 : Int32) (x2 : Int64) (x4 : Int32), M_X7_mean_b44 rows rowLong n found latest askedIs x1 x2 x4 = some res → X G l RX7 cX7_mean 5 (x_R 2 0 0) (x_Cm G (some .int) false (x_is (some (.int res.1)) (WModel G a now kept isKept rows rowLong texts textLong res.2.1 taken anew hand steps shares choices values res.2.2.1 res.2.2.2 above below place partedBy)) 0 0) 0 0 44 [(0, .ref (a 0)), (1, .int x1), (2, .long x2), (4, .int x4)] [] (WModel G a now kept isKept rows rowLong texts textLong found taken anew hand steps shares choices values latest askedIs above below place partedBy) := by
  intro n
  induction n with
  | zero =>
    intro _ _ _ _ _ _ h
    cases h
  | succ n ih =>
    intro found latest askedIs x1 x2 x4 h
    rw [M_X7_mean_b44] at h
    refine x_iload dX7_mean_44 3 rfl ?_
    refine x_aload_n dX7_mean_46 0 rfl rfl ?_
    refine x_get (ci := 5) 4 0 dX7_mean_47 fl_X7_23 inX7 rfl (by decide) ⟨rfl, rfl, rfl⟩ rfl rfl ?_
    refine x_iload_n dX7_mean_50 1 rfl rfl ?_
    obtain ⟨b1, h⟩ := x_guard h
    refine x_iald x1.toNatClampNeg (q0 := 5) dX7_mean_51 rfl rfl b1 ?_
    refine x_icmp_ge 77 dX7_mean_52 (by decide) (fun c2 => ?_) (fun c2 => ?_)
    · have h := x_pos c2 h
      refine x_aload_n dX7_mean_77 0 rfl rfl ?_
      refine x_lload_n dX7_mean_78 2 rfl rfl ?_
      refine x_aload_n dX7_mean_79 0 rfl rfl ?_
      refine x_get (ci := 5) 4 0 dX7_mean_80 fl_X7_23 inX7 rfl (by decide) ⟨rfl, rfl, rfl⟩ rfl rfl ?_
      refine x_iload_n dX7_mean_83 1 rfl rfl ?_
      refine x_iald x1.toNatClampNeg (q0 := 5) dX7_mean_84 rfl rfl b1 ?_
      refine x_i2l dX7_mean_85 ?_
      obtain ⟨b3, h⟩ := x_guard h
      refine x_ldiv dX7_mean_86 b3 ?_
      refine x_l2i dX7_mean_87 ?_
      refine x_cV (As := [.int ((x2 / (rowLong x1.toNatClampNeg).toInt64).toInt32)]) (wc := (WModel G a now kept isKept rows rowLong texts textLong found taken anew hand steps shares choices values latest askedIs above below place partedBy)) (w1 := (WModel G a now kept isKept rows rowLong texts textLong found taken anew hand steps shares choices values latest ((M_X7_asks askedIs ((x2 / (rowLong x1.toNatClampNeg).toInt64).toInt32)).2) above below place partedBy)) (pre := []) (post := []) (rest := []) (st1 := [.int ((M_X7_asks askedIs ((x2 / (rowLong x1.toNatClampNeg).toInt64).toInt32)).1)]) (ws1 := (WModel G a now kept isKept rows rowLong texts textLong found taken anew hand steps shares choices values latest ((M_X7_asks askedIs ((x2 / (rowLong x1.toNatClampNeg).toInt64).toInt32)).2) above below place partedBy)) (ci := 5) 0 dX7_mean_88 (c_X7_asks (a := a) rfl) pk_X7_asks ml_X7_87 (x_full _) rfl rfl rfl rfl rfl rfl rfl rfl (x_full _).symm ?_
      cases h
      exact x_ireturn dX7_mean_91 rfl (x_is.rf _ _)
    · have h := x_neg c2 h
      refine x_lload_n dX7_mean_55 2 rfl rfl ?_
      refine x_aload_n dX7_mean_56 0 rfl rfl ?_
      refine x_get (ci := 5) 3 0 dX7_mean_57 fl_X7_20 inX7 rfl (by decide) ⟨rfl, rfl, rfl⟩ rfl rfl ?_
      refine x_bipush 40 dX7_mean_60 (by decide) ?_
      refine x_iload_n dX7_mean_62 1 rfl rfl ?_
      refine x_imul dX7_mean_63 ?_
      refine x_iload dX7_mean_64 3 rfl ?_
      refine x_iadd dX7_mean_66 ?_
      obtain ⟨b4, h⟩ := x_guard h
      refine x_iald (((40 : Int32) * x1) + x4).toNatClampNeg (q0 := 4) dX7_mean_67 rfl rfl b4 ?_
      refine x_i2l dX7_mean_68 ?_
      refine x_ladd dX7_mean_69 ?_
      refine x_lstore_n [(2, .long (x2 + (rows (((40 : Int32) * x1) + x4).toNatClampNeg).toInt64)), (0, .ref (a 0)), (1, .int x1), (4, .int x4)] dX7_mean_70 rfl (by decide) rfl ?_
      refine x_iinc (j := 3) (1 : Int32) [(4, .int (x4 + (1 : Int32))), (2, .long (x2 + (rows (((40 : Int32) * x1) + x4).toNatClampNeg).toInt64)), (0, .ref (a 0)), (1, .int x1)] dX7_mean_71 (by decide) rfl (by decide) rfl ?_
      refine x_goto 44 dX7_mean_74 (by decide) ?_
      refine x_lv [2, 3, 1, 0] rfl ?_
      exact ih _ _ _ _ _ _ h
def M_X7_mean (rows : (Nat → Int32)) (rowLong : (Nat → Int32)) (found : (Nat → Int32)) (latest : Int32) (askedIs : Int32) (x1 : Int32) : Option (Int32 × (Nat → Int32) × Int32 × Int32) :=
  if (M_X7_isRow x1) = 0 then
  (some ((-1 : Int32), found, latest, askedIs))
  else
  (if inb x1 6 then
  if 0 ≤ (rowLong x1.toNatClampNeg) then
  (if (rowLong x1.toNatClampNeg) = 0 then
  ((M_X7_finds found latest (4 : Int32)).bind fun r9 =>
  some (r9.1, r9.2.1, r9.2.2, askedIs))
  else
  (M_X7_mean_b44 rows rowLong x_fuel found latest askedIs x1 (0 : Int64) (0 : Int32)))
  else
  ((M_X7_finds found latest (1 : Int32)).bind fun r11 =>
  some (r11.1, r11.2.1, r11.2.2, askedIs))
  else none)
set_option maxHeartbeats 4000000 in
set_option maxRecDepth 100000 in
theorem c_X7_mean {G : x_G} {l : Launch} {a : Nat → Nat} {rows : (Nat → Int32)} {rowLong : (Nat → Int32)} {now : (Nat → Int32)} {kept : (Nat → Int32)} {isKept : (Nat → Int32)} {texts : (Nat → Int32)} {textLong : (Nat → Int32)} {taken : (Nat → Int32)} {anew : (Nat → Int32)} {hand : (Nat → Int32)} {steps : (Nat → Int32)} {shares : (Nat → Int32)} {choices : (Nat → Int32)} {values : (Nat → Int32)} {above : Int64} {below : Int64} {place : Int32} {partedBy : Int32} {found : (Nat → Int32)} {latest : Int32} {askedIs : Int32} {x1 : Int32} {res : Int32 × (Nat → Int32) × Int32 × Int32} (h : M_X7_mean rows rowLong found latest askedIs x1 = some res) : x_M G l yX7_mean cX7_mean 5 (some .int) (2) 0 0 [.ref (a 0), .int x1] (WModel G a now kept isKept rows rowLong texts textLong found taken anew hand steps shares choices values latest askedIs above below place partedBy) (x_is (some (.int res.1)) (WModel G a now kept isKept rows rowLong texts textLong res.2.1 taken anew hand steps shares choices values res.2.2.1 res.2.2.2 above below place partedBy)) := by
  unfold M_X7_mean at h
  refine x_enter (ini := false) (by decide) rfl (by decide) rfl (Nat.le_of_ble_eq_true rfl) ?_
  refine x_iload_n dX7_mean_0 1 rfl rfl ?_
  refine x_cS (As := [.int x1]) (wc := ([] : va_W)) (w1 := ([] : va_W)) (pre := []) (post := (WModel G a now kept isKept rows rowLong texts textLong found taken anew hand steps shares choices values latest askedIs above below place partedBy)) (rest := []) (st1 := [.int (M_X7_isRow x1)]) (ws1 := (WModel G a now kept isKept rows rowLong texts textLong found taken anew hand steps shares choices values latest askedIs above below place partedBy)) dX7_mean_1 (c_X7_isRow rfl) pk_X7_isRow ml_X7_75 rfl rfl rfl rfl rfl rfl rfl ?_
  refine x_if_ne 9 dX7_mean_4 (by decide) (fun c5 => ?_) (fun c5 => ?_)
  · have h := x_neg c5 h
    refine x_aload_n dX7_mean_9 0 rfl rfl ?_
    refine x_get (ci := 5) 4 0 dX7_mean_10 fl_X7_23 inX7 rfl (by decide) ⟨rfl, rfl, rfl⟩ rfl rfl ?_
    refine x_iload_n dX7_mean_13 1 rfl rfl ?_
    obtain ⟨b6, h⟩ := x_guard h
    refine x_iald x1.toNatClampNeg (q0 := 5) dX7_mean_14 rfl rfl b6 ?_
    refine x_if_ge 24 dX7_mean_15 (by decide) (fun c7 => ?_) (fun c7 => ?_)
    · have h := x_pos c7 h
      refine x_aload_n dX7_mean_24 0 rfl rfl ?_
      refine x_get (ci := 5) 4 0 dX7_mean_25 fl_X7_23 inX7 rfl (by decide) ⟨rfl, rfl, rfl⟩ rfl rfl ?_
      refine x_iload_n dX7_mean_28 1 rfl rfl ?_
      refine x_iald x1.toNatClampNeg (q0 := 5) dX7_mean_29 rfl rfl b6 ?_
      refine x_if_ne 39 dX7_mean_30 (by decide) (fun c8 => ?_) (fun c8 => ?_)
      · have h := x_neg c8 h
        refine x_lconst 0 dX7_mean_39 (by decide) ?_
        refine x_lstore_n [(2, .long (0 : Int64)), (0, .ref (a 0)), (1, .int x1)] dX7_mean_40 rfl (by decide) rfl ?_
        refine x_iconst 0 dX7_mean_41 (by decide) ?_
        refine x_istore [(4, .int (0 : Int32)), (2, .long (0 : Int64)), (0, .ref (a 0)), (1, .int x1)] dX7_mean_42 (by decide) rfl ?_
        refine x_lv [2, 3, 1, 0] rfl ?_
        exact w_X7_mean_b44  _ _ _ _ _ _ _ h
      · have h := x_pos c8 h
        refine x_aload_n dX7_mean_33 0 rfl rfl ?_
        refine x_iconst 4 dX7_mean_34 (by decide) ?_
        obtain ⟨r9, e10, h⟩ := x_bind h
        refine x_cV (As := [.int (4 : Int32)]) (wc := (WModel G a now kept isKept rows rowLong texts textLong found taken anew hand steps shares choices values latest askedIs above below place partedBy)) (w1 := (WModel G a now kept isKept rows rowLong texts textLong r9.2.1 taken anew hand steps shares choices values r9.2.2 askedIs above below place partedBy)) (pre := []) (post := []) (rest := []) (st1 := [.int r9.1]) (ws1 := (WModel G a now kept isKept rows rowLong texts textLong r9.2.1 taken anew hand steps shares choices values r9.2.2 askedIs above below place partedBy)) (ci := 5) 0 dX7_mean_35 (c_X7_finds (a := a) e10) pk_X7_finds ml_X7_79 (x_full _) rfl rfl rfl rfl rfl rfl rfl rfl (x_full _).symm ?_
        cases h
        exact x_ireturn dX7_mean_38 rfl (x_is.rf _ _)
    · have h := x_neg c7 h
      refine x_aload_n dX7_mean_18 0 rfl rfl ?_
      refine x_iconst 1 dX7_mean_19 (by decide) ?_
      obtain ⟨r11, e12, h⟩ := x_bind h
      refine x_cV (As := [.int (1 : Int32)]) (wc := (WModel G a now kept isKept rows rowLong texts textLong found taken anew hand steps shares choices values latest askedIs above below place partedBy)) (w1 := (WModel G a now kept isKept rows rowLong texts textLong r11.2.1 taken anew hand steps shares choices values r11.2.2 askedIs above below place partedBy)) (pre := []) (post := []) (rest := []) (st1 := [.int r11.1]) (ws1 := (WModel G a now kept isKept rows rowLong texts textLong r11.2.1 taken anew hand steps shares choices values r11.2.2 askedIs above below place partedBy)) (ci := 5) 0 dX7_mean_20 (c_X7_finds (a := a) e12) pk_X7_finds ml_X7_79 (x_full _) rfl rfl rfl rfl rfl rfl rfl rfl (x_full _).symm ?_
      cases h
      exact x_ireturn dX7_mean_23 rfl (x_is.rf _ _)
  · have h := x_pos c5 h
    refine x_iconst (-1 : Int32) dX7_mean_7 (by decide) ?_
    cases h
    exact x_ireturn dX7_mean_8 rfl (x_is.rf _ _)
theorem pk_X7_isText : x_ps yX7_isText cX7_isText 1 (some .boolean) 1 := ⟨⟨co_X7_isText, ni_X7, by decide, by decide +kernel⟩, sm_X7_isText⟩
def M_X7_isText (x0 : Int32) : Int32 :=
  (M_X7_in x0.toInt64 (0 : Int64) (3 : Int64))
theorem M_X7_isText_b {x0 : Int32} : narrow .boolean (.int (M_X7_isText x0)) = .int (M_X7_isText x0) := by
  simp only [M_X7_isText]
  repeat' split
  all_goals first | rfl | exact M_X7_in_b
set_option maxHeartbeats 4000000 in
set_option maxRecDepth 100000 in
theorem c_X7_isText {G : x_G} {l : Launch} {x0 : Int32} {res : Int32} (h : M_X7_isText x0 = res) : x_M G l yX7_isText cX7_isText 1 (some .boolean) (1) 0 0 [.int x0] ([] : va_W) (x_is (some (.int res)) ([] : va_W)) := by
  unfold M_X7_isText at h
  refine x_enter (ini := false) (by decide) rfl (by decide) rfl (Nat.le_of_ble_eq_true rfl) ?_
  refine x_iload_n dX7_isText_0 0 rfl rfl ?_
  refine x_i2l dX7_isText_1 ?_
  refine x_lconst 0 dX7_isText_2 (by decide) ?_
  refine x_ldc2 dX7_isText_3 kl_X7_73 ?_
  refine x_cS (As := [.long x0.toInt64, .long (0 : Int64), .long (3 : Int64)]) (wc := ([] : va_W)) (w1 := ([] : va_W)) (pre := []) (post := ([] : va_W)) (rest := []) (st1 := [.int (M_X7_in x0.toInt64 (0 : Int64) (3 : Int64))]) (ws1 := ([] : va_W)) dX7_isText_6 (c_X7_in rfl) pk_X7_in ml_X7_69 rfl rfl rfl rfl rfl rfl rfl ?_
  subst h
  exact x_ireturn dX7_isText_9 M_X7_in_b (x_is.rf _ _)
theorem pk_X7_text : x_pv RX7 yX7_text cX7_text 4 (some .int) 2 := ⟨⟨co_X7_text, ni_X7, by decide, by decide +kernel⟩, im_X7_text, se_X7_text⟩
def M_X7_text_b34 : Nat → (Nat → Int32) → (Nat → Int32) → (Nat → Int32) → Int32 → Int32 → Int32 → Int32 → Option (Int32 × (Nat → Int32) × (Nat → Int32) × (Nat → Int32) × Int32)
  | 0, _, _, _, _, _, _, _ => none
  | n + 1, texts, textLong, found, latest, x1, x2, x3 =>
    if x2 ≤ x3 then
    (some (x2, texts, textLong, found, latest))
    else
    (if inb (((60 : Int32) * x1) + x3) 240 then
    M_X7_text_b34 n (upd texts (((60 : Int32) * x1) + x3).toNatClampNeg (32 : Int32)) textLong found latest x1 x2 (x3 + (1 : Int32))
    else none)
set_option maxHeartbeats 4000000 in
set_option maxRecDepth 100000 in
theorem w_X7_text_b34 {G : x_G} {l : Launch} {a : Nat → Nat} {now : (Nat → Int32)} {kept : (Nat → Int32)} {isKept : (Nat → Int32)} {rows : (Nat → Int32)} {rowLong : (Nat → Int32)} {taken : (Nat → Int32)} {anew : (Nat → Int32)} {hand : (Nat → Int32)} {steps : (Nat → Int32)} {shares : (Nat → Int32)} {choices : (Nat → Int32)} {values : (Nat → Int32)} {askedIs : Int32} {above : Int64} {below : Int64} {place : Int32} {partedBy : Int32} {res : Int32 × (Nat → Int32) × (Nat → Int32) × (Nat → Int32) × Int32} : ∀ (n : Nat) (texts : (Nat → Int32)) (textLong : (Nat → Int32)) (found : (Nat → Int32)) (latest : Int32) (x1 : Int32) (x2 : Int32) (x3 : Int32), M_X7_text_b34 n texts textLong found latest x1 x2 x3 = some res → X G l RX7 cX7_text 4 (x_R 2 0 0) (x_Cm G (some .int) false (x_is (some (.int res.1)) (WModel G a now kept isKept rows rowLong res.2.1 res.2.2.1 res.2.2.2.1 taken anew hand steps shares choices values res.2.2.2.2 askedIs above below place partedBy)) 0 0) 0 0 34 [(0, .ref (a 0)), (1, .int x1), (2, .int x2), (3, .int x3)] [] (WModel G a now kept isKept rows rowLong texts textLong found taken anew hand steps shares choices values latest askedIs above below place partedBy) := by
  intro n
  induction n with
  | zero =>
    intro _ _ _ _ _ _ _ h
    cases h
  | succ n ih =>
    intro texts textLong found latest x1 x2 x3 h
    rw [M_X7_text_b34] at h
    refine x_iload_n dX7_text_34 3 rfl rfl ?_
    refine x_iload_n dX7_text_35 2 rfl rfl ?_
    refine x_icmp_ge 58 dX7_text_36 (by decide) (fun c1 => ?_) (fun c1 => ?_)
    · have h := x_pos c1 h
      refine x_iload_n dX7_text_58 2 rfl rfl ?_
      cases h
      exact x_ireturn dX7_text_59 rfl (x_is.rf _ _)
    · have h := x_neg c1 h
      refine x_aload_n dX7_text_39 0 rfl rfl ?_
      refine x_get (ci := 5) 5 0 dX7_text_40 fl_X7_26 inX7 rfl (by decide) ⟨rfl, rfl, rfl⟩ rfl rfl ?_
      refine x_bipush 60 dX7_text_43 (by decide) ?_
      refine x_iload_n dX7_text_45 1 rfl rfl ?_
      refine x_imul dX7_text_46 ?_
      refine x_iload_n dX7_text_47 3 rfl rfl ?_
      refine x_iadd dX7_text_48 ?_
      refine x_bipush 32 dX7_text_49 (by decide) ?_
      obtain ⟨b2, h⟩ := x_guard h
      refine x_iast (((60 : Int32) * x1) + x3).toNatClampNeg (q0 := 6) (WModel G a now kept isKept rows rowLong ((upd texts (((60 : Int32) * x1) + x3).toNatClampNeg (32 : Int32))) textLong found taken anew hand steps shares choices values latest askedIs above below place partedBy) dX7_text_51 rfl rfl b2 rfl ?_
      refine x_iinc (j := 3) (1 : Int32) [(3, .int (x3 + (1 : Int32))), (0, .ref (a 0)), (1, .int x1), (2, .int x2)] dX7_text_52 (by decide) rfl (by decide) rfl ?_
      refine x_goto 34 dX7_text_55 (by decide) ?_
      refine x_lv [1, 2, 3, 0] rfl ?_
      exact ih _ _ _ _ _ _ _ h
def M_X7_text (texts : (Nat → Int32)) (textLong : (Nat → Int32)) (found : (Nat → Int32)) (latest : Int32) (x1 : Int32) (x2 : Int32) : Option (Int32 × (Nat → Int32) × (Nat → Int32) × (Nat → Int32) × Int32) :=
  if (M_X7_isText x1) = 0 then
  (some ((-1 : Int32), texts, textLong, found, latest))
  else
  (if x2 ≤ (60 : Int32) then
  (if 0 ≤ x2 then
  (if inb x1 4 then
  M_X7_text_b34 x_fuel texts (upd textLong x1.toNatClampNeg x2) found latest x1 x2 (0 : Int32)
  else none)
  else
  ((M_X7_finds found latest (5 : Int32)).bind fun r7 =>
  some (r7.1, texts, textLong, r7.2.1, r7.2.2)))
  else
  (some ((-1 : Int32), texts, textLong, found, latest)))
set_option maxHeartbeats 4000000 in
set_option maxRecDepth 100000 in
theorem c_X7_text {G : x_G} {l : Launch} {a : Nat → Nat} {now : (Nat → Int32)} {kept : (Nat → Int32)} {isKept : (Nat → Int32)} {rows : (Nat → Int32)} {rowLong : (Nat → Int32)} {taken : (Nat → Int32)} {anew : (Nat → Int32)} {hand : (Nat → Int32)} {steps : (Nat → Int32)} {shares : (Nat → Int32)} {choices : (Nat → Int32)} {values : (Nat → Int32)} {askedIs : Int32} {above : Int64} {below : Int64} {place : Int32} {partedBy : Int32} {texts : (Nat → Int32)} {textLong : (Nat → Int32)} {found : (Nat → Int32)} {latest : Int32} {x1 : Int32} {x2 : Int32} {res : Int32 × (Nat → Int32) × (Nat → Int32) × (Nat → Int32) × Int32} (h : M_X7_text texts textLong found latest x1 x2 = some res) : x_M G l yX7_text cX7_text 4 (some .int) (2) 0 0 [.ref (a 0), .int x1, .int x2] (WModel G a now kept isKept rows rowLong texts textLong found taken anew hand steps shares choices values latest askedIs above below place partedBy) (x_is (some (.int res.1)) (WModel G a now kept isKept rows rowLong res.2.1 res.2.2.1 res.2.2.2.1 taken anew hand steps shares choices values res.2.2.2.2 askedIs above below place partedBy)) := by
  unfold M_X7_text at h
  refine x_enter (ini := false) (by decide) rfl (by decide) rfl (Nat.le_of_ble_eq_true rfl) ?_
  refine x_iload_n dX7_text_0 1 rfl rfl ?_
  refine x_cS (As := [.int x1]) (wc := ([] : va_W)) (w1 := ([] : va_W)) (pre := []) (post := (WModel G a now kept isKept rows rowLong texts textLong found taken anew hand steps shares choices values latest askedIs above below place partedBy)) (rest := []) (st1 := [.int (M_X7_isText x1)]) (ws1 := (WModel G a now kept isKept rows rowLong texts textLong found taken anew hand steps shares choices values latest askedIs above below place partedBy)) dX7_text_1 (c_X7_isText rfl) pk_X7_isText ml_X7_90 rfl rfl rfl rfl rfl rfl rfl ?_
  refine x_if_eq 13 dX7_text_4 (by decide) (fun c3 => ?_) (fun c3 => ?_)
  · have h := x_pos c3 h
    refine x_iconst (-1 : Int32) dX7_text_13 (by decide) ?_
    cases h
    exact x_ireturn dX7_text_14 rfl (x_is.rf _ _)
  · have h := x_neg c3 h
    refine x_iload_n dX7_text_7 2 rfl rfl ?_
    refine x_bipush 60 dX7_text_8 (by decide) ?_
    refine x_icmp_le 15 dX7_text_10 (by decide) (fun c4 => ?_) (fun c4 => ?_)
    · have h := x_pos c4 h
      refine x_iload_n dX7_text_15 2 rfl rfl ?_
      refine x_if_ge 25 dX7_text_16 (by decide) (fun c5 => ?_) (fun c5 => ?_)
      · have h := x_pos c5 h
        refine x_aload_n dX7_text_25 0 rfl rfl ?_
        refine x_get (ci := 5) 6 0 dX7_text_26 fl_X7_29 inX7 rfl (by decide) ⟨rfl, rfl, rfl⟩ rfl rfl ?_
        refine x_iload_n dX7_text_29 1 rfl rfl ?_
        refine x_iload_n dX7_text_30 2 rfl rfl ?_
        obtain ⟨b6, h⟩ := x_guard h
        refine x_iast x1.toNatClampNeg (q0 := 7) (WModel G a now kept isKept rows rowLong texts ((upd textLong x1.toNatClampNeg x2)) found taken anew hand steps shares choices values latest askedIs above below place partedBy) dX7_text_31 rfl rfl b6 rfl ?_
        refine x_iconst 0 dX7_text_32 (by decide) ?_
        refine x_istore_n [(3, .int (0 : Int32)), (0, .ref (a 0)), (1, .int x1), (2, .int x2)] dX7_text_33 rfl (by decide) rfl ?_
        refine x_lv [1, 2, 3, 0] rfl ?_
        exact w_X7_text_b34  _ _ _ _ _ _ _ _ h
      · have h := x_neg c5 h
        refine x_aload_n dX7_text_19 0 rfl rfl ?_
        refine x_iconst 5 dX7_text_20 (by decide) ?_
        obtain ⟨r7, e8, h⟩ := x_bind h
        refine x_cV (As := [.int (5 : Int32)]) (wc := (WModel G a now kept isKept rows rowLong texts textLong found taken anew hand steps shares choices values latest askedIs above below place partedBy)) (w1 := (WModel G a now kept isKept rows rowLong texts textLong r7.2.1 taken anew hand steps shares choices values r7.2.2 askedIs above below place partedBy)) (pre := []) (post := []) (rest := []) (st1 := [.int r7.1]) (ws1 := (WModel G a now kept isKept rows rowLong texts textLong r7.2.1 taken anew hand steps shares choices values r7.2.2 askedIs above below place partedBy)) (ci := 5) 0 dX7_text_21 (c_X7_finds (a := a) e8) pk_X7_finds ml_X7_79 (x_full _) rfl rfl rfl rfl rfl rfl rfl rfl (x_full _).symm ?_
        cases h
        exact x_ireturn dX7_text_24 rfl (x_is.rf _ _)
    · have h := x_neg c4 h
      refine x_iconst (-1 : Int32) dX7_text_13 (by decide) ?_
      cases h
      exact x_ireturn dX7_text_14 rfl (x_is.rf _ _)
theorem pk_X7_put : x_pv RX7 yX7_put cX7_put 6 (some .int) 3 := ⟨⟨co_X7_put, ni_X7, by decide, by decide +kernel⟩, im_X7_put, se_X7_put⟩
def M_X7_put_b96 (textLong : (Nat → Int32)) (texts : (Nat → Int32)) (found : (Nat → Int32)) (latest : Int32) (x4 : Int32) (s1 : Int32) (s2 : Int32) : Option (Int32 × (Nat → Int32) × (Nat → Int32) × Int32) :=
  if inb s1 240 then
  some ((x4 + (1000 : Int32)), (upd texts s1.toNatClampNeg s2), found, latest)
  else none
set_option maxHeartbeats 4000000 in
set_option maxRecDepth 100000 in
theorem w_X7_put_b96 {G : x_G} {l : Launch} {a : Nat → Nat} {textLong : (Nat → Int32)} {now : (Nat → Int32)} {kept : (Nat → Int32)} {isKept : (Nat → Int32)} {rows : (Nat → Int32)} {rowLong : (Nat → Int32)} {taken : (Nat → Int32)} {anew : (Nat → Int32)} {hand : (Nat → Int32)} {steps : (Nat → Int32)} {shares : (Nat → Int32)} {choices : (Nat → Int32)} {values : (Nat → Int32)} {askedIs : Int32} {above : Int64} {below : Int64} {place : Int32} {partedBy : Int32} {res : Int32 × (Nat → Int32) × (Nat → Int32) × Int32} (texts : (Nat → Int32)) (found : (Nat → Int32)) (latest : Int32) (x4 : Int32) (s1 : Int32) (s2 : Int32) (h : M_X7_put_b96 textLong texts found latest x4 s1 s2 = some res) : X G l RX7 cX7_put 6 (x_R 2 0 0) (x_Cm G (some .int) false (x_is (some (.int res.1)) (WModel G a now kept isKept rows rowLong res.2.1 textLong res.2.2.1 taken anew hand steps shares choices values res.2.2.2 askedIs above below place partedBy)) 0 0) 0 0 96 [(4, .int x4)] [.int s2, .int s1, .ref (a 6)] (WModel G a now kept isKept rows rowLong texts textLong found taken anew hand steps shares choices values latest askedIs above below place partedBy) := by
  unfold M_X7_put_b96 at h
  obtain ⟨b1, h⟩ := x_guard h
  refine x_iast s1.toNatClampNeg (q0 := 6) (WModel G a now kept isKept rows rowLong ((upd texts s1.toNatClampNeg s2)) textLong found taken anew hand steps shares choices values latest askedIs above below place partedBy) dX7_put_96 rfl rfl b1 rfl ?_
  refine x_iload dX7_put_97 0 rfl ?_
  refine x_sipush 1000 dX7_put_99 (by decide) ?_
  refine x_iadd dX7_put_102 ?_
  cases h
  exact x_ireturn dX7_put_103 rfl (x_is.rf _ _)
def M_X7_put (textLong : (Nat → Int32)) (texts : (Nat → Int32)) (found : (Nat → Int32)) (latest : Int32) (x1 : Int32) (x2 : Int32) (x3 : Int32) : Option (Int32 × (Nat → Int32) × (Nat → Int32) × Int32) :=
  if (M_X7_isText x1) = 0 then
  (some ((-1 : Int32), texts, found, latest))
  else
  (if inb x1 4 then
  if 0 ≤ (textLong x1.toNatClampNeg) then
  (if (M_X7_in x2.toInt64 (0 : Int64) (((textLong x1.toNatClampNeg) - (1 : Int32)).toInt64)) = 0 then
  ((M_X7_finds found latest (2 : Int32)).bind fun r8 =>
  some (r8.1, texts, r8.2.1, r8.2.2))
  else
  (if inb (((60 : Int32) * x1) + x2) 240 then
  if (x3 &&& (255 : Int32)) ≤ (127 : Int32) then
  (M_X7_put_b96 textLong texts found latest (texts (((60 : Int32) * x1) + x2).toNatClampNeg) (((60 : Int32) * x1) + x2) (x3 &&& (255 : Int32)))
  else
  (M_X7_put_b96 textLong texts found latest (texts (((60 : Int32) * x1) + x2).toNatClampNeg) (((60 : Int32) * x1) + x2) ((x3 &&& (255 : Int32)) - (256 : Int32)))
  else none))
  else
  ((M_X7_finds found latest (1 : Int32)).bind fun r10 =>
  some (r10.1, texts, r10.2.1, r10.2.2))
  else none)
set_option maxHeartbeats 4000000 in
set_option maxRecDepth 100000 in
theorem c_X7_put {G : x_G} {l : Launch} {a : Nat → Nat} {textLong : (Nat → Int32)} {now : (Nat → Int32)} {kept : (Nat → Int32)} {isKept : (Nat → Int32)} {rows : (Nat → Int32)} {rowLong : (Nat → Int32)} {taken : (Nat → Int32)} {anew : (Nat → Int32)} {hand : (Nat → Int32)} {steps : (Nat → Int32)} {shares : (Nat → Int32)} {choices : (Nat → Int32)} {values : (Nat → Int32)} {askedIs : Int32} {above : Int64} {below : Int64} {place : Int32} {partedBy : Int32} {texts : (Nat → Int32)} {found : (Nat → Int32)} {latest : Int32} {x1 : Int32} {x2 : Int32} {x3 : Int32} {res : Int32 × (Nat → Int32) × (Nat → Int32) × Int32} (h : M_X7_put textLong texts found latest x1 x2 x3 = some res) : x_M G l yX7_put cX7_put 6 (some .int) (2) 0 0 [.ref (a 0), .int x1, .int x2, .int x3] (WModel G a now kept isKept rows rowLong texts textLong found taken anew hand steps shares choices values latest askedIs above below place partedBy) (x_is (some (.int res.1)) (WModel G a now kept isKept rows rowLong res.2.1 textLong res.2.2.1 taken anew hand steps shares choices values res.2.2.2 askedIs above below place partedBy)) := by
  unfold M_X7_put at h
  refine x_enter (ini := false) (by decide) rfl (by decide) rfl (Nat.le_of_ble_eq_true rfl) ?_
  refine x_iload_n dX7_put_0 1 rfl rfl ?_
  refine x_cS (As := [.int x1]) (wc := ([] : va_W)) (w1 := ([] : va_W)) (pre := []) (post := (WModel G a now kept isKept rows rowLong texts textLong found taken anew hand steps shares choices values latest askedIs above below place partedBy)) (rest := []) (st1 := [.int (M_X7_isText x1)]) (ws1 := (WModel G a now kept isKept rows rowLong texts textLong found taken anew hand steps shares choices values latest askedIs above below place partedBy)) dX7_put_1 (c_X7_isText rfl) pk_X7_isText ml_X7_90 rfl rfl rfl rfl rfl rfl rfl ?_
  refine x_if_ne 9 dX7_put_4 (by decide) (fun c2 => ?_) (fun c2 => ?_)
  · have h := x_neg c2 h
    refine x_aload_n dX7_put_9 0 rfl rfl ?_
    refine x_get (ci := 5) 6 0 dX7_put_10 fl_X7_29 inX7 rfl (by decide) ⟨rfl, rfl, rfl⟩ rfl rfl ?_
    refine x_iload_n dX7_put_13 1 rfl rfl ?_
    obtain ⟨b3, h⟩ := x_guard h
    refine x_iald x1.toNatClampNeg (q0 := 7) dX7_put_14 rfl rfl b3 ?_
    refine x_if_ge 24 dX7_put_15 (by decide) (fun c4 => ?_) (fun c4 => ?_)
    · have h := x_pos c4 h
      refine x_iload_n dX7_put_24 2 rfl rfl ?_
      refine x_i2l dX7_put_25 ?_
      refine x_lconst 0 dX7_put_26 (by decide) ?_
      refine x_aload_n dX7_put_27 0 rfl rfl ?_
      refine x_get (ci := 5) 6 0 dX7_put_28 fl_X7_29 inX7 rfl (by decide) ⟨rfl, rfl, rfl⟩ rfl rfl ?_
      refine x_iload_n dX7_put_31 1 rfl rfl ?_
      refine x_iald x1.toNatClampNeg (q0 := 7) dX7_put_32 rfl rfl b3 ?_
      refine x_iconst 1 dX7_put_33 (by decide) ?_
      refine x_isub dX7_put_34 ?_
      refine x_i2l dX7_put_35 ?_
      refine x_cS (As := [.long x2.toInt64, .long (0 : Int64), .long (((textLong x1.toNatClampNeg) - (1 : Int32)).toInt64)]) (wc := ([] : va_W)) (w1 := ([] : va_W)) (pre := []) (post := (WModel G a now kept isKept rows rowLong texts textLong found taken anew hand steps shares choices values latest askedIs above below place partedBy)) (rest := []) (st1 := [.int (M_X7_in x2.toInt64 (0 : Int64) (((textLong x1.toNatClampNeg) - (1 : Int32)).toInt64))]) (ws1 := (WModel G a now kept isKept rows rowLong texts textLong found taken anew hand steps shares choices values latest askedIs above below place partedBy)) dX7_put_36 (c_X7_in rfl) pk_X7_in ml_X7_69 rfl rfl rfl rfl rfl rfl rfl ?_
      refine x_if_ne 48 dX7_put_39 (by decide) (fun c5 => ?_) (fun c5 => ?_)
      · have h := x_neg c5 h
        refine x_aload_n dX7_put_48 0 rfl rfl ?_
        refine x_get (ci := 5) 5 0 dX7_put_49 fl_X7_26 inX7 rfl (by decide) ⟨rfl, rfl, rfl⟩ rfl rfl ?_
        refine x_bipush 60 dX7_put_52 (by decide) ?_
        refine x_iload_n dX7_put_54 1 rfl rfl ?_
        refine x_imul dX7_put_55 ?_
        refine x_iload_n dX7_put_56 2 rfl rfl ?_
        refine x_iadd dX7_put_57 ?_
        obtain ⟨b6, h⟩ := x_guard h
        refine x_iald (((60 : Int32) * x1) + x2).toNatClampNeg (q0 := 6) dX7_put_58 rfl rfl b6 ?_
        refine x_istore [(4, .int (texts (((60 : Int32) * x1) + x2).toNatClampNeg)), (0, .ref (a 0)), (1, .int x1), (2, .int x2), (3, .int x3)] dX7_put_59 (by decide) rfl ?_
        refine x_iload_n dX7_put_61 4 rfl rfl ?_
        refine x_sipush 255 dX7_put_62 (by decide) ?_
        refine x_iand dX7_put_65 ?_
        refine x_istore [(5, .int (x3 &&& (255 : Int32))), (4, .int (texts (((60 : Int32) * x1) + x2).toNatClampNeg)), (0, .ref (a 0)), (1, .int x1), (2, .int x2), (3, .int x3)] dX7_put_66 (by decide) rfl ?_
        refine x_aload_n dX7_put_68 2 rfl rfl ?_
        refine x_get (ci := 5) 5 0 dX7_put_69 fl_X7_26 inX7 rfl (by decide) ⟨rfl, rfl, rfl⟩ rfl rfl ?_
        refine x_bipush 60 dX7_put_72 (by decide) ?_
        refine x_iload_n dX7_put_74 3 rfl rfl ?_
        refine x_imul dX7_put_75 ?_
        refine x_iload_n dX7_put_76 4 rfl rfl ?_
        refine x_iadd dX7_put_77 ?_
        refine x_iload dX7_put_78 0 rfl ?_
        refine x_bipush 127 dX7_put_80 (by decide) ?_
        refine x_icmp_le 94 dX7_put_82 (by decide) (fun c7 => ?_) (fun c7 => ?_)
        · have h := x_pos c7 h
          refine x_iload dX7_put_94 0 rfl ?_
          refine x_lv [1] rfl ?_
          exact w_X7_put_b96  _ _ _ _ _ _ h
        · have h := x_neg c7 h
          refine x_iload dX7_put_85 0 rfl ?_
          refine x_sipush 256 dX7_put_87 (by decide) ?_
          refine x_isub dX7_put_90 ?_
          refine x_goto 96 dX7_put_91 (by decide) ?_
          refine x_lv [1] rfl ?_
          exact w_X7_put_b96  _ _ _ _ _ _ h
      · have h := x_pos c5 h
        refine x_aload_n dX7_put_42 0 rfl rfl ?_
        refine x_iconst 2 dX7_put_43 (by decide) ?_
        obtain ⟨r8, e9, h⟩ := x_bind h
        refine x_cV (As := [.int (2 : Int32)]) (wc := (WModel G a now kept isKept rows rowLong texts textLong found taken anew hand steps shares choices values latest askedIs above below place partedBy)) (w1 := (WModel G a now kept isKept rows rowLong texts textLong r8.2.1 taken anew hand steps shares choices values r8.2.2 askedIs above below place partedBy)) (pre := []) (post := []) (rest := []) (st1 := [.int r8.1]) (ws1 := (WModel G a now kept isKept rows rowLong texts textLong r8.2.1 taken anew hand steps shares choices values r8.2.2 askedIs above below place partedBy)) (ci := 5) 0 dX7_put_44 (c_X7_finds (a := a) e9) pk_X7_finds ml_X7_79 (x_full _) rfl rfl rfl rfl rfl rfl rfl rfl (x_full _).symm ?_
        cases h
        exact x_ireturn dX7_put_47 rfl (x_is.rf _ _)
    · have h := x_neg c4 h
      refine x_aload_n dX7_put_18 0 rfl rfl ?_
      refine x_iconst 1 dX7_put_19 (by decide) ?_
      obtain ⟨r10, e11, h⟩ := x_bind h
      refine x_cV (As := [.int (1 : Int32)]) (wc := (WModel G a now kept isKept rows rowLong texts textLong found taken anew hand steps shares choices values latest askedIs above below place partedBy)) (w1 := (WModel G a now kept isKept rows rowLong texts textLong r10.2.1 taken anew hand steps shares choices values r10.2.2 askedIs above below place partedBy)) (pre := []) (post := []) (rest := []) (st1 := [.int r10.1]) (ws1 := (WModel G a now kept isKept rows rowLong texts textLong r10.2.1 taken anew hand steps shares choices values r10.2.2 askedIs above below place partedBy)) (ci := 5) 0 dX7_put_20 (c_X7_finds (a := a) e11) pk_X7_finds ml_X7_79 (x_full _) rfl rfl rfl rfl rfl rfl rfl rfl (x_full _).symm ?_
      cases h
      exact x_ireturn dX7_put_23 rfl (x_is.rf _ _)
  · have h := x_pos c2 h
    refine x_iconst (-1 : Int32) dX7_put_7 (by decide) ?_
    cases h
    exact x_ireturn dX7_put_8 rfl (x_is.rf _ _)
theorem pk_X7_here : x_pv RX7 yX7_here cX7_here 2 (some .int) 1 := ⟨⟨co_X7_here, ni_X7, by decide, by decide +kernel⟩, im_X7_here, se_X7_here⟩
def M_X7_here (texts : (Nat → Int32)) (textLong : (Nat → Int32)) (place : Int32) (x1 : Int32) : Option (Int32) :=
  if inb x1 4 then
  if (textLong x1.toNatClampNeg) ≤ place then
  (some (-9 : Int32))
  else
  (if inb (((60 : Int32) * x1) + place) 240 then
  some (texts (((60 : Int32) * x1) + place).toNatClampNeg)
  else none)
  else none
set_option maxHeartbeats 4000000 in
set_option maxRecDepth 100000 in
theorem c_X7_here {G : x_G} {l : Launch} {a : Nat → Nat} {texts : (Nat → Int32)} {textLong : (Nat → Int32)} {place : Int32} {now : (Nat → Int32)} {kept : (Nat → Int32)} {isKept : (Nat → Int32)} {rows : (Nat → Int32)} {rowLong : (Nat → Int32)} {found : (Nat → Int32)} {taken : (Nat → Int32)} {anew : (Nat → Int32)} {hand : (Nat → Int32)} {steps : (Nat → Int32)} {shares : (Nat → Int32)} {choices : (Nat → Int32)} {values : (Nat → Int32)} {latest : Int32} {askedIs : Int32} {above : Int64} {below : Int64} {partedBy : Int32} {x1 : Int32} {res : Int32} (h : M_X7_here texts textLong place x1 = some res) : x_M G l yX7_here cX7_here 2 (some .int) (0) 0 0 [.ref (a 0), .int x1] (WModel G a now kept isKept rows rowLong texts textLong found taken anew hand steps shares choices values latest askedIs above below place partedBy) (x_is (some (.int res)) (WModel G a now kept isKept rows rowLong texts textLong found taken anew hand steps shares choices values latest askedIs above below place partedBy)) := by
  unfold M_X7_here at h
  refine x_enter (ini := false) (by decide) rfl (by decide) rfl (Nat.le_of_ble_eq_true rfl) ?_
  refine x_aload_n dX7_here_0 0 rfl rfl ?_
  refine x_get (ci := 5) 14 0 dX7_here_1 fl_X7_93 inX7 rfl (by decide) ⟨rfl, rfl, rfl⟩ rfl rfl ?_
  refine x_aload_n dX7_here_4 0 rfl rfl ?_
  refine x_get (ci := 5) 6 0 dX7_here_5 fl_X7_29 inX7 rfl (by decide) ⟨rfl, rfl, rfl⟩ rfl rfl ?_
  refine x_iload_n dX7_here_8 1 rfl rfl ?_
  obtain ⟨b1, h⟩ := x_guard h
  refine x_iald x1.toNatClampNeg (q0 := 7) dX7_here_9 rfl rfl b1 ?_
  refine x_icmp_ge 30 dX7_here_10 (by decide) (fun c2 => ?_) (fun c2 => ?_)
  · have h := x_pos c2 h
    refine x_bipush (-9 : Int32) dX7_here_30 (by decide) ?_
    cases h
    exact x_ireturn dX7_here_32 rfl (x_is.rf _ _)
  · have h := x_neg c2 h
    refine x_aload_n dX7_here_13 0 rfl rfl ?_
    refine x_get (ci := 5) 5 0 dX7_here_14 fl_X7_26 inX7 rfl (by decide) ⟨rfl, rfl, rfl⟩ rfl rfl ?_
    refine x_bipush 60 dX7_here_17 (by decide) ?_
    refine x_iload_n dX7_here_19 1 rfl rfl ?_
    refine x_imul dX7_here_20 ?_
    refine x_aload_n dX7_here_21 0 rfl rfl ?_
    refine x_get (ci := 5) 14 0 dX7_here_22 fl_X7_93 inX7 rfl (by decide) ⟨rfl, rfl, rfl⟩ rfl rfl ?_
    refine x_iadd dX7_here_25 ?_
    obtain ⟨b3, h⟩ := x_guard h
    refine x_iald (((60 : Int32) * x1) + place).toNatClampNeg (q0 := 6) dX7_here_26 rfl rfl b3 ?_
    refine x_goto 32 dX7_here_27 (by decide) ?_
    cases h
    exact x_ireturn dX7_here_32 rfl (x_is.rf _ _)
theorem pk_X7_skip : x_pv RX7 yX7_skip cX7_skip 2 none 1 := ⟨⟨co_X7_skip, ni_X7, by decide, by decide +kernel⟩, im_X7_skip, se_X7_skip⟩
def M_X7_skip_b0 (texts : (Nat → Int32)) (textLong : (Nat → Int32)) : Nat → Int32 → Int32 → Option (Int32)
  | 0, _, _ => none
  | n + 1, place, x1 =>
    (M_X7_here texts textLong place x1).bind fun r1 =>
    if r1 = (32 : Int32) then
    (M_X7_skip_b0 texts textLong n (place + (1 : Int32)) x1)
    else
    (some (place))
set_option maxHeartbeats 4000000 in
set_option maxRecDepth 100000 in
theorem w_X7_skip_b0 {G : x_G} {l : Launch} {a : Nat → Nat} {texts : (Nat → Int32)} {textLong : (Nat → Int32)} {now : (Nat → Int32)} {kept : (Nat → Int32)} {isKept : (Nat → Int32)} {rows : (Nat → Int32)} {rowLong : (Nat → Int32)} {found : (Nat → Int32)} {taken : (Nat → Int32)} {anew : (Nat → Int32)} {hand : (Nat → Int32)} {steps : (Nat → Int32)} {shares : (Nat → Int32)} {choices : (Nat → Int32)} {values : (Nat → Int32)} {latest : Int32} {askedIs : Int32} {above : Int64} {below : Int64} {partedBy : Int32} {res : Int32} : ∀ (n : Nat) (place : Int32) (x1 : Int32), M_X7_skip_b0 texts textLong n place x1 = some res → X G l RX7 cX7_skip 2 (x_R 1 0 0) (x_Cm G none false (x_is none (WModel G a now kept isKept rows rowLong texts textLong found taken anew hand steps shares choices values latest askedIs above below res partedBy)) 0 0) 0 0 0 [(0, .ref (a 0)), (1, .int x1)] [] (WModel G a now kept isKept rows rowLong texts textLong found taken anew hand steps shares choices values latest askedIs above below place partedBy) := by
  intro n
  induction n with
  | zero =>
    intro _ _ h
    cases h
  | succ n ih =>
    intro place x1 h
    rw [M_X7_skip_b0] at h
    refine x_aload_n dX7_skip_0 0 rfl rfl ?_
    refine x_iload_n dX7_skip_1 1 rfl rfl ?_
    obtain ⟨r1, e2, h⟩ := x_bind h
    refine x_cV (As := [.int x1]) (wc := (WModel G a now kept isKept rows rowLong texts textLong found taken anew hand steps shares choices values latest askedIs above below place partedBy)) (w1 := (WModel G a now kept isKept rows rowLong texts textLong found taken anew hand steps shares choices values latest askedIs above below place partedBy)) (pre := []) (post := []) (rest := []) (st1 := [.int r1]) (ws1 := (WModel G a now kept isKept rows rowLong texts textLong found taken anew hand steps shares choices values latest askedIs above below place partedBy)) (ci := 5) 0 dX7_skip_2 (c_X7_here (a := a) e2) pk_X7_here ml_X7_96 (x_full _) rfl rfl rfl rfl rfl rfl rfl rfl (x_full _).symm ?_
    refine x_bipush 32 dX7_skip_5 (by decide) ?_
    refine x_icmp_ne 23 dX7_skip_7 (by decide) (fun c3 => ?_) (fun c3 => ?_)
    · have h := x_neg c3 h
      cases h
      exact x_return dX7_skip_23 (x_is.rf _ _)
    · have h := x_pos c3 h
      refine x_aload_n dX7_skip_10 0 rfl rfl ?_
      refine x_dup dX7_skip_11 rfl ?_
      refine x_get (ci := 5) 14 0 dX7_skip_12 fl_X7_93 inX7 rfl (by decide) ⟨rfl, rfl, rfl⟩ rfl rfl ?_
      refine x_iconst 1 dX7_skip_15 (by decide) ?_
      refine x_iadd dX7_skip_16 ?_
      refine x_put (ci := 5) (ty := .int) 14 0 (WModel G a now kept isKept rows rowLong texts textLong found taken anew hand steps shares choices values latest askedIs above below ((place + (1 : Int32))) partedBy) dX7_skip_17 fl_X7_93 inX7 tyX7_ok nmX7 rfl (by decide) ⟨rfl, rfl, rfl, rfl, rfl⟩ rfl rfl rfl rfl rfl ?_
      refine x_goto 0 dX7_skip_20 (by decide) ?_
      exact ih _ _ h
def M_X7_skip (texts : (Nat → Int32)) (textLong : (Nat → Int32)) (place : Int32) (x1 : Int32) : Option (Int32) :=
  M_X7_skip_b0 texts textLong x_fuel place x1
set_option maxHeartbeats 4000000 in
set_option maxRecDepth 100000 in
theorem c_X7_skip {G : x_G} {l : Launch} {a : Nat → Nat} {texts : (Nat → Int32)} {textLong : (Nat → Int32)} {now : (Nat → Int32)} {kept : (Nat → Int32)} {isKept : (Nat → Int32)} {rows : (Nat → Int32)} {rowLong : (Nat → Int32)} {found : (Nat → Int32)} {taken : (Nat → Int32)} {anew : (Nat → Int32)} {hand : (Nat → Int32)} {steps : (Nat → Int32)} {shares : (Nat → Int32)} {choices : (Nat → Int32)} {values : (Nat → Int32)} {latest : Int32} {askedIs : Int32} {above : Int64} {below : Int64} {partedBy : Int32} {place : Int32} {x1 : Int32} {res : Int32} (h : M_X7_skip texts textLong place x1 = some res) : x_M G l yX7_skip cX7_skip 2 none (1) 0 0 [.ref (a 0), .int x1] (WModel G a now kept isKept rows rowLong texts textLong found taken anew hand steps shares choices values latest askedIs above below place partedBy) (x_is none (WModel G a now kept isKept rows rowLong texts textLong found taken anew hand steps shares choices values latest askedIs above below res partedBy)) := by
  unfold M_X7_skip at h
  refine x_enter (ini := false) (by decide) rfl (by decide) rfl (Nat.le_of_ble_eq_true rfl) ?_
  exact w_X7_skip_b0  _ _ _ h
theorem pk_X7_takes : x_pv RX7 yX7_takes cX7_takes 6 (some .boolean) 4 := ⟨⟨co_X7_takes, ni_X7, by decide, by decide +kernel⟩, im_X7_takes, se_X7_takes⟩
def M_X7_takes (texts : (Nat → Int32)) (textLong : (Nat → Int32)) (anew : (Nat → Int32)) (place : Int32) (x1 : Int32) (x2 : Int32) (x3 : Int32) (x4 : Int32) : Option (Int32 × (Nat → Int32) × Int32) :=
  (M_X7_here texts textLong place x1).bind fun r1 =>
  if (M_X7_in r1.toInt64 (((48 : Int32) + x3).toInt64) (((48 : Int32) + x4).toInt64)) = 0 then
  (some ((0 : Int32), anew, place))
  else
  (if inb x2 85 then
  some ((1 : Int32), (upd anew x2.toNatClampNeg (r1 - (48 : Int32))), (place + (1 : Int32)))
  else none)
set_option maxHeartbeats 4000000 in
set_option maxRecDepth 100000 in
theorem c_X7_takes {G : x_G} {l : Launch} {a : Nat → Nat} {texts : (Nat → Int32)} {textLong : (Nat → Int32)} {now : (Nat → Int32)} {kept : (Nat → Int32)} {isKept : (Nat → Int32)} {rows : (Nat → Int32)} {rowLong : (Nat → Int32)} {found : (Nat → Int32)} {taken : (Nat → Int32)} {hand : (Nat → Int32)} {steps : (Nat → Int32)} {shares : (Nat → Int32)} {choices : (Nat → Int32)} {values : (Nat → Int32)} {latest : Int32} {askedIs : Int32} {above : Int64} {below : Int64} {partedBy : Int32} {anew : (Nat → Int32)} {place : Int32} {x1 : Int32} {x2 : Int32} {x3 : Int32} {x4 : Int32} {res : Int32 × (Nat → Int32) × Int32} (h : M_X7_takes texts textLong anew place x1 x2 x3 x4 = some res) : x_M G l yX7_takes cX7_takes 6 (some .boolean) (1) 0 0 [.ref (a 0), .int x1, .int x2, .int x3, .int x4] (WModel G a now kept isKept rows rowLong texts textLong found taken anew hand steps shares choices values latest askedIs above below place partedBy) (x_is (some (.int res.1)) (WModel G a now kept isKept rows rowLong texts textLong found taken res.2.1 hand steps shares choices values latest askedIs above below res.2.2 partedBy)) := by
  unfold M_X7_takes at h
  refine x_enter (ini := false) (by decide) rfl (by decide) rfl (Nat.le_of_ble_eq_true rfl) ?_
  refine x_aload_n dX7_takes_0 0 rfl rfl ?_
  refine x_iload_n dX7_takes_1 1 rfl rfl ?_
  obtain ⟨r1, e2, h⟩ := x_bind h
  refine x_cV (As := [.int x1]) (wc := (WModel G a now kept isKept rows rowLong texts textLong found taken anew hand steps shares choices values latest askedIs above below place partedBy)) (w1 := (WModel G a now kept isKept rows rowLong texts textLong found taken anew hand steps shares choices values latest askedIs above below place partedBy)) (pre := []) (post := []) (rest := []) (st1 := [.int r1]) (ws1 := (WModel G a now kept isKept rows rowLong texts textLong found taken anew hand steps shares choices values latest askedIs above below place partedBy)) (ci := 5) 0 dX7_takes_2 (c_X7_here (a := a) e2) pk_X7_here ml_X7_96 (x_full _) rfl rfl rfl rfl rfl rfl rfl rfl (x_full _).symm ?_
  refine x_istore [(5, .int r1), (0, .ref (a 0)), (1, .int x1), (2, .int x2), (3, .int x3), (4, .int x4)] dX7_takes_5 (by decide) rfl ?_
  refine x_iload dX7_takes_7 0 rfl ?_
  refine x_i2l dX7_takes_9 ?_
  refine x_bipush 48 dX7_takes_10 (by decide) ?_
  refine x_iload_n dX7_takes_12 4 rfl rfl ?_
  refine x_iadd dX7_takes_13 ?_
  refine x_i2l dX7_takes_14 ?_
  refine x_bipush 48 dX7_takes_15 (by decide) ?_
  refine x_iload dX7_takes_17 5 rfl ?_
  refine x_iadd dX7_takes_19 ?_
  refine x_i2l dX7_takes_20 ?_
  refine x_cS (As := [.long r1.toInt64, .long (((48 : Int32) + x3).toInt64), .long (((48 : Int32) + x4).toInt64)]) (wc := ([] : va_W)) (w1 := ([] : va_W)) (pre := []) (post := (WModel G a now kept isKept rows rowLong texts textLong found taken anew hand steps shares choices values latest askedIs above below place partedBy)) (rest := []) (st1 := [.int (M_X7_in r1.toInt64 (((48 : Int32) + x3).toInt64) (((48 : Int32) + x4).toInt64))]) (ws1 := (WModel G a now kept isKept rows rowLong texts textLong found taken anew hand steps shares choices values latest askedIs above below place partedBy)) dX7_takes_21 (c_X7_in rfl) pk_X7_in ml_X7_69 rfl rfl rfl rfl rfl rfl rfl ?_
  refine x_if_ne 29 dX7_takes_24 (by decide) (fun c3 => ?_) (fun c3 => ?_)
  · have h := x_neg c3 h
    refine x_aload_n dX7_takes_29 1 rfl rfl ?_
    refine x_get (ci := 5) 13 0 dX7_takes_30 fl_X7_42 inX7 rfl (by decide) ⟨rfl, rfl, rfl⟩ rfl rfl ?_
    refine x_iload_n dX7_takes_33 3 rfl rfl ?_
    refine x_iload dX7_takes_34 0 rfl ?_
    refine x_bipush 48 dX7_takes_36 (by decide) ?_
    refine x_isub dX7_takes_38 ?_
    obtain ⟨b4, h⟩ := x_guard h
    refine x_iast x2.toNatClampNeg (q0 := 10) (WModel G a now kept isKept rows rowLong texts textLong found taken ((upd anew x2.toNatClampNeg (r1 - (48 : Int32)))) hand steps shares choices values latest askedIs above below place partedBy) dX7_takes_39 rfl rfl b4 rfl ?_
    refine x_aload_n dX7_takes_40 1 rfl rfl ?_
    refine x_dup dX7_takes_41 rfl ?_
    refine x_get (ci := 5) 14 0 dX7_takes_42 fl_X7_93 inX7 rfl (by decide) ⟨rfl, rfl, rfl⟩ rfl rfl ?_
    refine x_iconst 1 dX7_takes_45 (by decide) ?_
    refine x_iadd dX7_takes_46 ?_
    refine x_put (ci := 5) (ty := .int) 14 0 (WModel G a now kept isKept rows rowLong texts textLong found taken ((upd anew x2.toNatClampNeg (r1 - (48 : Int32)))) hand steps shares choices values latest askedIs above below ((place + (1 : Int32))) partedBy) dX7_takes_47 fl_X7_93 inX7 tyX7_ok nmX7 rfl (by decide) ⟨rfl, rfl, rfl, rfl, rfl⟩ rfl rfl rfl rfl rfl ?_
    refine x_iconst 1 dX7_takes_50 (by decide) ?_
    cases h
    exact x_ireturn dX7_takes_51 rfl (x_is.rf _ _)
  · have h := x_pos c3 h
    refine x_iconst 0 dX7_takes_27 (by decide) ?_
    cases h
    exact x_ireturn dX7_takes_28 rfl (x_is.rf _ _)
theorem pk_X7_takesFirst : x_pv RX7 yX7_takesFirst cX7_takesFirst 2 (some .boolean) 1 := ⟨⟨co_X7_takesFirst, ni_X7, by decide, by decide +kernel⟩, im_X7_takesFirst, se_X7_takesFirst⟩
def M_X7_takesFirst (texts : (Nat → Int32)) (textLong : (Nat → Int32)) (anew : (Nat → Int32)) (place : Int32) (x1 : Int32) : Option (Int32 × (Nat → Int32) × Int32) :=
  (M_X7_skip texts textLong place x1).bind fun r1 =>
  (M_X7_here texts textLong r1 x1).bind fun r3 =>
  if r3 = (104 : Int32) then
  ((M_X7_takes texts textLong anew (r1 + (1 : Int32)) x1 (26 : Int32) (0 : Int32) (1 : Int32)).bind fun r6 =>
  if narrow .boolean (.int r6.1) = .int r6.1 then
  some (r6.1, r6.2.1, r6.2.2)
  else none)
  else
  (some ((0 : Int32), anew, r1))
set_option maxHeartbeats 4000000 in
set_option maxRecDepth 100000 in
theorem c_X7_takesFirst {G : x_G} {l : Launch} {a : Nat → Nat} {texts : (Nat → Int32)} {textLong : (Nat → Int32)} {now : (Nat → Int32)} {kept : (Nat → Int32)} {isKept : (Nat → Int32)} {rows : (Nat → Int32)} {rowLong : (Nat → Int32)} {found : (Nat → Int32)} {taken : (Nat → Int32)} {hand : (Nat → Int32)} {steps : (Nat → Int32)} {shares : (Nat → Int32)} {choices : (Nat → Int32)} {values : (Nat → Int32)} {latest : Int32} {askedIs : Int32} {above : Int64} {below : Int64} {partedBy : Int32} {anew : (Nat → Int32)} {place : Int32} {x1 : Int32} {res : Int32 × (Nat → Int32) × Int32} (h : M_X7_takesFirst texts textLong anew place x1 = some res) : x_M G l yX7_takesFirst cX7_takesFirst 2 (some .boolean) (2) 0 0 [.ref (a 0), .int x1] (WModel G a now kept isKept rows rowLong texts textLong found taken anew hand steps shares choices values latest askedIs above below place partedBy) (x_is (some (.int res.1)) (WModel G a now kept isKept rows rowLong texts textLong found taken res.2.1 hand steps shares choices values latest askedIs above below res.2.2 partedBy)) := by
  unfold M_X7_takesFirst at h
  refine x_enter (ini := false) (by decide) rfl (by decide) rfl (Nat.le_of_ble_eq_true rfl) ?_
  refine x_aload_n dX7_takesFirst_0 0 rfl rfl ?_
  refine x_iload_n dX7_takesFirst_1 1 rfl rfl ?_
  obtain ⟨r1, e2, h⟩ := x_bind h
  refine x_cV (As := [.int x1]) (wc := (WModel G a now kept isKept rows rowLong texts textLong found taken anew hand steps shares choices values latest askedIs above below place partedBy)) (w1 := (WModel G a now kept isKept rows rowLong texts textLong found taken anew hand steps shares choices values latest askedIs above below r1 partedBy)) (pre := []) (post := []) (rest := []) (st1 := []) (ws1 := (WModel G a now kept isKept rows rowLong texts textLong found taken anew hand steps shares choices values latest askedIs above below r1 partedBy)) (ci := 5) 0 dX7_takesFirst_2 (c_X7_skip (a := a) e2) pk_X7_skip ml_X7_103 (x_full _) rfl rfl rfl rfl rfl rfl rfl rfl (x_full _).symm ?_
  refine x_aload_n dX7_takesFirst_5 0 rfl rfl ?_
  refine x_iload_n dX7_takesFirst_6 1 rfl rfl ?_
  obtain ⟨r3, e4, h⟩ := x_bind h
  refine x_cV (As := [.int x1]) (wc := (WModel G a now kept isKept rows rowLong texts textLong found taken anew hand steps shares choices values latest askedIs above below r1 partedBy)) (w1 := (WModel G a now kept isKept rows rowLong texts textLong found taken anew hand steps shares choices values latest askedIs above below r1 partedBy)) (pre := []) (post := []) (rest := []) (st1 := [.int r3]) (ws1 := (WModel G a now kept isKept rows rowLong texts textLong found taken anew hand steps shares choices values latest askedIs above below r1 partedBy)) (ci := 5) 0 dX7_takesFirst_7 (c_X7_here (a := a) e4) pk_X7_here ml_X7_96 (x_full _) rfl rfl rfl rfl rfl rfl rfl rfl (x_full _).symm ?_
  refine x_bipush 104 dX7_takesFirst_10 (by decide) ?_
  refine x_icmp_eq 17 dX7_takesFirst_12 (by decide) (fun c5 => ?_) (fun c5 => ?_)
  · have h := x_pos c5 h
    refine x_aload_n dX7_takesFirst_17 0 rfl rfl ?_
    refine x_dup dX7_takesFirst_18 rfl ?_
    refine x_get (ci := 5) 14 0 dX7_takesFirst_19 fl_X7_93 inX7 rfl (by decide) ⟨rfl, rfl, rfl⟩ rfl rfl ?_
    refine x_iconst 1 dX7_takesFirst_22 (by decide) ?_
    refine x_iadd dX7_takesFirst_23 ?_
    refine x_put (ci := 5) (ty := .int) 14 0 (WModel G a now kept isKept rows rowLong texts textLong found taken anew hand steps shares choices values latest askedIs above below ((r1 + (1 : Int32))) partedBy) dX7_takesFirst_24 fl_X7_93 inX7 tyX7_ok nmX7 rfl (by decide) ⟨rfl, rfl, rfl, rfl, rfl⟩ rfl rfl rfl rfl rfl ?_
    refine x_aload_n dX7_takesFirst_27 0 rfl rfl ?_
    refine x_iload_n dX7_takesFirst_28 1 rfl rfl ?_
    refine x_bipush 26 dX7_takesFirst_29 (by decide) ?_
    refine x_iconst 0 dX7_takesFirst_31 (by decide) ?_
    refine x_iconst 1 dX7_takesFirst_32 (by decide) ?_
    obtain ⟨r6, e7, h⟩ := x_bind h
    refine x_cV (As := [.int x1, .int (26 : Int32), .int (0 : Int32), .int (1 : Int32)]) (wc := (WModel G a now kept isKept rows rowLong texts textLong found taken anew hand steps shares choices values latest askedIs above below ((r1 + (1 : Int32))) partedBy)) (w1 := (WModel G a now kept isKept rows rowLong texts textLong found taken r6.2.1 hand steps shares choices values latest askedIs above below r6.2.2 partedBy)) (pre := []) (post := []) (rest := []) (st1 := [.int r6.1]) (ws1 := (WModel G a now kept isKept rows rowLong texts textLong found taken r6.2.1 hand steps shares choices values latest askedIs above below r6.2.2 partedBy)) (ci := 5) 0 dX7_takesFirst_33 (c_X7_takes (a := a) e7) pk_X7_takes ml_X7_99 (x_full _) rfl rfl rfl rfl rfl rfl rfl rfl (x_full _).symm ?_
    obtain ⟨hz, h⟩ := x_guard h
    cases h
    exact x_ireturn dX7_takesFirst_36 hz (x_is.rf _ _)
  · have h := x_neg c5 h
    refine x_iconst 0 dX7_takesFirst_15 (by decide) ?_
    cases h
    exact x_ireturn dX7_takesFirst_16 rfl (x_is.rf _ _)
theorem pk_X7_kindBy : x_ps yX7_kindBy cX7_kindBy 1 (some .int) 1 := ⟨⟨co_X7_kindBy, ni_X7, by decide, by decide +kernel⟩, sm_X7_kindBy⟩
def M_X7_kindBy (x0 : Int32) : Int32 :=
  if x0 = (114 : Int32) then
  ((0 : Int32))
  else
  (if x0 = (115 : Int32) then
  ((1 : Int32))
  else
  (if x0 = (112 : Int32) then
  ((2 : Int32))
  else
  (if x0 = (110 : Int32) then
  ((3 : Int32))
  else
  (if x0 = (116 : Int32) then
  ((4 : Int32))
  else
  (if x0 = (119 : Int32) then
  ((5 : Int32))
  else
  ((-9 : Int32)))))))
set_option maxHeartbeats 4000000 in
set_option maxRecDepth 100000 in
theorem c_X7_kindBy {G : x_G} {l : Launch} {x0 : Int32} {res : Int32} (h : M_X7_kindBy x0 = res) : x_M G l yX7_kindBy cX7_kindBy 1 (some .int) (0) 0 0 [.int x0] ([] : va_W) (x_is (some (.int res)) ([] : va_W)) := by
  unfold M_X7_kindBy at h
  refine x_enter (ini := false) (by decide) rfl (by decide) rfl (Nat.le_of_ble_eq_true rfl) ?_
  refine x_iload_n dX7_kindBy_0 0 rfl rfl ?_
  refine x_bipush 114 dX7_kindBy_1 (by decide) ?_
  refine x_icmp_ne 10 dX7_kindBy_3 (by decide) (fun c1 => ?_) (fun c1 => ?_)
  · have h := x_neg c1 h
    refine x_iload_n dX7_kindBy_10 0 rfl rfl ?_
    refine x_bipush 115 dX7_kindBy_11 (by decide) ?_
    refine x_icmp_ne 20 dX7_kindBy_13 (by decide) (fun c2 => ?_) (fun c2 => ?_)
    · have h := x_neg c2 h
      refine x_iload_n dX7_kindBy_20 0 rfl rfl ?_
      refine x_bipush 112 dX7_kindBy_21 (by decide) ?_
      refine x_icmp_ne 30 dX7_kindBy_23 (by decide) (fun c3 => ?_) (fun c3 => ?_)
      · have h := x_neg c3 h
        refine x_iload_n dX7_kindBy_30 0 rfl rfl ?_
        refine x_bipush 110 dX7_kindBy_31 (by decide) ?_
        refine x_icmp_ne 40 dX7_kindBy_33 (by decide) (fun c4 => ?_) (fun c4 => ?_)
        · have h := x_neg c4 h
          refine x_iload_n dX7_kindBy_40 0 rfl rfl ?_
          refine x_bipush 116 dX7_kindBy_41 (by decide) ?_
          refine x_icmp_ne 50 dX7_kindBy_43 (by decide) (fun c5 => ?_) (fun c5 => ?_)
          · have h := x_neg c5 h
            refine x_iload_n dX7_kindBy_50 0 rfl rfl ?_
            refine x_bipush 119 dX7_kindBy_51 (by decide) ?_
            refine x_icmp_ne 60 dX7_kindBy_53 (by decide) (fun c6 => ?_) (fun c6 => ?_)
            · have h := x_neg c6 h
              refine x_bipush (-9 : Int32) dX7_kindBy_60 (by decide) ?_
              subst h
              exact x_ireturn dX7_kindBy_62 rfl (x_is.rf _ _)
            · have h := x_pos c6 h
              refine x_iconst 5 dX7_kindBy_56 (by decide) ?_
              refine x_goto 62 dX7_kindBy_57 (by decide) ?_
              subst h
              exact x_ireturn dX7_kindBy_62 rfl (x_is.rf _ _)
          · have h := x_pos c5 h
            refine x_iconst 4 dX7_kindBy_46 (by decide) ?_
            refine x_goto 62 dX7_kindBy_47 (by decide) ?_
            subst h
            exact x_ireturn dX7_kindBy_62 rfl (x_is.rf _ _)
        · have h := x_pos c4 h
          refine x_iconst 3 dX7_kindBy_36 (by decide) ?_
          refine x_goto 62 dX7_kindBy_37 (by decide) ?_
          subst h
          exact x_ireturn dX7_kindBy_62 rfl (x_is.rf _ _)
      · have h := x_pos c3 h
        refine x_iconst 2 dX7_kindBy_26 (by decide) ?_
        refine x_goto 62 dX7_kindBy_27 (by decide) ?_
        subst h
        exact x_ireturn dX7_kindBy_62 rfl (x_is.rf _ _)
    · have h := x_pos c2 h
      refine x_iconst 1 dX7_kindBy_16 (by decide) ?_
      refine x_goto 62 dX7_kindBy_17 (by decide) ?_
      subst h
      exact x_ireturn dX7_kindBy_62 rfl (x_is.rf _ _)
  · have h := x_pos c1 h
    refine x_iconst 0 dX7_kindBy_6 (by decide) ?_
    refine x_goto 62 dX7_kindBy_7 (by decide) ?_
    subst h
    exact x_ireturn dX7_kindBy_62 rfl (x_is.rf _ _)
theorem pk_X7_takesRope : x_pv RX7 yX7_takesRope cX7_takesRope 4 (some .boolean) 1 := ⟨⟨co_X7_takesRope, ni_X7, by decide, by decide +kernel⟩, im_X7_takesRope, se_X7_takesRope⟩
def M_X7_takesRope (texts : (Nat → Int32)) (textLong : (Nat → Int32)) (anew : (Nat → Int32)) (place : Int32) (x1 : Int32) : Option (Int32 × (Nat → Int32) × Int32) :=
  (M_X7_here texts textLong place x1).bind fun r1 =>
  if (M_X7_kindBy r1) = (-9 : Int32) then
  (some ((0 : Int32), anew, place))
  else
  (if (anew 0) = (6 : Int32) then
  (some ((0 : Int32), anew, place))
  else
  (if (anew 1) ≤ 0 then
  (if inb ((2 : Int32) + (anew 0)) 85 then
  (M_X7_takes texts textLong (upd anew ((2 : Int32) + (anew 0)).toNatClampNeg (M_X7_kindBy r1)) (place + (1 : Int32)) x1 ((8 : Int32) + (anew 0)) (1 : Int32) (9 : Int32)).bind fun r7 =>
  if r7.1 = 0 then
  (some ((0 : Int32), r7.2.1, r7.2.2))
  else
  ((M_X7_takes texts textLong r7.2.1 r7.2.2 x1 ((14 : Int32) + (anew 0)) (0 : Int32) (5 : Int32)).bind fun r10 =>
  if r10.1 = 0 then
  (some ((0 : Int32), r10.2.1, r10.2.2))
  else
  (if inb ((8 : Int32) + (anew 0)) 85 then
  (M_X7_takes texts textLong r10.2.1 r10.2.2 x1 ((20 : Int32) + (anew 0)) (0 : Int32) (r10.2.1 ((8 : Int32) + (anew 0)).toNatClampNeg)).bind fun r14 =>
  if r14.1 = 0 then
  (some ((0 : Int32), r14.2.1, r14.2.2))
  else
  (some ((1 : Int32), (upd r14.2.1 0 ((r14.2.1 0) + (1 : Int32))), r14.2.2))
  else none))
  else none)
  else
  (some ((0 : Int32), anew, place))))
set_option maxHeartbeats 4000000 in
set_option maxRecDepth 100000 in
theorem c_X7_takesRope {G : x_G} {l : Launch} {a : Nat → Nat} {texts : (Nat → Int32)} {textLong : (Nat → Int32)} {now : (Nat → Int32)} {kept : (Nat → Int32)} {isKept : (Nat → Int32)} {rows : (Nat → Int32)} {rowLong : (Nat → Int32)} {found : (Nat → Int32)} {taken : (Nat → Int32)} {hand : (Nat → Int32)} {steps : (Nat → Int32)} {shares : (Nat → Int32)} {choices : (Nat → Int32)} {values : (Nat → Int32)} {latest : Int32} {askedIs : Int32} {above : Int64} {below : Int64} {partedBy : Int32} {anew : (Nat → Int32)} {place : Int32} {x1 : Int32} {res : Int32 × (Nat → Int32) × Int32} (h : M_X7_takesRope texts textLong anew place x1 = some res) : x_M G l yX7_takesRope cX7_takesRope 4 (some .boolean) (2) 0 0 [.ref (a 0), .int x1] (WModel G a now kept isKept rows rowLong texts textLong found taken anew hand steps shares choices values latest askedIs above below place partedBy) (x_is (some (.int res.1)) (WModel G a now kept isKept rows rowLong texts textLong found taken res.2.1 hand steps shares choices values latest askedIs above below res.2.2 partedBy)) := by
  unfold M_X7_takesRope at h
  refine x_enter (ini := false) (by decide) rfl (by decide) rfl (Nat.le_of_ble_eq_true rfl) ?_
  refine x_aload_n dX7_takesRope_0 0 rfl rfl ?_
  refine x_get (ci := 5) 13 0 dX7_takesRope_1 fl_X7_42 inX7 rfl (by decide) ⟨rfl, rfl, rfl⟩ rfl rfl ?_
  refine x_iconst 0 dX7_takesRope_4 (by decide) ?_
  refine x_iald 0 (q0 := 10) dX7_takesRope_5 (by decide) rfl (by decide) ?_
  refine x_istore_n [(2, .int (anew 0)), (0, .ref (a 0)), (1, .int x1)] dX7_takesRope_6 rfl (by decide) rfl ?_
  refine x_aload_n dX7_takesRope_7 1 rfl rfl ?_
  refine x_iload_n dX7_takesRope_8 2 rfl rfl ?_
  obtain ⟨r1, e2, h⟩ := x_bind h
  refine x_cV (As := [.int x1]) (wc := (WModel G a now kept isKept rows rowLong texts textLong found taken anew hand steps shares choices values latest askedIs above below place partedBy)) (w1 := (WModel G a now kept isKept rows rowLong texts textLong found taken anew hand steps shares choices values latest askedIs above below place partedBy)) (pre := []) (post := []) (rest := []) (st1 := [.int r1]) (ws1 := (WModel G a now kept isKept rows rowLong texts textLong found taken anew hand steps shares choices values latest askedIs above below place partedBy)) (ci := 5) 0 dX7_takesRope_9 (c_X7_here (a := a) e2) pk_X7_here ml_X7_96 (x_full _) rfl rfl rfl rfl rfl rfl rfl rfl (x_full _).symm ?_
  refine x_cS (As := [.int r1]) (wc := ([] : va_W)) (w1 := ([] : va_W)) (pre := []) (post := (WModel G a now kept isKept rows rowLong texts textLong found taken anew hand steps shares choices values latest askedIs above below place partedBy)) (rest := []) (st1 := [.int (M_X7_kindBy r1)]) (ws1 := (WModel G a now kept isKept rows rowLong texts textLong found taken anew hand steps shares choices values latest askedIs above below place partedBy)) dX7_takesRope_12 (c_X7_kindBy rfl) pk_X7_kindBy ml_X7_107 rfl rfl rfl rfl rfl rfl rfl ?_
  refine x_istore_n [(3, .int (M_X7_kindBy r1)), (2, .int (anew 0)), (0, .ref (a 0)), (1, .int x1)] dX7_takesRope_15 rfl (by decide) rfl ?_
  refine x_iload_n dX7_takesRope_16 0 rfl rfl ?_
  refine x_bipush (-9 : Int32) dX7_takesRope_17 (by decide) ?_
  refine x_icmp_eq 37 dX7_takesRope_19 (by decide) (fun c3 => ?_) (fun c3 => ?_)
  · have h := x_pos c3 h
    refine x_iconst 0 dX7_takesRope_37 (by decide) ?_
    cases h
    exact x_ireturn dX7_takesRope_38 rfl (x_is.rf _ _)
  · have h := x_neg c3 h
    refine x_iload_n dX7_takesRope_22 1 rfl rfl ?_
    refine x_bipush 6 dX7_takesRope_23 (by decide) ?_
    refine x_icmp_eq 37 dX7_takesRope_25 (by decide) (fun c4 => ?_) (fun c4 => ?_)
    · have h := x_pos c4 h
      refine x_iconst 0 dX7_takesRope_37 (by decide) ?_
      cases h
      exact x_ireturn dX7_takesRope_38 rfl (x_is.rf _ _)
    · have h := x_neg c4 h
      refine x_aload_n dX7_takesRope_28 2 rfl rfl ?_
      refine x_get (ci := 5) 13 0 dX7_takesRope_29 fl_X7_42 inX7 rfl (by decide) ⟨rfl, rfl, rfl⟩ rfl rfl ?_
      refine x_iconst 1 dX7_takesRope_32 (by decide) ?_
      refine x_iald 1 (q0 := 10) dX7_takesRope_33 (by decide) rfl (by decide) ?_
      refine x_if_le 39 dX7_takesRope_34 (by decide) (fun c5 => ?_) (fun c5 => ?_)
      · have h := x_pos c5 h
        refine x_aload_n dX7_takesRope_39 2 rfl rfl ?_
        refine x_get (ci := 5) 13 0 dX7_takesRope_40 fl_X7_42 inX7 rfl (by decide) ⟨rfl, rfl, rfl⟩ rfl rfl ?_
        refine x_iconst 2 dX7_takesRope_43 (by decide) ?_
        refine x_iload_n dX7_takesRope_44 1 rfl rfl ?_
        refine x_iadd dX7_takesRope_45 ?_
        refine x_iload_n dX7_takesRope_46 0 rfl rfl ?_
        obtain ⟨b6, h⟩ := x_guard h
        refine x_iast ((2 : Int32) + (anew 0)).toNatClampNeg (q0 := 10) (WModel G a now kept isKept rows rowLong texts textLong found taken ((upd anew ((2 : Int32) + (anew 0)).toNatClampNeg (M_X7_kindBy r1))) hand steps shares choices values latest askedIs above below place partedBy) dX7_takesRope_47 rfl rfl b6 rfl ?_
        refine x_aload_n dX7_takesRope_48 2 rfl rfl ?_
        refine x_dup dX7_takesRope_49 rfl ?_
        refine x_get (ci := 5) 14 0 dX7_takesRope_50 fl_X7_93 inX7 rfl (by decide) ⟨rfl, rfl, rfl⟩ rfl rfl ?_
        refine x_iconst 1 dX7_takesRope_53 (by decide) ?_
        refine x_iadd dX7_takesRope_54 ?_
        refine x_put (ci := 5) (ty := .int) 14 0 (WModel G a now kept isKept rows rowLong texts textLong found taken ((upd anew ((2 : Int32) + (anew 0)).toNatClampNeg (M_X7_kindBy r1))) hand steps shares choices values latest askedIs above below ((place + (1 : Int32))) partedBy) dX7_takesRope_55 fl_X7_93 inX7 tyX7_ok nmX7 rfl (by decide) ⟨rfl, rfl, rfl, rfl, rfl⟩ rfl rfl rfl rfl rfl ?_
        refine x_aload_n dX7_takesRope_58 2 rfl rfl ?_
        refine x_iload_n dX7_takesRope_59 3 rfl rfl ?_
        refine x_bipush 8 dX7_takesRope_60 (by decide) ?_
        refine x_iload_n dX7_takesRope_62 1 rfl rfl ?_
        refine x_iadd dX7_takesRope_63 ?_
        refine x_iconst 1 dX7_takesRope_64 (by decide) ?_
        refine x_bipush 9 dX7_takesRope_65 (by decide) ?_
        obtain ⟨r7, e8, h⟩ := x_bind h
        refine x_cV (As := [.int x1, .int ((8 : Int32) + (anew 0)), .int (1 : Int32), .int (9 : Int32)]) (wc := (WModel G a now kept isKept rows rowLong texts textLong found taken ((upd anew ((2 : Int32) + (anew 0)).toNatClampNeg (M_X7_kindBy r1))) hand steps shares choices values latest askedIs above below ((place + (1 : Int32))) partedBy)) (w1 := (WModel G a now kept isKept rows rowLong texts textLong found taken r7.2.1 hand steps shares choices values latest askedIs above below r7.2.2 partedBy)) (pre := []) (post := []) (rest := []) (st1 := [.int r7.1]) (ws1 := (WModel G a now kept isKept rows rowLong texts textLong found taken r7.2.1 hand steps shares choices values latest askedIs above below r7.2.2 partedBy)) (ci := 5) 0 dX7_takesRope_67 (c_X7_takes (a := a) e8) pk_X7_takes ml_X7_99 (x_full _) rfl rfl rfl rfl rfl rfl rfl rfl (x_full _).symm ?_
        refine x_if_eq 109 dX7_takesRope_70 (by decide) (fun c9 => ?_) (fun c9 => ?_)
        · have h := x_pos c9 h
          refine x_iconst 0 dX7_takesRope_109 (by decide) ?_
          cases h
          exact x_ireturn dX7_takesRope_110 rfl (x_is.rf _ _)
        · have h := x_neg c9 h
          refine x_aload_n dX7_takesRope_73 2 rfl rfl ?_
          refine x_iload_n dX7_takesRope_74 3 rfl rfl ?_
          refine x_bipush 14 dX7_takesRope_75 (by decide) ?_
          refine x_iload_n dX7_takesRope_77 1 rfl rfl ?_
          refine x_iadd dX7_takesRope_78 ?_
          refine x_iconst 0 dX7_takesRope_79 (by decide) ?_
          refine x_iconst 5 dX7_takesRope_80 (by decide) ?_
          obtain ⟨r10, e11, h⟩ := x_bind h
          refine x_cV (As := [.int x1, .int ((14 : Int32) + (anew 0)), .int (0 : Int32), .int (5 : Int32)]) (wc := (WModel G a now kept isKept rows rowLong texts textLong found taken r7.2.1 hand steps shares choices values latest askedIs above below r7.2.2 partedBy)) (w1 := (WModel G a now kept isKept rows rowLong texts textLong found taken r10.2.1 hand steps shares choices values latest askedIs above below r10.2.2 partedBy)) (pre := []) (post := []) (rest := []) (st1 := [.int r10.1]) (ws1 := (WModel G a now kept isKept rows rowLong texts textLong found taken r10.2.1 hand steps shares choices values latest askedIs above below r10.2.2 partedBy)) (ci := 5) 0 dX7_takesRope_81 (c_X7_takes (a := a) e11) pk_X7_takes ml_X7_99 (x_full _) rfl rfl rfl rfl rfl rfl rfl rfl (x_full _).symm ?_
          refine x_if_eq 109 dX7_takesRope_84 (by decide) (fun c12 => ?_) (fun c12 => ?_)
          · have h := x_pos c12 h
            refine x_iconst 0 dX7_takesRope_109 (by decide) ?_
            cases h
            exact x_ireturn dX7_takesRope_110 rfl (x_is.rf _ _)
          · have h := x_neg c12 h
            refine x_aload_n dX7_takesRope_87 2 rfl rfl ?_
            refine x_iload_n dX7_takesRope_88 3 rfl rfl ?_
            refine x_bipush 20 dX7_takesRope_89 (by decide) ?_
            refine x_iload_n dX7_takesRope_91 1 rfl rfl ?_
            refine x_iadd dX7_takesRope_92 ?_
            refine x_iconst 0 dX7_takesRope_93 (by decide) ?_
            refine x_aload_n dX7_takesRope_94 2 rfl rfl ?_
            refine x_get (ci := 5) 13 0 dX7_takesRope_95 fl_X7_42 inX7 rfl (by decide) ⟨rfl, rfl, rfl⟩ rfl rfl ?_
            refine x_bipush 8 dX7_takesRope_98 (by decide) ?_
            refine x_iload_n dX7_takesRope_100 1 rfl rfl ?_
            refine x_iadd dX7_takesRope_101 ?_
            obtain ⟨b13, h⟩ := x_guard h
            refine x_iald ((8 : Int32) + (anew 0)).toNatClampNeg (q0 := 10) dX7_takesRope_102 rfl rfl b13 ?_
            obtain ⟨r14, e15, h⟩ := x_bind h
            refine x_cV (As := [.int x1, .int ((20 : Int32) + (anew 0)), .int (0 : Int32), .int (r10.2.1 ((8 : Int32) + (anew 0)).toNatClampNeg)]) (wc := (WModel G a now kept isKept rows rowLong texts textLong found taken r10.2.1 hand steps shares choices values latest askedIs above below r10.2.2 partedBy)) (w1 := (WModel G a now kept isKept rows rowLong texts textLong found taken r14.2.1 hand steps shares choices values latest askedIs above below r14.2.2 partedBy)) (pre := []) (post := []) (rest := []) (st1 := [.int r14.1]) (ws1 := (WModel G a now kept isKept rows rowLong texts textLong found taken r14.2.1 hand steps shares choices values latest askedIs above below r14.2.2 partedBy)) (ci := 5) 0 dX7_takesRope_103 (c_X7_takes (a := a) e15) pk_X7_takes ml_X7_99 (x_full _) rfl rfl rfl rfl rfl rfl rfl rfl (x_full _).symm ?_
            refine x_if_ne 111 dX7_takesRope_106 (by decide) (fun c16 => ?_) (fun c16 => ?_)
            · have h := x_neg c16 h
              refine x_aload_n dX7_takesRope_111 2 rfl rfl ?_
              refine x_get (ci := 5) 13 0 dX7_takesRope_112 fl_X7_42 inX7 rfl (by decide) ⟨rfl, rfl, rfl⟩ rfl rfl ?_
              refine x_iconst 0 dX7_takesRope_115 (by decide) ?_
              refine x_dup2 dX7_takesRope_116 rfl rfl ?_
              refine x_iald 0 (q0 := 10) dX7_takesRope_117 (by decide) rfl (by decide) ?_
              refine x_iconst 1 dX7_takesRope_118 (by decide) ?_
              refine x_iadd dX7_takesRope_119 ?_
              refine x_iast 0 (q0 := 10) (WModel G a now kept isKept rows rowLong texts textLong found taken ((upd r14.2.1 0 ((r14.2.1 0) + (1 : Int32)))) hand steps shares choices values latest askedIs above below r14.2.2 partedBy) dX7_takesRope_120 (by decide) rfl (by decide) rfl ?_
              refine x_iconst 1 dX7_takesRope_121 (by decide) ?_
              cases h
              exact x_ireturn dX7_takesRope_122 rfl (x_is.rf _ _)
            · have h := x_pos c16 h
              refine x_iconst 0 dX7_takesRope_109 (by decide) ?_
              cases h
              exact x_ireturn dX7_takesRope_110 rfl (x_is.rf _ _)
      · have h := x_neg c5 h
        refine x_iconst 0 dX7_takesRope_37 (by decide) ?_
        cases h
        exact x_ireturn dX7_takesRope_38 rfl (x_is.rf _ _)
theorem pk_X7_takesSet : x_pv RX7 yX7_takesSet cX7_takesSet 5 (some .boolean) 2 := ⟨⟨co_X7_takesSet, ni_X7, by decide, by decide +kernel⟩, im_X7_takesSet, se_X7_takesSet⟩
def M_X7_takesSet_b75 (texts : (Nat → Int32)) (textLong : (Nat → Int32)) (anew : (Nat → Int32)) (place : Int32) (x2 : Int32) (s1 : Int32) : Option (Int32 × (Nat → Int32) × Int32) :=
  if inb x2 85 then
  if (63 : Int32) < (anew x2.toNatClampNeg) then
  (some ((0 : Int32), anew, s1))
  else
  (some ((1 : Int32), anew, s1))
  else none
set_option maxHeartbeats 4000000 in
set_option maxRecDepth 100000 in
theorem w_X7_takesSet_b75 {G : x_G} {l : Launch} {a : Nat → Nat} {texts : (Nat → Int32)} {textLong : (Nat → Int32)} {now : (Nat → Int32)} {kept : (Nat → Int32)} {isKept : (Nat → Int32)} {rows : (Nat → Int32)} {rowLong : (Nat → Int32)} {found : (Nat → Int32)} {taken : (Nat → Int32)} {hand : (Nat → Int32)} {steps : (Nat → Int32)} {shares : (Nat → Int32)} {choices : (Nat → Int32)} {values : (Nat → Int32)} {latest : Int32} {askedIs : Int32} {above : Int64} {below : Int64} {partedBy : Int32} {res : Int32 × (Nat → Int32) × Int32} (anew : (Nat → Int32)) (place : Int32) (x2 : Int32) (s1 : Int32) (h : M_X7_takesSet_b75 texts textLong anew place x2 s1 = some res) : X G l RX7 cX7_takesSet 5 (x_R 2 0 0) (x_Cm G (some .boolean) false (x_is (some (.int res.1)) (WModel G a now kept isKept rows rowLong texts textLong found taken res.2.1 hand steps shares choices values latest askedIs above below res.2.2 partedBy)) 0 0) 0 0 75 [(0, .ref (a 0)), (2, .int x2)] [.int s1, .ref (a 0)] (WModel G a now kept isKept rows rowLong texts textLong found taken anew hand steps shares choices values latest askedIs above below place partedBy) := by
  unfold M_X7_takesSet_b75 at h
  refine x_put (ci := 5) (ty := .int) 14 0 (WModel G a now kept isKept rows rowLong texts textLong found taken anew hand steps shares choices values latest askedIs above below s1 partedBy) dX7_takesSet_75 fl_X7_93 inX7 tyX7_ok nmX7 rfl (by decide) ⟨rfl, rfl, rfl, rfl, rfl⟩ rfl rfl rfl rfl rfl ?_
  refine x_aload_n dX7_takesSet_78 0 rfl rfl ?_
  refine x_get (ci := 5) 13 0 dX7_takesSet_79 fl_X7_42 inX7 rfl (by decide) ⟨rfl, rfl, rfl⟩ rfl rfl ?_
  refine x_iload_n dX7_takesSet_82 1 rfl rfl ?_
  obtain ⟨b1, h⟩ := x_guard h
  refine x_iald x2.toNatClampNeg (q0 := 10) dX7_takesSet_83 rfl rfl b1 ?_
  refine x_bipush 63 dX7_takesSet_84 (by decide) ?_
  refine x_icmp_gt 93 dX7_takesSet_86 (by decide) (fun c2 => ?_) (fun c2 => ?_)
  · have h := x_pos c2 h
    refine x_iconst 0 dX7_takesSet_93 (by decide) ?_
    cases h
    exact x_ireturn dX7_takesSet_94 rfl (x_is.rf _ _)
  · have h := x_neg c2 h
    refine x_iconst 1 dX7_takesSet_89 (by decide) ?_
    refine x_goto 94 dX7_takesSet_90 (by decide) ?_
    cases h
    exact x_ireturn dX7_takesSet_94 rfl (x_is.rf _ _)
def M_X7_takesSet (texts : (Nat → Int32)) (textLong : (Nat → Int32)) (anew : (Nat → Int32)) (place : Int32) (x1 : Int32) (x2 : Int32) : Option (Int32 × (Nat → Int32) × Int32) :=
  (M_X7_takes texts textLong anew place x1 x2 (0 : Int32) (9 : Int32)).bind fun r3 =>
  if r3.1 = 0 then
  (some ((0 : Int32), r3.2.1, r3.2.2))
  else
  (if inb x2 85 then
  (M_X7_takes texts textLong r3.2.1 r3.2.2 x1 x2 (0 : Int32) (9 : Int32)).bind fun r7 =>
  if r7.1 = 0 then
  (some ((0 : Int32), r7.2.1, r7.2.2))
  else
  (if ((upd r7.2.1 x2.toNatClampNeg ((r7.2.1 x2.toNatClampNeg) + ((10 : Int32) * (r3.2.1 x2.toNatClampNeg)))) x2.toNatClampNeg) ≤ (63 : Int32) then
  (M_X7_takesSet_b75 texts textLong (upd r7.2.1 x2.toNatClampNeg ((r7.2.1 x2.toNatClampNeg) + ((10 : Int32) * (r3.2.1 x2.toNatClampNeg)))) r7.2.2 x2 r7.2.2)
  else
  (M_X7_takesSet_b75 texts textLong (upd r7.2.1 x2.toNatClampNeg ((r7.2.1 x2.toNatClampNeg) + ((10 : Int32) * (r3.2.1 x2.toNatClampNeg)))) r7.2.2 x2 place))
  else none)
set_option maxHeartbeats 4000000 in
set_option maxRecDepth 100000 in
theorem c_X7_takesSet {G : x_G} {l : Launch} {a : Nat → Nat} {texts : (Nat → Int32)} {textLong : (Nat → Int32)} {now : (Nat → Int32)} {kept : (Nat → Int32)} {isKept : (Nat → Int32)} {rows : (Nat → Int32)} {rowLong : (Nat → Int32)} {found : (Nat → Int32)} {taken : (Nat → Int32)} {hand : (Nat → Int32)} {steps : (Nat → Int32)} {shares : (Nat → Int32)} {choices : (Nat → Int32)} {values : (Nat → Int32)} {latest : Int32} {askedIs : Int32} {above : Int64} {below : Int64} {partedBy : Int32} {anew : (Nat → Int32)} {place : Int32} {x1 : Int32} {x2 : Int32} {res : Int32 × (Nat → Int32) × Int32} (h : M_X7_takesSet texts textLong anew place x1 x2 = some res) : x_M G l yX7_takesSet cX7_takesSet 5 (some .boolean) (2) 0 0 [.ref (a 0), .int x1, .int x2] (WModel G a now kept isKept rows rowLong texts textLong found taken anew hand steps shares choices values latest askedIs above below place partedBy) (x_is (some (.int res.1)) (WModel G a now kept isKept rows rowLong texts textLong found taken res.2.1 hand steps shares choices values latest askedIs above below res.2.2 partedBy)) := by
  unfold M_X7_takesSet at h
  refine x_enter (ini := false) (by decide) rfl (by decide) rfl (Nat.le_of_ble_eq_true rfl) ?_
  refine x_aload_n dX7_takesSet_0 0 rfl rfl ?_
  refine x_get (ci := 5) 14 0 dX7_takesSet_1 fl_X7_93 inX7 rfl (by decide) ⟨rfl, rfl, rfl⟩ rfl rfl ?_
  refine x_istore_n [(3, .int place), (0, .ref (a 0)), (1, .int x1), (2, .int x2)] dX7_takesSet_4 rfl (by decide) rfl ?_
  refine x_aload_n dX7_takesSet_5 1 rfl rfl ?_
  refine x_iload_n dX7_takesSet_6 2 rfl rfl ?_
  refine x_iload_n dX7_takesSet_7 3 rfl rfl ?_
  refine x_iconst 0 dX7_takesSet_8 (by decide) ?_
  refine x_bipush 9 dX7_takesSet_9 (by decide) ?_
  obtain ⟨r3, e4, h⟩ := x_bind h
  refine x_cV (As := [.int x1, .int x2, .int (0 : Int32), .int (9 : Int32)]) (wc := (WModel G a now kept isKept rows rowLong texts textLong found taken anew hand steps shares choices values latest askedIs above below place partedBy)) (w1 := (WModel G a now kept isKept rows rowLong texts textLong found taken r3.2.1 hand steps shares choices values latest askedIs above below r3.2.2 partedBy)) (pre := []) (post := []) (rest := []) (st1 := [.int r3.1]) (ws1 := (WModel G a now kept isKept rows rowLong texts textLong found taken r3.2.1 hand steps shares choices values latest askedIs above below r3.2.2 partedBy)) (ci := 5) 0 dX7_takesSet_11 (c_X7_takes (a := a) e4) pk_X7_takes ml_X7_99 (x_full _) rfl rfl rfl rfl rfl rfl rfl rfl (x_full _).symm ?_
  refine x_if_ne 19 dX7_takesSet_14 (by decide) (fun c5 => ?_) (fun c5 => ?_)
  · have h := x_neg c5 h
    refine x_aload_n dX7_takesSet_19 1 rfl rfl ?_
    refine x_get (ci := 5) 13 0 dX7_takesSet_20 fl_X7_42 inX7 rfl (by decide) ⟨rfl, rfl, rfl⟩ rfl rfl ?_
    refine x_iload_n dX7_takesSet_23 3 rfl rfl ?_
    obtain ⟨b6, h⟩ := x_guard h
    refine x_iald x2.toNatClampNeg (q0 := 10) dX7_takesSet_24 rfl rfl b6 ?_
    refine x_istore [(4, .int (r3.2.1 x2.toNatClampNeg)), (3, .int place), (0, .ref (a 0)), (1, .int x1), (2, .int x2)] dX7_takesSet_25 (by decide) rfl ?_
    refine x_aload_n dX7_takesSet_27 2 rfl rfl ?_
    refine x_iload_n dX7_takesSet_28 3 rfl rfl ?_
    refine x_iload_n dX7_takesSet_29 4 rfl rfl ?_
    refine x_iconst 0 dX7_takesSet_30 (by decide) ?_
    refine x_bipush 9 dX7_takesSet_31 (by decide) ?_
    obtain ⟨r7, e8, h⟩ := x_bind h
    refine x_cV (As := [.int x1, .int x2, .int (0 : Int32), .int (9 : Int32)]) (wc := (WModel G a now kept isKept rows rowLong texts textLong found taken r3.2.1 hand steps shares choices values latest askedIs above below r3.2.2 partedBy)) (w1 := (WModel G a now kept isKept rows rowLong texts textLong found taken r7.2.1 hand steps shares choices values latest askedIs above below r7.2.2 partedBy)) (pre := []) (post := []) (rest := []) (st1 := [.int r7.1]) (ws1 := (WModel G a now kept isKept rows rowLong texts textLong found taken r7.2.1 hand steps shares choices values latest askedIs above below r7.2.2 partedBy)) (ci := 5) 0 dX7_takesSet_33 (c_X7_takes (a := a) e8) pk_X7_takes ml_X7_99 (x_full _) rfl rfl rfl rfl rfl rfl rfl rfl (x_full _).symm ?_
    refine x_if_ne 41 dX7_takesSet_36 (by decide) (fun c9 => ?_) (fun c9 => ?_)
    · have h := x_neg c9 h
      refine x_aload_n dX7_takesSet_41 2 rfl rfl ?_
      refine x_get (ci := 5) 13 0 dX7_takesSet_42 fl_X7_42 inX7 rfl (by decide) ⟨rfl, rfl, rfl⟩ rfl rfl ?_
      refine x_iload_n dX7_takesSet_45 4 rfl rfl ?_
      refine x_dup2 dX7_takesSet_46 rfl rfl ?_
      refine x_iald x2.toNatClampNeg (q0 := 10) dX7_takesSet_47 rfl rfl b6 ?_
      refine x_bipush 10 dX7_takesSet_48 (by decide) ?_
      refine x_iload dX7_takesSet_50 0 rfl ?_
      refine x_imul dX7_takesSet_52 ?_
      refine x_iadd dX7_takesSet_53 ?_
      refine x_iast x2.toNatClampNeg (q0 := 10) (WModel G a now kept isKept rows rowLong texts textLong found taken ((upd r7.2.1 x2.toNatClampNeg ((r7.2.1 x2.toNatClampNeg) + ((10 : Int32) * (r3.2.1 x2.toNatClampNeg))))) hand steps shares choices values latest askedIs above below r7.2.2 partedBy) dX7_takesSet_54 rfl rfl b6 rfl ?_
      refine x_aload_n dX7_takesSet_55 2 rfl rfl ?_
      refine x_aload_n dX7_takesSet_56 2 rfl rfl ?_
      refine x_get (ci := 5) 13 0 dX7_takesSet_57 fl_X7_42 inX7 rfl (by decide) ⟨rfl, rfl, rfl⟩ rfl rfl ?_
      refine x_iload_n dX7_takesSet_60 4 rfl rfl ?_
      refine x_iald x2.toNatClampNeg (q0 := 10) dX7_takesSet_61 rfl rfl b6 ?_
      refine x_bipush 63 dX7_takesSet_62 (by decide) ?_
      refine x_icmp_le 71 dX7_takesSet_64 (by decide) (fun c10 => ?_) (fun c10 => ?_)
      · have h := x_pos c10 h
        refine x_aload_n dX7_takesSet_71 2 rfl rfl ?_
        refine x_get (ci := 5) 14 0 dX7_takesSet_72 fl_X7_93 inX7 rfl (by decide) ⟨rfl, rfl, rfl⟩ rfl rfl ?_
        refine x_lv [2, 4] rfl ?_
        exact w_X7_takesSet_b75  _ _ _ _ h
      · have h := x_neg c10 h
        refine x_iload_n dX7_takesSet_67 1 rfl rfl ?_
        refine x_goto 75 dX7_takesSet_68 (by decide) ?_
        refine x_lv [2, 4] rfl ?_
        exact w_X7_takesSet_b75  _ _ _ _ h
    · have h := x_pos c9 h
      refine x_iconst 0 dX7_takesSet_39 (by decide) ?_
      cases h
      exact x_ireturn dX7_takesSet_40 rfl (x_is.rf _ _)
  · have h := x_pos c5 h
    refine x_iconst 0 dX7_takesSet_17 (by decide) ?_
    cases h
    exact x_ireturn dX7_takesSet_18 rfl (x_is.rf _ _)
theorem pk_X7_takesAct : x_pv RX7 yX7_takesAct cX7_takesAct 3 (some .boolean) 1 := ⟨⟨co_X7_takesAct, ni_X7, by decide, by decide +kernel⟩, im_X7_takesAct, se_X7_takesAct⟩
def M_X7_takesAct (texts : (Nat → Int32)) (textLong : (Nat → Int32)) (anew : (Nat → Int32)) (place : Int32) (x1 : Int32) : Option (Int32 × (Nat → Int32) × Int32) :=
  if (anew 1) = (4 : Int32) then
  (some ((0 : Int32), anew, place))
  else
  (if (anew 0) = 0 then
  (some ((0 : Int32), anew, place))
  else
  ((M_X7_takesSet texts textLong anew (place + (1 : Int32)) x1 ((27 : Int32) + (anew 1))).bind fun r3 =>
  if r3.1 = 0 then
  (some ((0 : Int32), r3.2.1, r3.2.2))
  else
  ((M_X7_takesSet texts textLong r3.2.1 r3.2.2 x1 ((31 : Int32) + (anew 1))).bind fun r6 =>
  if r6.1 = 0 then
  (some ((0 : Int32), r6.2.1, r6.2.2))
  else
  (some ((1 : Int32), (upd r6.2.1 1 ((r6.2.1 1) + (1 : Int32))), r6.2.2)))))
set_option maxHeartbeats 4000000 in
set_option maxRecDepth 100000 in
theorem c_X7_takesAct {G : x_G} {l : Launch} {a : Nat → Nat} {texts : (Nat → Int32)} {textLong : (Nat → Int32)} {now : (Nat → Int32)} {kept : (Nat → Int32)} {isKept : (Nat → Int32)} {rows : (Nat → Int32)} {rowLong : (Nat → Int32)} {found : (Nat → Int32)} {taken : (Nat → Int32)} {hand : (Nat → Int32)} {steps : (Nat → Int32)} {shares : (Nat → Int32)} {choices : (Nat → Int32)} {values : (Nat → Int32)} {latest : Int32} {askedIs : Int32} {above : Int64} {below : Int64} {partedBy : Int32} {anew : (Nat → Int32)} {place : Int32} {x1 : Int32} {res : Int32 × (Nat → Int32) × Int32} (h : M_X7_takesAct texts textLong anew place x1 = some res) : x_M G l yX7_takesAct cX7_takesAct 3 (some .boolean) (3) 0 0 [.ref (a 0), .int x1] (WModel G a now kept isKept rows rowLong texts textLong found taken anew hand steps shares choices values latest askedIs above below place partedBy) (x_is (some (.int res.1)) (WModel G a now kept isKept rows rowLong texts textLong found taken res.2.1 hand steps shares choices values latest askedIs above below res.2.2 partedBy)) := by
  unfold M_X7_takesAct at h
  refine x_enter (ini := false) (by decide) rfl (by decide) rfl (Nat.le_of_ble_eq_true rfl) ?_
  refine x_aload_n dX7_takesAct_0 0 rfl rfl ?_
  refine x_get (ci := 5) 13 0 dX7_takesAct_1 fl_X7_42 inX7 rfl (by decide) ⟨rfl, rfl, rfl⟩ rfl rfl ?_
  refine x_iconst 1 dX7_takesAct_4 (by decide) ?_
  refine x_iald 1 (q0 := 10) dX7_takesAct_5 (by decide) rfl (by decide) ?_
  refine x_istore_n [(2, .int (anew 1)), (0, .ref (a 0)), (1, .int x1)] dX7_takesAct_6 rfl (by decide) rfl ?_
  refine x_iload_n dX7_takesAct_7 0 rfl rfl ?_
  refine x_iconst 4 dX7_takesAct_8 (by decide) ?_
  refine x_icmp_eq 21 dX7_takesAct_9 (by decide) (fun c1 => ?_) (fun c1 => ?_)
  · have h := x_pos c1 h
    refine x_iconst 0 dX7_takesAct_21 (by decide) ?_
    cases h
    exact x_ireturn dX7_takesAct_22 rfl (x_is.rf _ _)
  · have h := x_neg c1 h
    refine x_aload_n dX7_takesAct_12 1 rfl rfl ?_
    refine x_get (ci := 5) 13 0 dX7_takesAct_13 fl_X7_42 inX7 rfl (by decide) ⟨rfl, rfl, rfl⟩ rfl rfl ?_
    refine x_iconst 0 dX7_takesAct_16 (by decide) ?_
    refine x_iald 0 (q0 := 10) dX7_takesAct_17 (by decide) rfl (by decide) ?_
    refine x_if_ne 23 dX7_takesAct_18 (by decide) (fun c2 => ?_) (fun c2 => ?_)
    · have h := x_neg c2 h
      refine x_aload_n dX7_takesAct_23 1 rfl rfl ?_
      refine x_dup dX7_takesAct_24 rfl ?_
      refine x_get (ci := 5) 14 0 dX7_takesAct_25 fl_X7_93 inX7 rfl (by decide) ⟨rfl, rfl, rfl⟩ rfl rfl ?_
      refine x_iconst 1 dX7_takesAct_28 (by decide) ?_
      refine x_iadd dX7_takesAct_29 ?_
      refine x_put (ci := 5) (ty := .int) 14 0 (WModel G a now kept isKept rows rowLong texts textLong found taken anew hand steps shares choices values latest askedIs above below ((place + (1 : Int32))) partedBy) dX7_takesAct_30 fl_X7_93 inX7 tyX7_ok nmX7 rfl (by decide) ⟨rfl, rfl, rfl, rfl, rfl⟩ rfl rfl rfl rfl rfl ?_
      refine x_aload_n dX7_takesAct_33 1 rfl rfl ?_
      refine x_iload_n dX7_takesAct_34 2 rfl rfl ?_
      refine x_bipush 27 dX7_takesAct_35 (by decide) ?_
      refine x_iload_n dX7_takesAct_37 0 rfl rfl ?_
      refine x_iadd dX7_takesAct_38 ?_
      obtain ⟨r3, e4, h⟩ := x_bind h
      refine x_cV (As := [.int x1, .int ((27 : Int32) + (anew 1))]) (wc := (WModel G a now kept isKept rows rowLong texts textLong found taken anew hand steps shares choices values latest askedIs above below ((place + (1 : Int32))) partedBy)) (w1 := (WModel G a now kept isKept rows rowLong texts textLong found taken r3.2.1 hand steps shares choices values latest askedIs above below r3.2.2 partedBy)) (pre := []) (post := []) (rest := []) (st1 := [.int r3.1]) (ws1 := (WModel G a now kept isKept rows rowLong texts textLong found taken r3.2.1 hand steps shares choices values latest askedIs above below r3.2.2 partedBy)) (ci := 5) 0 dX7_takesAct_39 (c_X7_takesSet (a := a) e4) pk_X7_takesSet ml_X7_110 (x_full _) rfl rfl rfl rfl rfl rfl rfl rfl (x_full _).symm ?_
      refine x_if_eq 57 dX7_takesAct_42 (by decide) (fun c5 => ?_) (fun c5 => ?_)
      · have h := x_pos c5 h
        refine x_iconst 0 dX7_takesAct_57 (by decide) ?_
        cases h
        exact x_ireturn dX7_takesAct_58 rfl (x_is.rf _ _)
      · have h := x_neg c5 h
        refine x_aload_n dX7_takesAct_45 1 rfl rfl ?_
        refine x_iload_n dX7_takesAct_46 2 rfl rfl ?_
        refine x_bipush 31 dX7_takesAct_47 (by decide) ?_
        refine x_iload_n dX7_takesAct_49 0 rfl rfl ?_
        refine x_iadd dX7_takesAct_50 ?_
        obtain ⟨r6, e7, h⟩ := x_bind h
        refine x_cV (As := [.int x1, .int ((31 : Int32) + (anew 1))]) (wc := (WModel G a now kept isKept rows rowLong texts textLong found taken r3.2.1 hand steps shares choices values latest askedIs above below r3.2.2 partedBy)) (w1 := (WModel G a now kept isKept rows rowLong texts textLong found taken r6.2.1 hand steps shares choices values latest askedIs above below r6.2.2 partedBy)) (pre := []) (post := []) (rest := []) (st1 := [.int r6.1]) (ws1 := (WModel G a now kept isKept rows rowLong texts textLong found taken r6.2.1 hand steps shares choices values latest askedIs above below r6.2.2 partedBy)) (ci := 5) 0 dX7_takesAct_51 (c_X7_takesSet (a := a) e7) pk_X7_takesSet ml_X7_110 (x_full _) rfl rfl rfl rfl rfl rfl rfl rfl (x_full _).symm ?_
        refine x_if_ne 59 dX7_takesAct_54 (by decide) (fun c8 => ?_) (fun c8 => ?_)
        · have h := x_neg c8 h
          refine x_aload_n dX7_takesAct_59 1 rfl rfl ?_
          refine x_get (ci := 5) 13 0 dX7_takesAct_60 fl_X7_42 inX7 rfl (by decide) ⟨rfl, rfl, rfl⟩ rfl rfl ?_
          refine x_iconst 1 dX7_takesAct_63 (by decide) ?_
          refine x_dup2 dX7_takesAct_64 rfl rfl ?_
          refine x_iald 1 (q0 := 10) dX7_takesAct_65 (by decide) rfl (by decide) ?_
          refine x_iconst 1 dX7_takesAct_66 (by decide) ?_
          refine x_iadd dX7_takesAct_67 ?_
          refine x_iast 1 (q0 := 10) (WModel G a now kept isKept rows rowLong texts textLong found taken ((upd r6.2.1 1 ((r6.2.1 1) + (1 : Int32)))) hand steps shares choices values latest askedIs above below r6.2.2 partedBy) dX7_takesAct_68 (by decide) rfl (by decide) rfl ?_
          refine x_iconst 1 dX7_takesAct_69 (by decide) ?_
          cases h
          exact x_ireturn dX7_takesAct_70 rfl (x_is.rf _ _)
        · have h := x_pos c8 h
          refine x_iconst 0 dX7_takesAct_57 (by decide) ?_
          cases h
          exact x_ireturn dX7_takesAct_58 rfl (x_is.rf _ _)
    · have h := x_pos c2 h
      refine x_iconst 0 dX7_takesAct_21 (by decide) ?_
      cases h
      exact x_ireturn dX7_takesAct_22 rfl (x_is.rf _ _)
theorem pk_X7_faultOf : x_pv RX7 yX7_faultOf cX7_faultOf 3 (some .int) 1 := ⟨⟨co_X7_faultOf, ni_X7, by decide, by decide +kernel⟩, im_X7_faultOf, se_X7_faultOf⟩
def M_X7_faultOf_b74 (texts : (Nat → Int32)) (textLong : (Nat → Int32)) (k34 : (Nat → Int32) → Int32 → Int32 → Int32 → Option (Int32 × (Nat → Int32) × Int32)) (anew : (Nat → Int32)) (place : Int32) (x1 : Int32) (s0 : Int32) : Option (Int32 × (Nat → Int32) × Int32) :=
  if s0 = 0 then
  (k34 anew place x1 s0)
  else
  ((M_X7_skip texts textLong place x1).bind fun r12 =>
  k34 anew r12 x1 s0)
set_option maxHeartbeats 4000000 in
set_option maxRecDepth 100000 in
theorem w_X7_faultOf_b74 {G : x_G} {l : Launch} {a : Nat → Nat} {texts : (Nat → Int32)} {textLong : (Nat → Int32)} {now : (Nat → Int32)} {kept : (Nat → Int32)} {isKept : (Nat → Int32)} {rows : (Nat → Int32)} {rowLong : (Nat → Int32)} {found : (Nat → Int32)} {taken : (Nat → Int32)} {hand : (Nat → Int32)} {steps : (Nat → Int32)} {shares : (Nat → Int32)} {choices : (Nat → Int32)} {values : (Nat → Int32)} {latest : Int32} {askedIs : Int32} {above : Int64} {below : Int64} {partedBy : Int32} {k34 : (Nat → Int32) → Int32 → Int32 → Int32 → Option (Int32 × (Nat → Int32) × Int32)} {res : Int32 × (Nat → Int32) × Int32} (hk34 : ∀ (anew : (Nat → Int32)) (place : Int32) (x1 : Int32) (x2 : Int32), k34 anew place x1 x2 = some res → X G l RX7 cX7_faultOf 3 (x_R 4 0 0) (x_Cm G (some .int) false (x_is (some (.int res.1)) (WModel G a now kept isKept rows rowLong texts textLong found taken res.2.1 hand steps shares choices values latest askedIs above below res.2.2 partedBy)) 0 0) 0 0 34 [(0, .ref (a 0)), (1, .int x1), (2, .int x2)] [] (WModel G a now kept isKept rows rowLong texts textLong found taken anew hand steps shares choices values latest askedIs above below place partedBy)) (anew : (Nat → Int32)) (place : Int32) (x1 : Int32) (s0 : Int32) (h : M_X7_faultOf_b74 texts textLong k34 anew place x1 s0 = some res) : X G l RX7 cX7_faultOf 3 (x_R 4 0 0) (x_Cm G (some .int) false (x_is (some (.int res.1)) (WModel G a now kept isKept rows rowLong texts textLong found taken res.2.1 hand steps shares choices values latest askedIs above below res.2.2 partedBy)) 0 0) 0 0 74 [(0, .ref (a 0)), (1, .int x1)] [.int s0] (WModel G a now kept isKept rows rowLong texts textLong found taken anew hand steps shares choices values latest askedIs above below place partedBy) := by
  unfold M_X7_faultOf_b74 at h
  refine x_istore_n [(2, .int s0), (0, .ref (a 0)), (1, .int x1)] dX7_faultOf_74 rfl (by decide) rfl ?_
  refine x_iload_n dX7_faultOf_75 0 rfl rfl ?_
  refine x_if_eq 34 dX7_faultOf_76 (by decide) (fun c11 => ?_) (fun c11 => ?_)
  · have h := x_pos c11 h
    refine x_lv [1, 2, 0] rfl ?_
    exact hk34 _ _ _ _ h
  · have h := x_neg c11 h
    refine x_aload_n dX7_faultOf_79 1 rfl rfl ?_
    refine x_iload_n dX7_faultOf_80 2 rfl rfl ?_
    obtain ⟨r12, e13, h⟩ := x_bind h
    refine x_cV (As := [.int x1]) (wc := (WModel G a now kept isKept rows rowLong texts textLong found taken anew hand steps shares choices values latest askedIs above below place partedBy)) (w1 := (WModel G a now kept isKept rows rowLong texts textLong found taken anew hand steps shares choices values latest askedIs above below r12 partedBy)) (pre := []) (post := []) (rest := []) (st1 := []) (ws1 := (WModel G a now kept isKept rows rowLong texts textLong found taken anew hand steps shares choices values latest askedIs above below r12 partedBy)) (ci := 5) 0 dX7_faultOf_81 (c_X7_skip (a := a) e13) pk_X7_skip ml_X7_103 (x_full _) rfl rfl rfl rfl rfl rfl rfl rfl (x_full _).symm ?_
    refine x_goto 34 dX7_faultOf_84 (by decide) ?_
    refine x_lv [1, 2, 0] rfl ?_
    exact hk34 _ _ _ _ h
def M_X7_faultOf_b87 (texts : (Nat → Int32)) (textLong : (Nat → Int32)) (anew : (Nat → Int32)) (place : Int32) (x2 : Int32) : Option (Int32 × (Nat → Int32) × Int32) :=
  if x2 = 0 then
  (some (place, anew, place))
  else
  (if (anew 1) ≤ 0 then
  (some (place, anew, place))
  else
  (some ((-9 : Int32), anew, place)))
set_option maxHeartbeats 4000000 in
set_option maxRecDepth 100000 in
theorem w_X7_faultOf_b87 {G : x_G} {l : Launch} {a : Nat → Nat} {texts : (Nat → Int32)} {textLong : (Nat → Int32)} {now : (Nat → Int32)} {kept : (Nat → Int32)} {isKept : (Nat → Int32)} {rows : (Nat → Int32)} {rowLong : (Nat → Int32)} {found : (Nat → Int32)} {taken : (Nat → Int32)} {hand : (Nat → Int32)} {steps : (Nat → Int32)} {shares : (Nat → Int32)} {choices : (Nat → Int32)} {values : (Nat → Int32)} {latest : Int32} {askedIs : Int32} {above : Int64} {below : Int64} {partedBy : Int32} {res : Int32 × (Nat → Int32) × Int32} (anew : (Nat → Int32)) (place : Int32) (x2 : Int32) (h : M_X7_faultOf_b87 texts textLong anew place x2 = some res) : X G l RX7 cX7_faultOf 3 (x_R 4 0 0) (x_Cm G (some .int) false (x_is (some (.int res.1)) (WModel G a now kept isKept rows rowLong texts textLong found taken res.2.1 hand steps shares choices values latest askedIs above below res.2.2 partedBy)) 0 0) 0 0 87 [(0, .ref (a 0)), (2, .int x2)] [] (WModel G a now kept isKept rows rowLong texts textLong found taken anew hand steps shares choices values latest askedIs above below place partedBy) := by
  unfold M_X7_faultOf_b87 at h
  refine x_iload_n dX7_faultOf_87 1 rfl rfl ?_
  refine x_if_eq 105 dX7_faultOf_88 (by decide) (fun c14 => ?_) (fun c14 => ?_)
  · have h := x_pos c14 h
    refine x_aload_n dX7_faultOf_105 0 rfl rfl ?_
    refine x_get (ci := 5) 14 0 dX7_faultOf_106 fl_X7_93 inX7 rfl (by decide) ⟨rfl, rfl, rfl⟩ rfl rfl ?_
    cases h
    exact x_ireturn dX7_faultOf_109 rfl (x_is.rf _ _)
  · have h := x_neg c14 h
    refine x_aload_n dX7_faultOf_91 0 rfl rfl ?_
    refine x_get (ci := 5) 13 0 dX7_faultOf_92 fl_X7_42 inX7 rfl (by decide) ⟨rfl, rfl, rfl⟩ rfl rfl ?_
    refine x_iconst 1 dX7_faultOf_95 (by decide) ?_
    refine x_iald 1 (q0 := 10) dX7_faultOf_96 (by decide) rfl (by decide) ?_
    refine x_if_le 105 dX7_faultOf_97 (by decide) (fun c15 => ?_) (fun c15 => ?_)
    · have h := x_pos c15 h
      refine x_aload_n dX7_faultOf_105 0 rfl rfl ?_
      refine x_get (ci := 5) 14 0 dX7_faultOf_106 fl_X7_93 inX7 rfl (by decide) ⟨rfl, rfl, rfl⟩ rfl rfl ?_
      cases h
      exact x_ireturn dX7_faultOf_109 rfl (x_is.rf _ _)
    · have h := x_neg c15 h
      refine x_bipush (-9 : Int32) dX7_faultOf_100 (by decide) ?_
      refine x_goto 109 dX7_faultOf_102 (by decide) ?_
      cases h
      exact x_ireturn dX7_faultOf_109 rfl (x_is.rf _ _)
def M_X7_faultOf_b34 (texts : (Nat → Int32)) (textLong : (Nat → Int32)) : Nat → (Nat → Int32) → Int32 → Int32 → Int32 → Option (Int32 × (Nat → Int32) × Int32)
  | 0, _, _, _, _ => none
  | n + 1, anew, place, x1, x2 =>
    if x2 = 0 then
    (M_X7_faultOf_b87 texts textLong anew place x2)
    else
    (if inb x1 4 then
    if (textLong x1.toNatClampNeg) ≤ place then
    (M_X7_faultOf_b87 texts textLong anew place x2)
    else
    ((M_X7_here texts textLong place x1).bind fun r4 =>
    if r4 = (97 : Int32) then
    ((M_X7_takesAct texts textLong anew place x1).bind fun r9 =>
    M_X7_faultOf_b74 texts textLong (fun (anew' : (Nat → Int32)) (place' : Int32) (x1' : Int32) (x2' : Int32) => M_X7_faultOf_b34 texts textLong n anew' place' x1' x2') r9.2.1 r9.2.2 x1 r9.1)
    else
    ((M_X7_takesRope texts textLong anew place x1).bind fun r7 =>
    M_X7_faultOf_b74 texts textLong (fun (anew' : (Nat → Int32)) (place' : Int32) (x1' : Int32) (x2' : Int32) => M_X7_faultOf_b34 texts textLong n anew' place' x1' x2') r7.2.1 r7.2.2 x1 r7.1))
    else none)
set_option maxHeartbeats 4000000 in
set_option maxRecDepth 100000 in
theorem w_X7_faultOf_b34 {G : x_G} {l : Launch} {a : Nat → Nat} {texts : (Nat → Int32)} {textLong : (Nat → Int32)} {now : (Nat → Int32)} {kept : (Nat → Int32)} {isKept : (Nat → Int32)} {rows : (Nat → Int32)} {rowLong : (Nat → Int32)} {found : (Nat → Int32)} {taken : (Nat → Int32)} {hand : (Nat → Int32)} {steps : (Nat → Int32)} {shares : (Nat → Int32)} {choices : (Nat → Int32)} {values : (Nat → Int32)} {latest : Int32} {askedIs : Int32} {above : Int64} {below : Int64} {partedBy : Int32} {res : Int32 × (Nat → Int32) × Int32} : ∀ (n : Nat) (anew : (Nat → Int32)) (place : Int32) (x1 : Int32) (x2 : Int32), M_X7_faultOf_b34 texts textLong n anew place x1 x2 = some res → X G l RX7 cX7_faultOf 3 (x_R 4 0 0) (x_Cm G (some .int) false (x_is (some (.int res.1)) (WModel G a now kept isKept rows rowLong texts textLong found taken res.2.1 hand steps shares choices values latest askedIs above below res.2.2 partedBy)) 0 0) 0 0 34 [(0, .ref (a 0)), (1, .int x1), (2, .int x2)] [] (WModel G a now kept isKept rows rowLong texts textLong found taken anew hand steps shares choices values latest askedIs above below place partedBy) := by
  intro n
  induction n with
  | zero =>
    intro _ _ _ _ h
    cases h
  | succ n ih =>
    intro anew place x1 x2 h
    rw [M_X7_faultOf_b34] at h
    refine x_iload_n dX7_faultOf_34 2 rfl rfl ?_
    refine x_if_eq 87 dX7_faultOf_35 (by decide) (fun c1 => ?_) (fun c1 => ?_)
    · have h := x_pos c1 h
      refine x_lv [0, 2] rfl ?_
      exact w_X7_faultOf_b87  _ _ _ h
    · have h := x_neg c1 h
      refine x_aload_n dX7_faultOf_38 0 rfl rfl ?_
      refine x_get (ci := 5) 14 0 dX7_faultOf_39 fl_X7_93 inX7 rfl (by decide) ⟨rfl, rfl, rfl⟩ rfl rfl ?_
      refine x_aload_n dX7_faultOf_42 0 rfl rfl ?_
      refine x_get (ci := 5) 6 0 dX7_faultOf_43 fl_X7_29 inX7 rfl (by decide) ⟨rfl, rfl, rfl⟩ rfl rfl ?_
      refine x_iload_n dX7_faultOf_46 1 rfl rfl ?_
      obtain ⟨b2, h⟩ := x_guard h
      refine x_iald x1.toNatClampNeg (q0 := 7) dX7_faultOf_47 rfl rfl b2 ?_
      refine x_icmp_ge 87 dX7_faultOf_48 (by decide) (fun c3 => ?_) (fun c3 => ?_)
      · have h := x_pos c3 h
        refine x_lv [0, 2] rfl ?_
        exact w_X7_faultOf_b87  _ _ _ h
      · have h := x_neg c3 h
        refine x_aload_n dX7_faultOf_51 0 rfl rfl ?_
        refine x_iload_n dX7_faultOf_52 1 rfl rfl ?_
        obtain ⟨r4, e5, h⟩ := x_bind h
        refine x_cV (As := [.int x1]) (wc := (WModel G a now kept isKept rows rowLong texts textLong found taken anew hand steps shares choices values latest askedIs above below place partedBy)) (w1 := (WModel G a now kept isKept rows rowLong texts textLong found taken anew hand steps shares choices values latest askedIs above below place partedBy)) (pre := []) (post := []) (rest := []) (st1 := [.int r4]) (ws1 := (WModel G a now kept isKept rows rowLong texts textLong found taken anew hand steps shares choices values latest askedIs above below place partedBy)) (ci := 5) 0 dX7_faultOf_53 (c_X7_here (a := a) e5) pk_X7_here ml_X7_96 (x_full _) rfl rfl rfl rfl rfl rfl rfl rfl (x_full _).symm ?_
        refine x_bipush 97 dX7_faultOf_56 (by decide) ?_
        refine x_icmp_ne 69 dX7_faultOf_58 (by decide) (fun c6 => ?_) (fun c6 => ?_)
        · have h := x_neg c6 h
          refine x_aload_n dX7_faultOf_69 0 rfl rfl ?_
          refine x_iload_n dX7_faultOf_70 1 rfl rfl ?_
          obtain ⟨r7, e8, h⟩ := x_bind h
          refine x_cV (As := [.int x1]) (wc := (WModel G a now kept isKept rows rowLong texts textLong found taken anew hand steps shares choices values latest askedIs above below place partedBy)) (w1 := (WModel G a now kept isKept rows rowLong texts textLong found taken r7.2.1 hand steps shares choices values latest askedIs above below r7.2.2 partedBy)) (pre := []) (post := []) (rest := []) (st1 := [.int r7.1]) (ws1 := (WModel G a now kept isKept rows rowLong texts textLong found taken r7.2.1 hand steps shares choices values latest askedIs above below r7.2.2 partedBy)) (ci := 5) 0 dX7_faultOf_71 (c_X7_takesRope (a := a) e8) pk_X7_takesRope ml_X7_120 (x_full _) rfl rfl rfl rfl rfl rfl rfl rfl (x_full _).symm ?_
          refine x_lv [0, 1] rfl ?_
          exact w_X7_faultOf_b74 (fun anew' place' x1' x2' h => ih anew' place' x1' x2' h) _ _ _ _ h
        · have h := x_pos c6 h
          refine x_aload_n dX7_faultOf_61 0 rfl rfl ?_
          refine x_iload_n dX7_faultOf_62 1 rfl rfl ?_
          obtain ⟨r9, e10, h⟩ := x_bind h
          refine x_cV (As := [.int x1]) (wc := (WModel G a now kept isKept rows rowLong texts textLong found taken anew hand steps shares choices values latest askedIs above below place partedBy)) (w1 := (WModel G a now kept isKept rows rowLong texts textLong found taken r9.2.1 hand steps shares choices values latest askedIs above below r9.2.2 partedBy)) (pre := []) (post := []) (rest := []) (st1 := [.int r9.1]) (ws1 := (WModel G a now kept isKept rows rowLong texts textLong found taken r9.2.1 hand steps shares choices values latest askedIs above below r9.2.2 partedBy)) (ci := 5) 0 dX7_faultOf_63 (c_X7_takesAct (a := a) e10) pk_X7_takesAct ml_X7_117 (x_full _) rfl rfl rfl rfl rfl rfl rfl rfl (x_full _).symm ?_
          refine x_goto 74 dX7_faultOf_66 (by decide) ?_
          refine x_lv [0, 1] rfl ?_
          exact w_X7_faultOf_b74 (fun anew' place' x1' x2' h => ih anew' place' x1' x2' h) _ _ _ _ h
def M_X7_faultOf (texts : (Nat → Int32)) (textLong : (Nat → Int32)) (anew : (Nat → Int32)) (place : Int32) (x1 : Int32) : Option (Int32 × (Nat → Int32) × Int32) :=
  (M_X7_takesFirst texts textLong (upd (upd anew 0 (0 : Int32)) 1 (0 : Int32)) (0 : Int32) x1).bind fun r16 =>
  if r16.1 = 0 then
  (M_X7_faultOf_b34 texts textLong x_fuel r16.2.1 r16.2.2 x1 r16.1)
  else
  ((M_X7_skip texts textLong r16.2.2 x1).bind fun r19 =>
  M_X7_faultOf_b34 texts textLong x_fuel r16.2.1 r19 x1 r16.1)
set_option maxHeartbeats 4000000 in
set_option maxRecDepth 100000 in
theorem c_X7_faultOf {G : x_G} {l : Launch} {a : Nat → Nat} {texts : (Nat → Int32)} {textLong : (Nat → Int32)} {now : (Nat → Int32)} {kept : (Nat → Int32)} {isKept : (Nat → Int32)} {rows : (Nat → Int32)} {rowLong : (Nat → Int32)} {found : (Nat → Int32)} {taken : (Nat → Int32)} {hand : (Nat → Int32)} {steps : (Nat → Int32)} {shares : (Nat → Int32)} {choices : (Nat → Int32)} {values : (Nat → Int32)} {latest : Int32} {askedIs : Int32} {above : Int64} {below : Int64} {partedBy : Int32} {anew : (Nat → Int32)} {place : Int32} {x1 : Int32} {res : Int32 × (Nat → Int32) × Int32} (h : M_X7_faultOf texts textLong anew place x1 = some res) : x_M G l yX7_faultOf cX7_faultOf 3 (some .int) (4) 0 0 [.ref (a 0), .int x1] (WModel G a now kept isKept rows rowLong texts textLong found taken anew hand steps shares choices values latest askedIs above below place partedBy) (x_is (some (.int res.1)) (WModel G a now kept isKept rows rowLong texts textLong found taken res.2.1 hand steps shares choices values latest askedIs above below res.2.2 partedBy)) := by
  unfold M_X7_faultOf at h
  refine x_enter (ini := false) (by decide) rfl (by decide) rfl (Nat.le_of_ble_eq_true rfl) ?_
  refine x_aload_n dX7_faultOf_0 0 rfl rfl ?_
  refine x_iconst 0 dX7_faultOf_1 (by decide) ?_
  refine x_put (ci := 5) (ty := .int) 14 0 (WModel G a now kept isKept rows rowLong texts textLong found taken anew hand steps shares choices values latest askedIs above below ((0 : Int32)) partedBy) dX7_faultOf_2 fl_X7_93 inX7 tyX7_ok nmX7 rfl (by decide) ⟨rfl, rfl, rfl, rfl, rfl⟩ rfl rfl rfl rfl rfl ?_
  refine x_aload_n dX7_faultOf_5 0 rfl rfl ?_
  refine x_get (ci := 5) 13 0 dX7_faultOf_6 fl_X7_42 inX7 rfl (by decide) ⟨rfl, rfl, rfl⟩ rfl rfl ?_
  refine x_iconst 0 dX7_faultOf_9 (by decide) ?_
  refine x_iconst 0 dX7_faultOf_10 (by decide) ?_
  refine x_iast 0 (q0 := 10) (WModel G a now kept isKept rows rowLong texts textLong found taken ((upd anew 0 (0 : Int32))) hand steps shares choices values latest askedIs above below ((0 : Int32)) partedBy) dX7_faultOf_11 (by decide) rfl (by decide) rfl ?_
  refine x_aload_n dX7_faultOf_12 0 rfl rfl ?_
  refine x_get (ci := 5) 13 0 dX7_faultOf_13 fl_X7_42 inX7 rfl (by decide) ⟨rfl, rfl, rfl⟩ rfl rfl ?_
  refine x_iconst 1 dX7_faultOf_16 (by decide) ?_
  refine x_iconst 0 dX7_faultOf_17 (by decide) ?_
  refine x_iast 1 (q0 := 10) (WModel G a now kept isKept rows rowLong texts textLong found taken ((upd (upd anew 0 (0 : Int32)) 1 (0 : Int32))) hand steps shares choices values latest askedIs above below ((0 : Int32)) partedBy) dX7_faultOf_18 (by decide) rfl (by decide) rfl ?_
  refine x_aload_n dX7_faultOf_19 0 rfl rfl ?_
  refine x_iload_n dX7_faultOf_20 1 rfl rfl ?_
  obtain ⟨r16, e17, h⟩ := x_bind h
  refine x_cV (As := [.int x1]) (wc := (WModel G a now kept isKept rows rowLong texts textLong found taken ((upd (upd anew 0 (0 : Int32)) 1 (0 : Int32))) hand steps shares choices values latest askedIs above below ((0 : Int32)) partedBy)) (w1 := (WModel G a now kept isKept rows rowLong texts textLong found taken r16.2.1 hand steps shares choices values latest askedIs above below r16.2.2 partedBy)) (pre := []) (post := []) (rest := []) (st1 := [.int r16.1]) (ws1 := (WModel G a now kept isKept rows rowLong texts textLong found taken r16.2.1 hand steps shares choices values latest askedIs above below r16.2.2 partedBy)) (ci := 5) 0 dX7_faultOf_21 (c_X7_takesFirst (a := a) e17) pk_X7_takesFirst ml_X7_114 (x_full _) rfl rfl rfl rfl rfl rfl rfl rfl (x_full _).symm ?_
  refine x_istore_n [(2, .int r16.1), (0, .ref (a 0)), (1, .int x1)] dX7_faultOf_24 rfl (by decide) rfl ?_
  refine x_iload_n dX7_faultOf_25 0 rfl rfl ?_
  refine x_if_eq 34 dX7_faultOf_26 (by decide) (fun c18 => ?_) (fun c18 => ?_)
  · have h := x_pos c18 h
    refine x_lv [1, 2, 0] rfl ?_
    exact w_X7_faultOf_b34  _ _ _ _ _ h
  · have h := x_neg c18 h
    refine x_aload_n dX7_faultOf_29 1 rfl rfl ?_
    refine x_iload_n dX7_faultOf_30 2 rfl rfl ?_
    obtain ⟨r19, e20, h⟩ := x_bind h
    refine x_cV (As := [.int x1]) (wc := (WModel G a now kept isKept rows rowLong texts textLong found taken r16.2.1 hand steps shares choices values latest askedIs above below r16.2.2 partedBy)) (w1 := (WModel G a now kept isKept rows rowLong texts textLong found taken r16.2.1 hand steps shares choices values latest askedIs above below r19 partedBy)) (pre := []) (post := []) (rest := []) (st1 := []) (ws1 := (WModel G a now kept isKept rows rowLong texts textLong found taken r16.2.1 hand steps shares choices values latest askedIs above below r19 partedBy)) (ci := 5) 0 dX7_faultOf_31 (c_X7_skip (a := a) e20) pk_X7_skip ml_X7_103 (x_full _) rfl rfl rfl rfl rfl rfl rfl rfl (x_full _).symm ?_
    refine x_lv [1, 2, 0] rfl ?_
    exact w_X7_faultOf_b34  _ _ _ _ _ h
theorem pk_X7_fault : x_pv RX7 yX7_fault cX7_fault 2 (some .int) 1 := ⟨⟨co_X7_fault, ni_X7, by decide, by decide +kernel⟩, im_X7_fault, se_X7_fault⟩
def M_X7_fault (texts : (Nat → Int32)) (textLong : (Nat → Int32)) (found : (Nat → Int32)) (anew : (Nat → Int32)) (latest : Int32) (place : Int32) (x1 : Int32) : Option (Int32 × (Nat → Int32) × (Nat → Int32) × Int32 × Int32) :=
  if (M_X7_isText x1) = 0 then
  (some ((-1 : Int32), found, anew, latest, place))
  else
  (if inb x1 4 then
  if 0 ≤ (textLong x1.toNatClampNeg) then
  ((M_X7_faultOf texts textLong anew place x1).bind fun r4 =>
  some (r4.1, found, r4.2.1, latest, r4.2.2))
  else
  ((M_X7_finds found latest (1 : Int32)).bind fun r6 =>
  some (r6.1, r6.2.1, anew, r6.2.2, place))
  else none)
set_option maxHeartbeats 4000000 in
set_option maxRecDepth 100000 in
theorem c_X7_fault {G : x_G} {l : Launch} {a : Nat → Nat} {texts : (Nat → Int32)} {textLong : (Nat → Int32)} {now : (Nat → Int32)} {kept : (Nat → Int32)} {isKept : (Nat → Int32)} {rows : (Nat → Int32)} {rowLong : (Nat → Int32)} {taken : (Nat → Int32)} {hand : (Nat → Int32)} {steps : (Nat → Int32)} {shares : (Nat → Int32)} {choices : (Nat → Int32)} {values : (Nat → Int32)} {askedIs : Int32} {above : Int64} {below : Int64} {partedBy : Int32} {found : (Nat → Int32)} {anew : (Nat → Int32)} {latest : Int32} {place : Int32} {x1 : Int32} {res : Int32 × (Nat → Int32) × (Nat → Int32) × Int32 × Int32} (h : M_X7_fault texts textLong found anew latest place x1 = some res) : x_M G l yX7_fault cX7_fault 2 (some .int) (5) 0 0 [.ref (a 0), .int x1] (WModel G a now kept isKept rows rowLong texts textLong found taken anew hand steps shares choices values latest askedIs above below place partedBy) (x_is (some (.int res.1)) (WModel G a now kept isKept rows rowLong texts textLong res.2.1 taken res.2.2.1 hand steps shares choices values res.2.2.2.1 askedIs above below res.2.2.2.2 partedBy)) := by
  unfold M_X7_fault at h
  refine x_enter (ini := false) (by decide) rfl (by decide) rfl (Nat.le_of_ble_eq_true rfl) ?_
  refine x_iload_n dX7_fault_0 1 rfl rfl ?_
  refine x_cS (As := [.int x1]) (wc := ([] : va_W)) (w1 := ([] : va_W)) (pre := []) (post := (WModel G a now kept isKept rows rowLong texts textLong found taken anew hand steps shares choices values latest askedIs above below place partedBy)) (rest := []) (st1 := [.int (M_X7_isText x1)]) (ws1 := (WModel G a now kept isKept rows rowLong texts textLong found taken anew hand steps shares choices values latest askedIs above below place partedBy)) dX7_fault_1 (c_X7_isText rfl) pk_X7_isText ml_X7_90 rfl rfl rfl rfl rfl rfl rfl ?_
  refine x_if_ne 9 dX7_fault_4 (by decide) (fun c1 => ?_) (fun c1 => ?_)
  · have h := x_neg c1 h
    refine x_aload_n dX7_fault_9 0 rfl rfl ?_
    refine x_get (ci := 5) 6 0 dX7_fault_10 fl_X7_29 inX7 rfl (by decide) ⟨rfl, rfl, rfl⟩ rfl rfl ?_
    refine x_iload_n dX7_fault_13 1 rfl rfl ?_
    obtain ⟨b2, h⟩ := x_guard h
    refine x_iald x1.toNatClampNeg (q0 := 7) dX7_fault_14 rfl rfl b2 ?_
    refine x_if_ge 26 dX7_fault_15 (by decide) (fun c3 => ?_) (fun c3 => ?_)
    · have h := x_pos c3 h
      refine x_aload_n dX7_fault_26 0 rfl rfl ?_
      refine x_iload_n dX7_fault_27 1 rfl rfl ?_
      obtain ⟨r4, e5, h⟩ := x_bind h
      refine x_cV (As := [.int x1]) (wc := (WModel G a now kept isKept rows rowLong texts textLong found taken anew hand steps shares choices values latest askedIs above below place partedBy)) (w1 := (WModel G a now kept isKept rows rowLong texts textLong found taken r4.2.1 hand steps shares choices values latest askedIs above below r4.2.2 partedBy)) (pre := []) (post := []) (rest := []) (st1 := [.int r4.1]) (ws1 := (WModel G a now kept isKept rows rowLong texts textLong found taken r4.2.1 hand steps shares choices values latest askedIs above below r4.2.2 partedBy)) (ci := 5) 0 dX7_fault_28 (c_X7_faultOf (a := a) e5) pk_X7_faultOf ml_X7_123 (x_full _) rfl rfl rfl rfl rfl rfl rfl rfl (x_full _).symm ?_
      cases h
      exact x_ireturn dX7_fault_31 rfl (x_is.rf _ _)
    · have h := x_neg c3 h
      refine x_aload_n dX7_fault_18 0 rfl rfl ?_
      refine x_iconst 1 dX7_fault_19 (by decide) ?_
      obtain ⟨r6, e7, h⟩ := x_bind h
      refine x_cV (As := [.int (1 : Int32)]) (wc := (WModel G a now kept isKept rows rowLong texts textLong found taken anew hand steps shares choices values latest askedIs above below place partedBy)) (w1 := (WModel G a now kept isKept rows rowLong texts textLong r6.2.1 taken anew hand steps shares choices values r6.2.2 askedIs above below place partedBy)) (pre := []) (post := []) (rest := []) (st1 := [.int r6.1]) (ws1 := (WModel G a now kept isKept rows rowLong texts textLong r6.2.1 taken anew hand steps shares choices values r6.2.2 askedIs above below place partedBy)) (ci := 5) 0 dX7_fault_20 (c_X7_finds (a := a) e7) pk_X7_finds ml_X7_79 (x_full _) rfl rfl rfl rfl rfl rfl rfl rfl (x_full _).symm ?_
      refine x_goto 31 dX7_fault_23 (by decide) ?_
      cases h
      exact x_ireturn dX7_fault_31 rfl (x_is.rf _ _)
  · have h := x_pos c1 h
    refine x_iconst (-1 : Int32) dX7_fault_7 (by decide) ?_
    cases h
    exact x_ireturn dX7_fault_8 rfl (x_is.rf _ _)
theorem pk_X7_begin : x_ps yX7_begin cX7_begin 2 none 1 := ⟨⟨co_X7_begin, ni_X7, by decide, by decide +kernel⟩, sm_X7_begin⟩
def M_X7_begin_85_b2 : Nat → (Nat → Int32) → Int32 → Option ((Nat → Int32))
  | 0, _, _ => none
  | n + 1, c, x1 =>
    if (6 : Int32) ≤ x1 then
    (some (upd (upd (upd c 82 (0 : Int32)) 83 (0 : Int32)) 84 ((upd (upd c 82 (0 : Int32)) 83 (0 : Int32)) 26)))
    else
    (if inb ((20 : Int32) + x1) 85 then
    if inb ((76 : Int32) + x1) 85 then
    M_X7_begin_85_b2 n (upd c ((76 : Int32) + x1).toNatClampNeg (c ((20 : Int32) + x1).toNatClampNeg)) (x1 + (1 : Int32))
    else none
    else none)
set_option maxHeartbeats 4000000 in
set_option maxRecDepth 100000 in
theorem w_X7_begin_85_b2 {G : x_G} {l : Launch} {aq : Nat → Nat} {res : (Nat → Int32)} : ∀ (n : Nat) (c : (Nat → Int32)) (x1 : Int32), M_X7_begin_85_b2 n c x1 = some res → X G l RX7 cX7_begin 2 (x_R 0 0 0) (x_Cm G none false (x_is none (WArr G aq 85 res)) 0 0) 0 0 2 [(0, .ref (aq 0)), (1, .int x1)] [] (WArr G aq 85 c) := by
  intro n
  induction n with
  | zero =>
    intro _ _ h
    cases h
  | succ n ih =>
    intro c x1 h
    rw [M_X7_begin_85_b2] at h
    refine x_iload_n dX7_begin_2 1 rfl rfl ?_
    refine x_bipush 6 dX7_begin_3 (by decide) ?_
    refine x_icmp_ge 26 dX7_begin_5 (by decide) (fun c1 => ?_) (fun c1 => ?_)
    · have h := x_pos c1 h
      refine x_aload_n dX7_begin_26 0 rfl rfl ?_
      refine x_bipush 82 dX7_begin_27 (by decide) ?_
      refine x_iconst 0 dX7_begin_29 (by decide) ?_
      refine x_iast 82 (q0 := 0) (WArr G aq 85 ((upd c 82 (0 : Int32)))) dX7_begin_30 (by decide) rfl (by decide) rfl ?_
      refine x_aload_n dX7_begin_31 0 rfl rfl ?_
      refine x_bipush 83 dX7_begin_32 (by decide) ?_
      refine x_iconst 0 dX7_begin_34 (by decide) ?_
      refine x_iast 83 (q0 := 0) (WArr G aq 85 ((upd (upd c 82 (0 : Int32)) 83 (0 : Int32)))) dX7_begin_35 (by decide) rfl (by decide) rfl ?_
      refine x_aload_n dX7_begin_36 0 rfl rfl ?_
      refine x_bipush 84 dX7_begin_37 (by decide) ?_
      refine x_aload_n dX7_begin_39 0 rfl rfl ?_
      refine x_bipush 26 dX7_begin_40 (by decide) ?_
      refine x_iald 26 (q0 := 0) dX7_begin_42 (by decide) rfl (by decide) ?_
      refine x_iast 84 (q0 := 0) (WArr G aq 85 ((upd (upd (upd c 82 (0 : Int32)) 83 (0 : Int32)) 84 ((upd (upd c 82 (0 : Int32)) 83 (0 : Int32)) 26)))) dX7_begin_43 (by decide) rfl (by decide) rfl ?_
      cases h
      exact x_return dX7_begin_44 (x_is.rf _ _)
    · have h := x_neg c1 h
      refine x_aload_n dX7_begin_8 0 rfl rfl ?_
      refine x_bipush 76 dX7_begin_9 (by decide) ?_
      refine x_iload_n dX7_begin_11 1 rfl rfl ?_
      refine x_iadd dX7_begin_12 ?_
      refine x_aload_n dX7_begin_13 0 rfl rfl ?_
      refine x_bipush 20 dX7_begin_14 (by decide) ?_
      refine x_iload_n dX7_begin_16 1 rfl rfl ?_
      refine x_iadd dX7_begin_17 ?_
      obtain ⟨b2, h⟩ := x_guard h
      refine x_iald ((20 : Int32) + x1).toNatClampNeg (q0 := 0) dX7_begin_18 rfl rfl b2 ?_
      obtain ⟨b3, h⟩ := x_guard h
      refine x_iast ((76 : Int32) + x1).toNatClampNeg (q0 := 0) (WArr G aq 85 ((upd c ((76 : Int32) + x1).toNatClampNeg (c ((20 : Int32) + x1).toNatClampNeg)))) dX7_begin_19 rfl rfl b3 rfl ?_
      refine x_iinc (j := 1) (1 : Int32) [(1, .int (x1 + (1 : Int32))), (0, .ref (aq 0))] dX7_begin_20 (by decide) rfl (by decide) rfl ?_
      refine x_goto 2 dX7_begin_23 (by decide) ?_
      refine x_lv [1, 0] rfl ?_
      exact ih _ _ h
def M_X7_begin_85 (c : (Nat → Int32)) : Option ((Nat → Int32)) :=
  M_X7_begin_85_b2 x_fuel c (0 : Int32)
set_option maxHeartbeats 4000000 in
set_option maxRecDepth 100000 in
theorem c_X7_begin_85 {G : x_G} {l : Launch} {aq : Nat → Nat} {c : (Nat → Int32)} {res : (Nat → Int32)} (h : M_X7_begin_85 c = some res) : x_M G l yX7_begin cX7_begin 2 none (0) 0 0 [.ref (aq 0)] (WArr G aq 85 c) (x_is none (WArr G aq 85 res)) := by
  unfold M_X7_begin_85 at h
  refine x_enter (ini := false) (by decide) rfl (by decide) rfl (Nat.le_of_ble_eq_true rfl) ?_
  refine x_iconst 0 dX7_begin_0 (by decide) ?_
  refine x_istore_n [(1, .int (0 : Int32)), (0, .ref (aq 0))] dX7_begin_1 rfl (by decide) rfl ?_
  refine x_lv [1, 0] rfl ?_
  exact w_X7_begin_85_b2  _ _ _ h
theorem pk_X7_court : x_pv RX7 yX7_court cX7_court 4 (some .int) 1 := ⟨⟨co_X7_court, ni_X7, by decide, by decide +kernel⟩, im_X7_court, se_X7_court⟩
def M_X7_court_b138 (texts : (Nat → Int32)) (textLong : (Nat → Int32)) (k65 : (Nat → Int32) → (Nat → Int32) → (Nat → Int32) → (Nat → Int32) → Int32 → Int32 → Int32 → Option (Int32 × (Nat → Int32) × (Nat → Int32) × (Nat → Int32) × (Nat → Int32) × Int32 × Int32)) (now : (Nat → Int32)) (isKept : (Nat → Int32)) (found : (Nat → Int32)) (anew : (Nat → Int32)) (latest : Int32) (place : Int32) (x2 : Int32) (s1 : Int32) (s2 : Int32) : Option (Int32 × (Nat → Int32) × (Nat → Int32) × (Nat → Int32) × (Nat → Int32) × Int32 × Int32) :=
  if inb s1 85 then
  k65 (upd now s1.toNatClampNeg s2) isKept found anew latest place (x2 + (1 : Int32))
  else none
set_option maxHeartbeats 4000000 in
set_option maxRecDepth 100000 in
theorem w_X7_court_b138 {G : x_G} {l : Launch} {a : Nat → Nat} {texts : (Nat → Int32)} {textLong : (Nat → Int32)} {kept : (Nat → Int32)} {rows : (Nat → Int32)} {rowLong : (Nat → Int32)} {taken : (Nat → Int32)} {hand : (Nat → Int32)} {steps : (Nat → Int32)} {shares : (Nat → Int32)} {choices : (Nat → Int32)} {values : (Nat → Int32)} {askedIs : Int32} {above : Int64} {below : Int64} {partedBy : Int32} {k65 : (Nat → Int32) → (Nat → Int32) → (Nat → Int32) → (Nat → Int32) → Int32 → Int32 → Int32 → Option (Int32 × (Nat → Int32) × (Nat → Int32) × (Nat → Int32) × (Nat → Int32) × Int32 × Int32)} {res : Int32 × (Nat → Int32) × (Nat → Int32) × (Nat → Int32) × (Nat → Int32) × Int32 × Int32} (hk65 : ∀ (now : (Nat → Int32)) (isKept : (Nat → Int32)) (found : (Nat → Int32)) (anew : (Nat → Int32)) (latest : Int32) (place : Int32) (x2 : Int32), k65 now isKept found anew latest place x2 = some res → X G l RX7 cX7_court 4 (x_R 5 0 0) (x_Cm G (some .int) false (x_is (some (.int res.1)) (WModel G a res.2.1 kept res.2.2.1 rows rowLong texts textLong res.2.2.2.1 taken res.2.2.2.2.1 hand steps shares choices values res.2.2.2.2.2.1 askedIs above below res.2.2.2.2.2.2 partedBy)) 0 0) 0 0 65 [(0, .ref (a 0)), (2, .int x2)] [] (WModel G a now kept isKept rows rowLong texts textLong found taken anew hand steps shares choices values latest askedIs above below place partedBy)) (now : (Nat → Int32)) (isKept : (Nat → Int32)) (found : (Nat → Int32)) (anew : (Nat → Int32)) (latest : Int32) (place : Int32) (x2 : Int32) (s1 : Int32) (s2 : Int32) (h : M_X7_court_b138 texts textLong k65 now isKept found anew latest place x2 s1 s2 = some res) : X G l RX7 cX7_court 4 (x_R 5 0 0) (x_Cm G (some .int) false (x_is (some (.int res.1)) (WModel G a res.2.1 kept res.2.2.1 rows rowLong texts textLong res.2.2.2.1 taken res.2.2.2.2.1 hand steps shares choices values res.2.2.2.2.2.1 askedIs above below res.2.2.2.2.2.2 partedBy)) 0 0) 0 0 138 [(0, .ref (a 0)), (2, .int x2)] [.int s2, .int s1, .ref (a 1)] (WModel G a now kept isKept rows rowLong texts textLong found taken anew hand steps shares choices values latest askedIs above below place partedBy) := by
  unfold M_X7_court_b138 at h
  obtain ⟨b11, h⟩ := x_guard h
  refine x_iast s1.toNatClampNeg (q0 := 1) (WModel G a ((upd now s1.toNatClampNeg s2)) kept isKept rows rowLong texts textLong found taken anew hand steps shares choices values latest askedIs above below place partedBy) dX7_court_138 rfl rfl b11 rfl ?_
  refine x_iinc (j := 1) (1 : Int32) [(2, .int (x2 + (1 : Int32))), (0, .ref (a 0))] dX7_court_139 (by decide) rfl (by decide) rfl ?_
  refine x_goto 65 dX7_court_142 (by decide) ?_
  refine x_lv [1, 0] rfl ?_
  exact hk65 _ _ _ _ _ _ _ h
def M_X7_court_b111 (texts : (Nat → Int32)) (textLong : (Nat → Int32)) (k65 : (Nat → Int32) → (Nat → Int32) → (Nat → Int32) → (Nat → Int32) → Int32 → Int32 → Int32 → Option (Int32 × (Nat → Int32) × (Nat → Int32) × (Nat → Int32) × (Nat → Int32) × Int32 × Int32)) (now : (Nat → Int32)) (isKept : (Nat → Int32)) (found : (Nat → Int32)) (anew : (Nat → Int32)) (latest : Int32) (place : Int32) (x2 : Int32) (s0 : Int32) : Option (Int32 × (Nat → Int32) × (Nat → Int32) × (Nat → Int32) × (Nat → Int32) × Int32 × Int32) :=
  if s0 = 0 then
  (M_X7_court_b138 texts textLong k65 now isKept found anew latest place x2 ((14 : Int32) + x2) (-9 : Int32))
  else
  (if inb ((14 : Int32) + x2) 85 then
  M_X7_court_b138 texts textLong k65 now isKept found anew latest place x2 ((14 : Int32) + x2) (now ((14 : Int32) + x2).toNatClampNeg)
  else none)
set_option maxHeartbeats 4000000 in
set_option maxRecDepth 100000 in
theorem w_X7_court_b111 {G : x_G} {l : Launch} {a : Nat → Nat} {texts : (Nat → Int32)} {textLong : (Nat → Int32)} {kept : (Nat → Int32)} {rows : (Nat → Int32)} {rowLong : (Nat → Int32)} {taken : (Nat → Int32)} {hand : (Nat → Int32)} {steps : (Nat → Int32)} {shares : (Nat → Int32)} {choices : (Nat → Int32)} {values : (Nat → Int32)} {askedIs : Int32} {above : Int64} {below : Int64} {partedBy : Int32} {k65 : (Nat → Int32) → (Nat → Int32) → (Nat → Int32) → (Nat → Int32) → Int32 → Int32 → Int32 → Option (Int32 × (Nat → Int32) × (Nat → Int32) × (Nat → Int32) × (Nat → Int32) × Int32 × Int32)} {res : Int32 × (Nat → Int32) × (Nat → Int32) × (Nat → Int32) × (Nat → Int32) × Int32 × Int32} (hk65 : ∀ (now : (Nat → Int32)) (isKept : (Nat → Int32)) (found : (Nat → Int32)) (anew : (Nat → Int32)) (latest : Int32) (place : Int32) (x2 : Int32), k65 now isKept found anew latest place x2 = some res → X G l RX7 cX7_court 4 (x_R 5 0 0) (x_Cm G (some .int) false (x_is (some (.int res.1)) (WModel G a res.2.1 kept res.2.2.1 rows rowLong texts textLong res.2.2.2.1 taken res.2.2.2.2.1 hand steps shares choices values res.2.2.2.2.2.1 askedIs above below res.2.2.2.2.2.2 partedBy)) 0 0) 0 0 65 [(0, .ref (a 0)), (2, .int x2)] [] (WModel G a now kept isKept rows rowLong texts textLong found taken anew hand steps shares choices values latest askedIs above below place partedBy)) (now : (Nat → Int32)) (isKept : (Nat → Int32)) (found : (Nat → Int32)) (anew : (Nat → Int32)) (latest : Int32) (place : Int32) (x2 : Int32) (s0 : Int32) (h : M_X7_court_b111 texts textLong k65 now isKept found anew latest place x2 s0 = some res) : X G l RX7 cX7_court 4 (x_R 5 0 0) (x_Cm G (some .int) false (x_is (some (.int res.1)) (WModel G a res.2.1 kept res.2.2.1 rows rowLong texts textLong res.2.2.2.1 taken res.2.2.2.2.1 hand steps shares choices values res.2.2.2.2.2.1 askedIs above below res.2.2.2.2.2.2 partedBy)) 0 0) 0 0 111 [(0, .ref (a 0)), (2, .int x2)] [.int s0] (WModel G a now kept isKept rows rowLong texts textLong found taken anew hand steps shares choices values latest askedIs above below place partedBy) := by
  unfold M_X7_court_b111 at h
  refine x_istore_n [(3, .int s0), (0, .ref (a 0)), (2, .int x2)] dX7_court_111 rfl (by decide) rfl ?_
  refine x_aload_n dX7_court_112 1 rfl rfl ?_
  refine x_get (ci := 5) 0 0 dX7_court_113 fl_X7_7 inX7 rfl (by decide) ⟨rfl, rfl, rfl⟩ rfl rfl ?_
  refine x_bipush 14 dX7_court_116 (by decide) ?_
  refine x_iload_n dX7_court_118 2 rfl rfl ?_
  refine x_iadd dX7_court_119 ?_
  refine x_iload_n dX7_court_120 0 rfl rfl ?_
  refine x_if_eq 136 dX7_court_121 (by decide) (fun c9 => ?_) (fun c9 => ?_)
  · have h := x_pos c9 h
    refine x_bipush (-9 : Int32) dX7_court_136 (by decide) ?_
    refine x_lv [1, 2] rfl ?_
    exact w_X7_court_b138 hk65 _ _ _ _ _ _ _ _ _ h
  · have h := x_neg c9 h
    refine x_aload_n dX7_court_124 1 rfl rfl ?_
    refine x_get (ci := 5) 0 0 dX7_court_125 fl_X7_7 inX7 rfl (by decide) ⟨rfl, rfl, rfl⟩ rfl rfl ?_
    refine x_bipush 14 dX7_court_128 (by decide) ?_
    refine x_iload_n dX7_court_130 2 rfl rfl ?_
    refine x_iadd dX7_court_131 ?_
    obtain ⟨b10, h⟩ := x_guard h
    refine x_iald ((14 : Int32) + x2).toNatClampNeg (q0 := 1) dX7_court_132 rfl rfl b10 ?_
    refine x_goto 138 dX7_court_133 (by decide) ?_
    refine x_lv [1, 2] rfl ?_
    exact w_X7_court_b138 hk65 _ _ _ _ _ _ _ _ _ h
def M_X7_court_b110 (texts : (Nat → Int32)) (textLong : (Nat → Int32)) (k65 : (Nat → Int32) → (Nat → Int32) → (Nat → Int32) → (Nat → Int32) → Int32 → Int32 → Int32 → Option (Int32 × (Nat → Int32) × (Nat → Int32) × (Nat → Int32) × (Nat → Int32) × Int32 × Int32)) (now : (Nat → Int32)) (isKept : (Nat → Int32)) (found : (Nat → Int32)) (anew : (Nat → Int32)) (latest : Int32) (place : Int32) (x2 : Int32) : Option (Int32 × (Nat → Int32) × (Nat → Int32) × (Nat → Int32) × (Nat → Int32) × Int32 × Int32) :=
  M_X7_court_b111 texts textLong k65 now isKept found anew latest place x2 (0 : Int32)
set_option maxHeartbeats 4000000 in
set_option maxRecDepth 100000 in
theorem w_X7_court_b110 {G : x_G} {l : Launch} {a : Nat → Nat} {texts : (Nat → Int32)} {textLong : (Nat → Int32)} {kept : (Nat → Int32)} {rows : (Nat → Int32)} {rowLong : (Nat → Int32)} {taken : (Nat → Int32)} {hand : (Nat → Int32)} {steps : (Nat → Int32)} {shares : (Nat → Int32)} {choices : (Nat → Int32)} {values : (Nat → Int32)} {askedIs : Int32} {above : Int64} {below : Int64} {partedBy : Int32} {k65 : (Nat → Int32) → (Nat → Int32) → (Nat → Int32) → (Nat → Int32) → Int32 → Int32 → Int32 → Option (Int32 × (Nat → Int32) × (Nat → Int32) × (Nat → Int32) × (Nat → Int32) × Int32 × Int32)} {res : Int32 × (Nat → Int32) × (Nat → Int32) × (Nat → Int32) × (Nat → Int32) × Int32 × Int32} (hk65 : ∀ (now : (Nat → Int32)) (isKept : (Nat → Int32)) (found : (Nat → Int32)) (anew : (Nat → Int32)) (latest : Int32) (place : Int32) (x2 : Int32), k65 now isKept found anew latest place x2 = some res → X G l RX7 cX7_court 4 (x_R 5 0 0) (x_Cm G (some .int) false (x_is (some (.int res.1)) (WModel G a res.2.1 kept res.2.2.1 rows rowLong texts textLong res.2.2.2.1 taken res.2.2.2.2.1 hand steps shares choices values res.2.2.2.2.2.1 askedIs above below res.2.2.2.2.2.2 partedBy)) 0 0) 0 0 65 [(0, .ref (a 0)), (2, .int x2)] [] (WModel G a now kept isKept rows rowLong texts textLong found taken anew hand steps shares choices values latest askedIs above below place partedBy)) (now : (Nat → Int32)) (isKept : (Nat → Int32)) (found : (Nat → Int32)) (anew : (Nat → Int32)) (latest : Int32) (place : Int32) (x2 : Int32) (h : M_X7_court_b110 texts textLong k65 now isKept found anew latest place x2 = some res) : X G l RX7 cX7_court 4 (x_R 5 0 0) (x_Cm G (some .int) false (x_is (some (.int res.1)) (WModel G a res.2.1 kept res.2.2.1 rows rowLong texts textLong res.2.2.2.1 taken res.2.2.2.2.1 hand steps shares choices values res.2.2.2.2.2.1 askedIs above below res.2.2.2.2.2.2 partedBy)) 0 0) 0 0 110 [(0, .ref (a 0)), (2, .int x2)] [] (WModel G a now kept isKept rows rowLong texts textLong found taken anew hand steps shares choices values latest askedIs above below place partedBy) := by
  unfold M_X7_court_b110 at h
  refine x_iconst 0 dX7_court_110 (by decide) ?_
  exact w_X7_court_b111 hk65 _ _ _ _ _ _ _ _ h
def M_X7_court_b162 (texts : (Nat → Int32)) (textLong : (Nat → Int32)) : Nat → (Nat → Int32) → (Nat → Int32) → (Nat → Int32) → (Nat → Int32) → Int32 → Int32 → Int32 → Option (Int32 × (Nat → Int32) × (Nat → Int32) × (Nat → Int32) × (Nat → Int32) × Int32 × Int32)
  | 0, _, _, _, _, _, _, _ => none
  | n + 1, now, isKept, found, anew, latest, place, x2 =>
    if (3 : Int32) ≤ x2 then
    (some ((now 0), now, isKept, found, anew, latest, place))
    else
    (if inb x2 3 then
    M_X7_court_b162 texts textLong n now (upd isKept x2.toNatClampNeg (vp_nar .boolean (0 : Int32))) found anew latest place (x2 + (1 : Int32))
    else none)
set_option maxHeartbeats 4000000 in
set_option maxRecDepth 100000 in
theorem w_X7_court_b162 {G : x_G} {l : Launch} {a : Nat → Nat} {texts : (Nat → Int32)} {textLong : (Nat → Int32)} {kept : (Nat → Int32)} {rows : (Nat → Int32)} {rowLong : (Nat → Int32)} {taken : (Nat → Int32)} {hand : (Nat → Int32)} {steps : (Nat → Int32)} {shares : (Nat → Int32)} {choices : (Nat → Int32)} {values : (Nat → Int32)} {askedIs : Int32} {above : Int64} {below : Int64} {partedBy : Int32} {res : Int32 × (Nat → Int32) × (Nat → Int32) × (Nat → Int32) × (Nat → Int32) × Int32 × Int32} : ∀ (n : Nat) (now : (Nat → Int32)) (isKept : (Nat → Int32)) (found : (Nat → Int32)) (anew : (Nat → Int32)) (latest : Int32) (place : Int32) (x2 : Int32), M_X7_court_b162 texts textLong n now isKept found anew latest place x2 = some res → X G l RX7 cX7_court 4 (x_R 5 0 0) (x_Cm G (some .int) false (x_is (some (.int res.1)) (WModel G a res.2.1 kept res.2.2.1 rows rowLong texts textLong res.2.2.2.1 taken res.2.2.2.2.1 hand steps shares choices values res.2.2.2.2.2.1 askedIs above below res.2.2.2.2.2.2 partedBy)) 0 0) 0 0 162 [(0, .ref (a 0)), (2, .int x2)] [] (WModel G a now kept isKept rows rowLong texts textLong found taken anew hand steps shares choices values latest askedIs above below place partedBy) := by
  intro n
  induction n with
  | zero =>
    intro _ _ _ _ _ _ _ h
    cases h
  | succ n ih =>
    intro now isKept found anew latest place x2 h
    rw [M_X7_court_b162] at h
    refine x_iload_n dX7_court_162 1 rfl rfl ?_
    refine x_iconst 3 dX7_court_163 (by decide) ?_
    refine x_icmp_ge 180 dX7_court_164 (by decide) (fun c12 => ?_) (fun c12 => ?_)
    · have h := x_pos c12 h
      refine x_aload_n dX7_court_180 0 rfl rfl ?_
      refine x_get (ci := 5) 0 0 dX7_court_181 fl_X7_7 inX7 rfl (by decide) ⟨rfl, rfl, rfl⟩ rfl rfl ?_
      refine x_iconst 0 dX7_court_184 (by decide) ?_
      refine x_iald 0 (q0 := 1) dX7_court_185 (by decide) rfl (by decide) ?_
      cases h
      exact x_ireturn dX7_court_186 rfl (x_is.rf _ _)
    · have h := x_neg c12 h
      refine x_aload_n dX7_court_167 0 rfl rfl ?_
      refine x_get (ci := 5) 2 0 dX7_court_168 fl_X7_16 inX7 rfl (by decide) ⟨rfl, rfl, rfl⟩ rfl rfl ?_
      refine x_iload_n dX7_court_171 1 rfl rfl ?_
      refine x_iconst 0 dX7_court_172 (by decide) ?_
      obtain ⟨b13, h⟩ := x_guard h
      refine x_zast x2.toNatClampNeg (q0 := 3) (WModel G a now kept ((upd isKept x2.toNatClampNeg (vp_nar .boolean (0 : Int32)))) rows rowLong texts textLong found taken anew hand steps shares choices values latest askedIs above below place partedBy) dX7_court_173 rfl rfl b13 rfl ?_
      refine x_iinc (j := 1) (1 : Int32) [(2, .int (x2 + (1 : Int32))), (0, .ref (a 0))] dX7_court_174 (by decide) rfl (by decide) rfl ?_
      refine x_goto 162 dX7_court_177 (by decide) ?_
      refine x_lv [1, 0] rfl ?_
      exact ih _ _ _ _ _ _ _ h
def M_X7_court_b65 (texts : (Nat → Int32)) (textLong : (Nat → Int32)) : Nat → (Nat → Int32) → (Nat → Int32) → (Nat → Int32) → (Nat → Int32) → Int32 → Int32 → Int32 → Option (Int32 × (Nat → Int32) × (Nat → Int32) × (Nat → Int32) × (Nat → Int32) × Int32 × Int32)
  | 0, _, _, _, _, _, _, _ => none
  | n + 1, now, isKept, found, anew, latest, place, x2 =>
    if (now 0) ≤ x2 then
    ((M_X7_begin_85 (upd now 35 (0 : Int32))).bind fun r4 =>
    M_X7_court_b162 texts textLong x_fuel r4 isKept found anew latest place (0 : Int32))
    else
    (if inb ((14 : Int32) + x2) 85 then
    if (now 0) ≤ (now ((14 : Int32) + x2).toNatClampNeg) then
    (M_X7_court_b110 texts textLong (fun (now' : (Nat → Int32)) (isKept' : (Nat → Int32)) (found' : (Nat → Int32)) (anew' : (Nat → Int32)) (latest' : Int32) (place' : Int32) (x2' : Int32) => M_X7_court_b65 texts textLong n now' isKept' found' anew' latest' place' x2') now isKept found anew latest place x2)
    else
    (if (now ((14 : Int32) + x2).toNatClampNeg) = x2 then
    (M_X7_court_b110 texts textLong (fun (now' : (Nat → Int32)) (isKept' : (Nat → Int32)) (found' : (Nat → Int32)) (anew' : (Nat → Int32)) (latest' : Int32) (place' : Int32) (x2' : Int32) => M_X7_court_b65 texts textLong n now' isKept' found' anew' latest' place' x2') now isKept found anew latest place x2)
    else
    (M_X7_court_b111 texts textLong (fun (now' : (Nat → Int32)) (isKept' : (Nat → Int32)) (found' : (Nat → Int32)) (anew' : (Nat → Int32)) (latest' : Int32) (place' : Int32) (x2' : Int32) => M_X7_court_b65 texts textLong n now' isKept' found' anew' latest' place' x2') now isKept found anew latest place x2 (1 : Int32)))
    else none)
set_option maxHeartbeats 4000000 in
set_option maxRecDepth 100000 in
theorem w_X7_court_b65 {G : x_G} {l : Launch} {a : Nat → Nat} {texts : (Nat → Int32)} {textLong : (Nat → Int32)} {kept : (Nat → Int32)} {rows : (Nat → Int32)} {rowLong : (Nat → Int32)} {taken : (Nat → Int32)} {hand : (Nat → Int32)} {steps : (Nat → Int32)} {shares : (Nat → Int32)} {choices : (Nat → Int32)} {values : (Nat → Int32)} {askedIs : Int32} {above : Int64} {below : Int64} {partedBy : Int32} {res : Int32 × (Nat → Int32) × (Nat → Int32) × (Nat → Int32) × (Nat → Int32) × Int32 × Int32} : ∀ (n : Nat) (now : (Nat → Int32)) (isKept : (Nat → Int32)) (found : (Nat → Int32)) (anew : (Nat → Int32)) (latest : Int32) (place : Int32) (x2 : Int32), M_X7_court_b65 texts textLong n now isKept found anew latest place x2 = some res → X G l RX7 cX7_court 4 (x_R 5 0 0) (x_Cm G (some .int) false (x_is (some (.int res.1)) (WModel G a res.2.1 kept res.2.2.1 rows rowLong texts textLong res.2.2.2.1 taken res.2.2.2.2.1 hand steps shares choices values res.2.2.2.2.2.1 askedIs above below res.2.2.2.2.2.2 partedBy)) 0 0) 0 0 65 [(0, .ref (a 0)), (2, .int x2)] [] (WModel G a now kept isKept rows rowLong texts textLong found taken anew hand steps shares choices values latest askedIs above below place partedBy) := by
  intro n
  induction n with
  | zero =>
    intro _ _ _ _ _ _ _ h
    cases h
  | succ n ih =>
    intro now isKept found anew latest place x2 h
    rw [M_X7_court_b65] at h
    refine x_iload_n dX7_court_65 1 rfl rfl ?_
    refine x_aload_n dX7_court_66 0 rfl rfl ?_
    refine x_get (ci := 5) 0 0 dX7_court_67 fl_X7_7 inX7 rfl (by decide) ⟨rfl, rfl, rfl⟩ rfl rfl ?_
    refine x_iconst 0 dX7_court_70 (by decide) ?_
    refine x_iald 0 (q0 := 1) dX7_court_71 (by decide) rfl (by decide) ?_
    refine x_icmp_ge 145 dX7_court_72 (by decide) (fun c3 => ?_) (fun c3 => ?_)
    · have h := x_pos c3 h
      refine x_aload_n dX7_court_145 0 rfl rfl ?_
      refine x_get (ci := 5) 0 0 dX7_court_146 fl_X7_7 inX7 rfl (by decide) ⟨rfl, rfl, rfl⟩ rfl rfl ?_
      refine x_bipush 35 dX7_court_149 (by decide) ?_
      refine x_iconst 0 dX7_court_151 (by decide) ?_
      refine x_iast 35 (q0 := 1) (WModel G a ((upd now 35 (0 : Int32))) kept isKept rows rowLong texts textLong found taken anew hand steps shares choices values latest askedIs above below place partedBy) dX7_court_152 (by decide) rfl (by decide) rfl ?_
      refine x_aload_n dX7_court_153 0 rfl rfl ?_
      refine x_get (ci := 5) 0 0 dX7_court_154 fl_X7_7 inX7 rfl (by decide) ⟨rfl, rfl, rfl⟩ rfl rfl ?_
      obtain ⟨r4, e5, h⟩ := x_bind h
      refine x_cS (As := [.ref (a 1)]) (wc := (WArr G (fun k => a (1 + k)) 85 (upd now 35 (0 : Int32)))) (w1 := (WArr G (fun k => a (1 + k)) 85 r4)) (pre := ((WModel G a ((upd now 35 (0 : Int32))) kept isKept rows rowLong texts textLong found taken anew hand steps shares choices values latest askedIs above below place partedBy).take 1)) (post := ((WModel G a ((upd now 35 (0 : Int32))) kept isKept rows rowLong texts textLong found taken anew hand steps shares choices values latest askedIs above below place partedBy).drop 2)) (rest := []) (st1 := []) (ws1 := (WModel G a r4 kept isKept rows rowLong texts textLong found taken anew hand steps shares choices values latest askedIs above below place partedBy)) dX7_court_157 (c_X7_begin_85 (aq := (fun k => a (1 + k))) e5) pk_X7_begin ml_X7_126 rfl rfl rfl rfl rfl rfl rfl ?_
      refine x_iconst 0 dX7_court_160 (by decide) ?_
      refine x_istore_n [(2, .int (0 : Int32)), (0, .ref (a 0))] dX7_court_161 rfl (by decide) rfl ?_
      refine x_lv [1, 0] rfl ?_
      exact w_X7_court_b162  _ _ _ _ _ _ _ _ h
    · have h := x_neg c3 h
      refine x_aload_n dX7_court_75 0 rfl rfl ?_
      refine x_get (ci := 5) 0 0 dX7_court_76 fl_X7_7 inX7 rfl (by decide) ⟨rfl, rfl, rfl⟩ rfl rfl ?_
      refine x_bipush 14 dX7_court_79 (by decide) ?_
      refine x_iload_n dX7_court_81 1 rfl rfl ?_
      refine x_iadd dX7_court_82 ?_
      obtain ⟨b6, h⟩ := x_guard h
      refine x_iald ((14 : Int32) + x2).toNatClampNeg (q0 := 1) dX7_court_83 rfl rfl b6 ?_
      refine x_aload_n dX7_court_84 0 rfl rfl ?_
      refine x_get (ci := 5) 0 0 dX7_court_85 fl_X7_7 inX7 rfl (by decide) ⟨rfl, rfl, rfl⟩ rfl rfl ?_
      refine x_iconst 0 dX7_court_88 (by decide) ?_
      refine x_iald 0 (q0 := 1) dX7_court_89 (by decide) rfl (by decide) ?_
      refine x_icmp_ge 110 dX7_court_90 (by decide) (fun c7 => ?_) (fun c7 => ?_)
      · have h := x_pos c7 h
        exact w_X7_court_b110 (fun now' isKept' found' anew' latest' place' x2' h => ih now' isKept' found' anew' latest' place' x2' h) _ _ _ _ _ _ _ h
      · have h := x_neg c7 h
        refine x_aload_n dX7_court_93 0 rfl rfl ?_
        refine x_get (ci := 5) 0 0 dX7_court_94 fl_X7_7 inX7 rfl (by decide) ⟨rfl, rfl, rfl⟩ rfl rfl ?_
        refine x_bipush 14 dX7_court_97 (by decide) ?_
        refine x_iload_n dX7_court_99 1 rfl rfl ?_
        refine x_iadd dX7_court_100 ?_
        refine x_iald ((14 : Int32) + x2).toNatClampNeg (q0 := 1) dX7_court_101 rfl rfl b6 ?_
        refine x_iload_n dX7_court_102 1 rfl rfl ?_
        refine x_icmp_eq 110 dX7_court_103 (by decide) (fun c8 => ?_) (fun c8 => ?_)
        · have h := x_pos c8 h
          exact w_X7_court_b110 (fun now' isKept' found' anew' latest' place' x2' h => ih now' isKept' found' anew' latest' place' x2' h) _ _ _ _ _ _ _ h
        · have h := x_neg c8 h
          refine x_iconst 1 dX7_court_106 (by decide) ?_
          refine x_goto 111 dX7_court_107 (by decide) ?_
          exact w_X7_court_b111 (fun now' isKept' found' anew' latest' place' x2' h => ih now' isKept' found' anew' latest' place' x2' h) _ _ _ _ _ _ _ _ h
def M_X7_court_b39 (texts : (Nat → Int32)) (textLong : (Nat → Int32)) : Nat → (Nat → Int32) → (Nat → Int32) → (Nat → Int32) → (Nat → Int32) → Int32 → Int32 → Int32 → Option (Int32 × (Nat → Int32) × (Nat → Int32) × (Nat → Int32) × (Nat → Int32) × Int32 × Int32)
  | 0, _, _, _, _, _, _, _ => none
  | n + 1, now, isKept, found, anew, latest, place, x2 =>
    if (35 : Int32) ≤ x2 then
    (M_X7_court_b65 texts textLong x_fuel now isKept found anew latest place (0 : Int32))
    else
    (if inb x2 85 then
    M_X7_court_b39 texts textLong n (upd now x2.toNatClampNeg (anew x2.toNatClampNeg)) isKept found anew latest place (x2 + (1 : Int32))
    else none)
set_option maxHeartbeats 4000000 in
set_option maxRecDepth 100000 in
theorem w_X7_court_b39 {G : x_G} {l : Launch} {a : Nat → Nat} {texts : (Nat → Int32)} {textLong : (Nat → Int32)} {kept : (Nat → Int32)} {rows : (Nat → Int32)} {rowLong : (Nat → Int32)} {taken : (Nat → Int32)} {hand : (Nat → Int32)} {steps : (Nat → Int32)} {shares : (Nat → Int32)} {choices : (Nat → Int32)} {values : (Nat → Int32)} {askedIs : Int32} {above : Int64} {below : Int64} {partedBy : Int32} {res : Int32 × (Nat → Int32) × (Nat → Int32) × (Nat → Int32) × (Nat → Int32) × Int32 × Int32} : ∀ (n : Nat) (now : (Nat → Int32)) (isKept : (Nat → Int32)) (found : (Nat → Int32)) (anew : (Nat → Int32)) (latest : Int32) (place : Int32) (x2 : Int32), M_X7_court_b39 texts textLong n now isKept found anew latest place x2 = some res → X G l RX7 cX7_court 4 (x_R 5 0 0) (x_Cm G (some .int) false (x_is (some (.int res.1)) (WModel G a res.2.1 kept res.2.2.1 rows rowLong texts textLong res.2.2.2.1 taken res.2.2.2.2.1 hand steps shares choices values res.2.2.2.2.2.1 askedIs above below res.2.2.2.2.2.2 partedBy)) 0 0) 0 0 39 [(0, .ref (a 0)), (2, .int x2)] [] (WModel G a now kept isKept rows rowLong texts textLong found taken anew hand steps shares choices values latest askedIs above below place partedBy) := by
  intro n
  induction n with
  | zero =>
    intro _ _ _ _ _ _ _ h
    cases h
  | succ n ih =>
    intro now isKept found anew latest place x2 h
    rw [M_X7_court_b39] at h
    refine x_iload_n dX7_court_39 1 rfl rfl ?_
    refine x_bipush 35 dX7_court_40 (by decide) ?_
    refine x_icmp_ge 63 dX7_court_42 (by decide) (fun c1 => ?_) (fun c1 => ?_)
    · have h := x_pos c1 h
      refine x_iconst 0 dX7_court_63 (by decide) ?_
      refine x_istore_n [(2, .int (0 : Int32)), (0, .ref (a 0))] dX7_court_64 rfl (by decide) rfl ?_
      refine x_lv [1, 0] rfl ?_
      exact w_X7_court_b65  _ _ _ _ _ _ _ _ h
    · have h := x_neg c1 h
      refine x_aload_n dX7_court_45 0 rfl rfl ?_
      refine x_get (ci := 5) 0 0 dX7_court_46 fl_X7_7 inX7 rfl (by decide) ⟨rfl, rfl, rfl⟩ rfl rfl ?_
      refine x_iload_n dX7_court_49 1 rfl rfl ?_
      refine x_aload_n dX7_court_50 0 rfl rfl ?_
      refine x_get (ci := 5) 13 0 dX7_court_51 fl_X7_42 inX7 rfl (by decide) ⟨rfl, rfl, rfl⟩ rfl rfl ?_
      refine x_iload_n dX7_court_54 1 rfl rfl ?_
      obtain ⟨b2, h⟩ := x_guard h
      refine x_iald x2.toNatClampNeg (q0 := 10) dX7_court_55 rfl rfl b2 ?_
      refine x_iast x2.toNatClampNeg (q0 := 1) (WModel G a ((upd now x2.toNatClampNeg (anew x2.toNatClampNeg))) kept isKept rows rowLong texts textLong found taken anew hand steps shares choices values latest askedIs above below place partedBy) dX7_court_56 rfl rfl b2 rfl ?_
      refine x_iinc (j := 1) (1 : Int32) [(2, .int (x2 + (1 : Int32))), (0, .ref (a 0))] dX7_court_57 (by decide) rfl (by decide) rfl ?_
      refine x_goto 39 dX7_court_60 (by decide) ?_
      refine x_lv [1, 0] rfl ?_
      exact ih _ _ _ _ _ _ _ h
def M_X7_court (texts : (Nat → Int32)) (textLong : (Nat → Int32)) (now : (Nat → Int32)) (isKept : (Nat → Int32)) (found : (Nat → Int32)) (anew : (Nat → Int32)) (latest : Int32) (place : Int32) (x1 : Int32) : Option (Int32 × (Nat → Int32) × (Nat → Int32) × (Nat → Int32) × (Nat → Int32) × Int32 × Int32) :=
  if (M_X7_isText x1) = 0 then
  (some ((-1 : Int32), now, isKept, found, anew, latest, place))
  else
  (if inb x1 4 then
  if 0 ≤ (textLong x1.toNatClampNeg) then
  ((M_X7_faultOf texts textLong anew place x1).bind fun r17 =>
  if r17.1 = (-9 : Int32) then
  (M_X7_court_b39 texts textLong x_fuel now isKept found r17.2.1 latest r17.2.2 (0 : Int32))
  else
  (some ((-4 : Int32), now, isKept, found, r17.2.1, latest, r17.2.2)))
  else
  ((M_X7_finds found latest (1 : Int32)).bind fun r20 =>
  some (r20.1, now, isKept, r20.2.1, anew, r20.2.2, place))
  else none)
set_option maxHeartbeats 4000000 in
set_option maxRecDepth 100000 in
theorem c_X7_court {G : x_G} {l : Launch} {a : Nat → Nat} {texts : (Nat → Int32)} {textLong : (Nat → Int32)} {kept : (Nat → Int32)} {rows : (Nat → Int32)} {rowLong : (Nat → Int32)} {taken : (Nat → Int32)} {hand : (Nat → Int32)} {steps : (Nat → Int32)} {shares : (Nat → Int32)} {choices : (Nat → Int32)} {values : (Nat → Int32)} {askedIs : Int32} {above : Int64} {below : Int64} {partedBy : Int32} {now : (Nat → Int32)} {isKept : (Nat → Int32)} {found : (Nat → Int32)} {anew : (Nat → Int32)} {latest : Int32} {place : Int32} {x1 : Int32} {res : Int32 × (Nat → Int32) × (Nat → Int32) × (Nat → Int32) × (Nat → Int32) × Int32 × Int32} (h : M_X7_court texts textLong now isKept found anew latest place x1 = some res) : x_M G l yX7_court cX7_court 4 (some .int) (5) 0 0 [.ref (a 0), .int x1] (WModel G a now kept isKept rows rowLong texts textLong found taken anew hand steps shares choices values latest askedIs above below place partedBy) (x_is (some (.int res.1)) (WModel G a res.2.1 kept res.2.2.1 rows rowLong texts textLong res.2.2.2.1 taken res.2.2.2.2.1 hand steps shares choices values res.2.2.2.2.2.1 askedIs above below res.2.2.2.2.2.2 partedBy)) := by
  unfold M_X7_court at h
  refine x_enter (ini := false) (by decide) rfl (by decide) rfl (Nat.le_of_ble_eq_true rfl) ?_
  refine x_iload_n dX7_court_0 1 rfl rfl ?_
  refine x_cS (As := [.int x1]) (wc := ([] : va_W)) (w1 := ([] : va_W)) (pre := []) (post := (WModel G a now kept isKept rows rowLong texts textLong found taken anew hand steps shares choices values latest askedIs above below place partedBy)) (rest := []) (st1 := [.int (M_X7_isText x1)]) (ws1 := (WModel G a now kept isKept rows rowLong texts textLong found taken anew hand steps shares choices values latest askedIs above below place partedBy)) dX7_court_1 (c_X7_isText rfl) pk_X7_isText ml_X7_90 rfl rfl rfl rfl rfl rfl rfl ?_
  refine x_if_ne 9 dX7_court_4 (by decide) (fun c14 => ?_) (fun c14 => ?_)
  · have h := x_neg c14 h
    refine x_aload_n dX7_court_9 0 rfl rfl ?_
    refine x_get (ci := 5) 6 0 dX7_court_10 fl_X7_29 inX7 rfl (by decide) ⟨rfl, rfl, rfl⟩ rfl rfl ?_
    refine x_iload_n dX7_court_13 1 rfl rfl ?_
    obtain ⟨b15, h⟩ := x_guard h
    refine x_iald x1.toNatClampNeg (q0 := 7) dX7_court_14 rfl rfl b15 ?_
    refine x_if_ge 24 dX7_court_15 (by decide) (fun c16 => ?_) (fun c16 => ?_)
    · have h := x_pos c16 h
      refine x_aload_n dX7_court_24 0 rfl rfl ?_
      refine x_iload_n dX7_court_25 1 rfl rfl ?_
      obtain ⟨r17, e18, h⟩ := x_bind h
      refine x_cV (As := [.int x1]) (wc := (WModel G a now kept isKept rows rowLong texts textLong found taken anew hand steps shares choices values latest askedIs above below place partedBy)) (w1 := (WModel G a now kept isKept rows rowLong texts textLong found taken r17.2.1 hand steps shares choices values latest askedIs above below r17.2.2 partedBy)) (pre := []) (post := []) (rest := []) (st1 := [.int r17.1]) (ws1 := (WModel G a now kept isKept rows rowLong texts textLong found taken r17.2.1 hand steps shares choices values latest askedIs above below r17.2.2 partedBy)) (ci := 5) 0 dX7_court_26 (c_X7_faultOf (a := a) e18) pk_X7_faultOf ml_X7_123 (x_full _) rfl rfl rfl rfl rfl rfl rfl rfl (x_full _).symm ?_
      refine x_bipush (-9 : Int32) dX7_court_29 (by decide) ?_
      refine x_icmp_eq 37 dX7_court_31 (by decide) (fun c19 => ?_) (fun c19 => ?_)
      · have h := x_pos c19 h
        refine x_iconst 0 dX7_court_37 (by decide) ?_
        refine x_istore_n [(2, .int (0 : Int32)), (0, .ref (a 0)), (1, .int x1)] dX7_court_38 rfl (by decide) rfl ?_
        refine x_lv [1, 0] rfl ?_
        exact w_X7_court_b39  _ _ _ _ _ _ _ _ h
      · have h := x_neg c19 h
        refine x_bipush (-4 : Int32) dX7_court_34 (by decide) ?_
        cases h
        exact x_ireturn dX7_court_36 rfl (x_is.rf _ _)
    · have h := x_neg c16 h
      refine x_aload_n dX7_court_18 0 rfl rfl ?_
      refine x_iconst 1 dX7_court_19 (by decide) ?_
      obtain ⟨r20, e21, h⟩ := x_bind h
      refine x_cV (As := [.int (1 : Int32)]) (wc := (WModel G a now kept isKept rows rowLong texts textLong found taken anew hand steps shares choices values latest askedIs above below place partedBy)) (w1 := (WModel G a now kept isKept rows rowLong texts textLong r20.2.1 taken anew hand steps shares choices values r20.2.2 askedIs above below place partedBy)) (pre := []) (post := []) (rest := []) (st1 := [.int r20.1]) (ws1 := (WModel G a now kept isKept rows rowLong texts textLong r20.2.1 taken anew hand steps shares choices values r20.2.2 askedIs above below place partedBy)) (ci := 5) 0 dX7_court_20 (c_X7_finds (a := a) e21) pk_X7_finds ml_X7_79 (x_full _) rfl rfl rfl rfl rfl rfl rfl rfl (x_full _).symm ?_
      cases h
      exact x_ireturn dX7_court_23 rfl (x_is.rf _ _)
  · have h := x_pos c14 h
    refine x_iconst (-1 : Int32) dX7_court_7 (by decide) ?_
    cases h
    exact x_ireturn dX7_court_8 rfl (x_is.rf _ _)
theorem pk_X7_isRope : x_pv RX7 yX7_isRope cX7_isRope 2 (some .boolean) 1 := ⟨⟨co_X7_isRope, ni_X7, by decide, by decide +kernel⟩, im_X7_isRope, se_X7_isRope⟩
def M_X7_isRope (now : (Nat → Int32)) (x1 : Int32) : Int32 :=
  (M_X7_in x1.toInt64 (0 : Int64) (((now 0) - (1 : Int32)).toInt64))
theorem M_X7_isRope_b {now : (Nat → Int32)} {x1 : Int32} : narrow .boolean (.int (M_X7_isRope now x1)) = .int (M_X7_isRope now x1) := by
  simp only [M_X7_isRope]
  repeat' split
  all_goals first | rfl | exact M_X7_in_b
set_option maxHeartbeats 4000000 in
set_option maxRecDepth 100000 in
theorem c_X7_isRope {G : x_G} {l : Launch} {a : Nat → Nat} {now : (Nat → Int32)} {kept : (Nat → Int32)} {isKept : (Nat → Int32)} {rows : (Nat → Int32)} {rowLong : (Nat → Int32)} {texts : (Nat → Int32)} {textLong : (Nat → Int32)} {found : (Nat → Int32)} {taken : (Nat → Int32)} {anew : (Nat → Int32)} {hand : (Nat → Int32)} {steps : (Nat → Int32)} {shares : (Nat → Int32)} {choices : (Nat → Int32)} {values : (Nat → Int32)} {latest : Int32} {askedIs : Int32} {above : Int64} {below : Int64} {place : Int32} {partedBy : Int32} {x1 : Int32} {res : Int32} (h : M_X7_isRope now x1 = res) : x_M G l yX7_isRope cX7_isRope 2 (some .boolean) (1) 0 0 [.ref (a 0), .int x1] (WModel G a now kept isKept rows rowLong texts textLong found taken anew hand steps shares choices values latest askedIs above below place partedBy) (x_is (some (.int res)) (WModel G a now kept isKept rows rowLong texts textLong found taken anew hand steps shares choices values latest askedIs above below place partedBy)) := by
  unfold M_X7_isRope at h
  refine x_enter (ini := false) (by decide) rfl (by decide) rfl (Nat.le_of_ble_eq_true rfl) ?_
  refine x_iload_n dX7_isRope_0 1 rfl rfl ?_
  refine x_i2l dX7_isRope_1 ?_
  refine x_lconst 0 dX7_isRope_2 (by decide) ?_
  refine x_aload_n dX7_isRope_3 0 rfl rfl ?_
  refine x_get (ci := 5) 0 0 dX7_isRope_4 fl_X7_7 inX7 rfl (by decide) ⟨rfl, rfl, rfl⟩ rfl rfl ?_
  refine x_iconst 0 dX7_isRope_7 (by decide) ?_
  refine x_iald 0 (q0 := 1) dX7_isRope_8 (by decide) rfl (by decide) ?_
  refine x_iconst 1 dX7_isRope_9 (by decide) ?_
  refine x_isub dX7_isRope_10 ?_
  refine x_i2l dX7_isRope_11 ?_
  refine x_cS (As := [.long x1.toInt64, .long (0 : Int64), .long (((now 0) - (1 : Int32)).toInt64)]) (wc := ([] : va_W)) (w1 := ([] : va_W)) (pre := []) (post := (WModel G a now kept isKept rows rowLong texts textLong found taken anew hand steps shares choices values latest askedIs above below place partedBy)) (rest := []) (st1 := [.int (M_X7_in x1.toInt64 (0 : Int64) (((now 0) - (1 : Int32)).toInt64))]) (ws1 := (WModel G a now kept isKept rows rowLong texts textLong found taken anew hand steps shares choices values latest askedIs above below place partedBy)) dX7_isRope_12 (c_X7_in rfl) pk_X7_in ml_X7_69 rfl rfl rfl rfl rfl rfl rfl ?_
  subst h
  exact x_ireturn dX7_isRope_15 M_X7_in_b (x_is.rf _ _)
theorem pk_X7_holdsOf : x_ps yX7_holdsOf cX7_holdsOf 2 (some .int) 2 := ⟨⟨co_X7_holdsOf, ni_X7, by decide, by decide +kernel⟩, sm_X7_holdsOf⟩
def M_X7_holdsOf_85 (c : (Nat → Int32)) (x1 : Int32) : Option (Int32) :=
  if inb ((2 : Int32) + x1) 85 then
  if (c ((2 : Int32) + x1).toNatClampNeg) = (2 : Int32) then
  (if inb ((8 : Int32) + x1) 85 then
  some ((c ((8 : Int32) + x1).toNatClampNeg) - (1 : Int32))
  else none)
  else
  (if inb ((8 : Int32) + x1) 85 then
  some (c ((8 : Int32) + x1).toNatClampNeg)
  else none)
  else none
set_option maxHeartbeats 4000000 in
set_option maxRecDepth 100000 in
theorem c_X7_holdsOf_85 {G : x_G} {l : Launch} {aq : Nat → Nat} {c : (Nat → Int32)} {x1 : Int32} {res : Int32} (h : M_X7_holdsOf_85 c x1 = some res) : x_M G l yX7_holdsOf cX7_holdsOf 2 (some .int) (0) 0 0 [.ref (aq 0), .int x1] (WArr G aq 85 c) (x_is (some (.int res)) (WArr G aq 85 c)) := by
  unfold M_X7_holdsOf_85 at h
  refine x_enter (ini := false) (by decide) rfl (by decide) rfl (Nat.le_of_ble_eq_true rfl) ?_
  refine x_aload_n dX7_holdsOf_0 0 rfl rfl ?_
  refine x_iconst 2 dX7_holdsOf_1 (by decide) ?_
  refine x_iload_n dX7_holdsOf_2 1 rfl rfl ?_
  refine x_iadd dX7_holdsOf_3 ?_
  obtain ⟨b1, h⟩ := x_guard h
  refine x_iald ((2 : Int32) + x1).toNatClampNeg (q0 := 0) dX7_holdsOf_4 rfl rfl b1 ?_
  refine x_iconst 2 dX7_holdsOf_5 (by decide) ?_
  refine x_icmp_ne 20 dX7_holdsOf_6 (by decide) (fun c2 => ?_) (fun c2 => ?_)
  · have h := x_neg c2 h
    refine x_aload_n dX7_holdsOf_20 0 rfl rfl ?_
    refine x_bipush 8 dX7_holdsOf_21 (by decide) ?_
    refine x_iload_n dX7_holdsOf_23 1 rfl rfl ?_
    refine x_iadd dX7_holdsOf_24 ?_
    obtain ⟨b3, h⟩ := x_guard h
    refine x_iald ((8 : Int32) + x1).toNatClampNeg (q0 := 0) dX7_holdsOf_25 rfl rfl b3 ?_
    cases h
    exact x_ireturn dX7_holdsOf_26 rfl (x_is.rf _ _)
  · have h := x_pos c2 h
    refine x_aload_n dX7_holdsOf_9 0 rfl rfl ?_
    refine x_bipush 8 dX7_holdsOf_10 (by decide) ?_
    refine x_iload_n dX7_holdsOf_12 1 rfl rfl ?_
    refine x_iadd dX7_holdsOf_13 ?_
    obtain ⟨b4, h⟩ := x_guard h
    refine x_iald ((8 : Int32) + x1).toNatClampNeg (q0 := 0) dX7_holdsOf_14 rfl rfl b4 ?_
    refine x_iconst 1 dX7_holdsOf_15 (by decide) ?_
    refine x_isub dX7_holdsOf_16 ?_
    refine x_goto 26 dX7_holdsOf_17 (by decide) ?_
    cases h
    exact x_ireturn dX7_holdsOf_26 rfl (x_is.rf _ _)
theorem pk_X7_has : x_ps yX7_has cX7_has 2 (some .boolean) 2 := ⟨⟨co_X7_has, ni_X7, by decide, by decide +kernel⟩, sm_X7_has⟩
def M_X7_has (x0 : Int32) (x1 : Int32) : Int32 :=
  if ((x0 >>> (x1 &&& (31 : Int32))) &&& (1 : Int32)) = (1 : Int32) then
  ((1 : Int32))
  else
  ((0 : Int32))
theorem M_X7_has_b {x0 : Int32} {x1 : Int32} : narrow .boolean (.int (M_X7_has x0 x1)) = .int (M_X7_has x0 x1) := by
  simp only [M_X7_has]
  repeat' split
  all_goals first | rfl
set_option maxHeartbeats 4000000 in
set_option maxRecDepth 100000 in
theorem c_X7_has {G : x_G} {l : Launch} {x0 : Int32} {x1 : Int32} {res : Int32} (h : M_X7_has x0 x1 = res) : x_M G l yX7_has cX7_has 2 (some .boolean) (0) 0 0 [.int x0, .int x1] ([] : va_W) (x_is (some (.int res)) ([] : va_W)) := by
  unfold M_X7_has at h
  refine x_enter (ini := false) (by decide) rfl (by decide) rfl (Nat.le_of_ble_eq_true rfl) ?_
  refine x_iload_n dX7_has_0 0 rfl rfl ?_
  refine x_iload_n dX7_has_1 1 rfl rfl ?_
  refine x_ishr dX7_has_2 ?_
  refine x_iconst 1 dX7_has_3 (by decide) ?_
  refine x_iand dX7_has_4 ?_
  refine x_iconst 1 dX7_has_5 (by decide) ?_
  refine x_icmp_ne 13 dX7_has_6 (by decide) (fun c1 => ?_) (fun c1 => ?_)
  · have h := x_neg c1 h
    refine x_iconst 0 dX7_has_13 (by decide) ?_
    subst h
    exact x_ireturn dX7_has_14 rfl (x_is.rf _ _)
  · have h := x_pos c1 h
    refine x_iconst 1 dX7_has_9 (by decide) ?_
    refine x_goto 14 dX7_has_10 (by decide) ?_
    subst h
    exact x_ireturn dX7_has_14 rfl (x_is.rf _ _)
theorem pk_X7_toldOf : x_pv RX7 yX7_toldOf cX7_toldOf 3 (some .int) 2 := ⟨⟨co_X7_toldOf, ni_X7, by decide, by decide +kernel⟩, im_X7_toldOf, se_X7_toldOf⟩
def M_X7_toldOf (now : (Nat → Int32)) (x1 : Int32) (x2 : Int32) : Option (Int32) :=
  if x2 = (0 : Int32) then
  (if inb ((2 : Int32) + x1) 85 then
  some (now ((2 : Int32) + x1).toNatClampNeg)
  else none)
  else
  (if x2 = (1 : Int32) then
  ((M_X7_holdsOf_85 now x1).bind fun r4 =>
  some (r4))
  else
  (if x2 = (2 : Int32) then
  (if inb ((14 : Int32) + x1) 85 then
  some (now ((14 : Int32) + x1).toNatClampNeg)
  else none)
  else
  (if x2 = (3 : Int32) then
  (if inb ((76 : Int32) + x1) 85 then
  some (now ((76 : Int32) + x1).toNatClampNeg)
  else none)
  else
  (if x2 = (4 : Int32) then
  (if (M_X7_has (now 82) x1) = 0 then
  (some (1 : Int32))
  else
  (some (0 : Int32)))
  else
  (if (M_X7_has (now 83) x1) = 0 then
  (some (0 : Int32))
  else
  (some (1 : Int32)))))))
set_option maxHeartbeats 4000000 in
set_option maxRecDepth 100000 in
theorem c_X7_toldOf {G : x_G} {l : Launch} {a : Nat → Nat} {now : (Nat → Int32)} {kept : (Nat → Int32)} {isKept : (Nat → Int32)} {rows : (Nat → Int32)} {rowLong : (Nat → Int32)} {texts : (Nat → Int32)} {textLong : (Nat → Int32)} {found : (Nat → Int32)} {taken : (Nat → Int32)} {anew : (Nat → Int32)} {hand : (Nat → Int32)} {steps : (Nat → Int32)} {shares : (Nat → Int32)} {choices : (Nat → Int32)} {values : (Nat → Int32)} {latest : Int32} {askedIs : Int32} {above : Int64} {below : Int64} {place : Int32} {partedBy : Int32} {x1 : Int32} {x2 : Int32} {res : Int32} (h : M_X7_toldOf now x1 x2 = some res) : x_M G l yX7_toldOf cX7_toldOf 3 (some .int) (1) 0 0 [.ref (a 0), .int x1, .int x2] (WModel G a now kept isKept rows rowLong texts textLong found taken anew hand steps shares choices values latest askedIs above below place partedBy) (x_is (some (.int res)) (WModel G a now kept isKept rows rowLong texts textLong found taken anew hand steps shares choices values latest askedIs above below place partedBy)) := by
  unfold M_X7_toldOf at h
  refine x_enter (ini := false) (by decide) rfl (by decide) rfl (Nat.le_of_ble_eq_true rfl) ?_
  refine x_iload_n dX7_toldOf_0 2 rfl rfl ?_
  by_cases c1 : x2 = (0 : Int32)
  · have h := x_pos c1 h
    refine x_tswEq (off := 35) (0 : Int32) 36 c1 dX7_toldOf_1 (by decide) (by decide) (by decide) (by decide) ?_
    refine x_aload_n dX7_toldOf_36 0 rfl rfl ?_
    refine x_get (ci := 5) 0 0 dX7_toldOf_37 fl_X7_7 inX7 rfl (by decide) ⟨rfl, rfl, rfl⟩ rfl rfl ?_
    refine x_iconst 2 dX7_toldOf_40 (by decide) ?_
    refine x_iload_n dX7_toldOf_41 1 rfl rfl ?_
    refine x_iadd dX7_toldOf_42 ?_
    obtain ⟨b2, h⟩ := x_guard h
    refine x_iald ((2 : Int32) + x1).toNatClampNeg (q0 := 1) dX7_toldOf_43 rfl rfl b2 ?_
    cases h
    exact x_ireturn dX7_toldOf_44 rfl (x_is.rf _ _)
  · have h := x_neg c1 h
    by_cases c3 : x2 = (1 : Int32)
    · have h := x_pos c3 h
      refine x_tswEq (off := 44) (1 : Int32) 45 c3 dX7_toldOf_1 (by decide) (by decide) (by decide) (by decide) ?_
      refine x_aload_n dX7_toldOf_45 0 rfl rfl ?_
      refine x_get (ci := 5) 0 0 dX7_toldOf_46 fl_X7_7 inX7 rfl (by decide) ⟨rfl, rfl, rfl⟩ rfl rfl ?_
      refine x_iload_n dX7_toldOf_49 1 rfl rfl ?_
      obtain ⟨r4, e5, h⟩ := x_bind h
      refine x_cS (As := [.ref (a 1), .int x1]) (wc := (WArr G (fun k => a (1 + k)) 85 now)) (w1 := (WArr G (fun k => a (1 + k)) 85 now)) (pre := ((WModel G a now kept isKept rows rowLong texts textLong found taken anew hand steps shares choices values latest askedIs above below place partedBy).take 1)) (post := ((WModel G a now kept isKept rows rowLong texts textLong found taken anew hand steps shares choices values latest askedIs above below place partedBy).drop 2)) (rest := []) (st1 := [.int r4]) (ws1 := (WModel G a now kept isKept rows rowLong texts textLong found taken anew hand steps shares choices values latest askedIs above below place partedBy)) dX7_toldOf_50 (c_X7_holdsOf_85 (aq := (fun k => a (1 + k))) e5) pk_X7_holdsOf ml_X7_136 rfl rfl rfl rfl rfl rfl rfl ?_
      cases h
      exact x_ireturn dX7_toldOf_53 rfl (x_is.rf _ _)
    · have h := x_neg c3 h
      by_cases c6 : x2 = (2 : Int32)
      · have h := x_pos c6 h
        refine x_tswEq (off := 53) (2 : Int32) 54 c6 dX7_toldOf_1 (by decide) (by decide) (by decide) (by decide) ?_
        refine x_aload_n dX7_toldOf_54 0 rfl rfl ?_
        refine x_get (ci := 5) 0 0 dX7_toldOf_55 fl_X7_7 inX7 rfl (by decide) ⟨rfl, rfl, rfl⟩ rfl rfl ?_
        refine x_bipush 14 dX7_toldOf_58 (by decide) ?_
        refine x_iload_n dX7_toldOf_60 1 rfl rfl ?_
        refine x_iadd dX7_toldOf_61 ?_
        obtain ⟨b7, h⟩ := x_guard h
        refine x_iald ((14 : Int32) + x1).toNatClampNeg (q0 := 1) dX7_toldOf_62 rfl rfl b7 ?_
        cases h
        exact x_ireturn dX7_toldOf_63 rfl (x_is.rf _ _)
      · have h := x_neg c6 h
        by_cases c8 : x2 = (3 : Int32)
        · have h := x_pos c8 h
          refine x_tswEq (off := 63) (3 : Int32) 64 c8 dX7_toldOf_1 (by decide) (by decide) (by decide) (by decide) ?_
          refine x_aload_n dX7_toldOf_64 0 rfl rfl ?_
          refine x_get (ci := 5) 0 0 dX7_toldOf_65 fl_X7_7 inX7 rfl (by decide) ⟨rfl, rfl, rfl⟩ rfl rfl ?_
          refine x_bipush 76 dX7_toldOf_68 (by decide) ?_
          refine x_iload_n dX7_toldOf_70 1 rfl rfl ?_
          refine x_iadd dX7_toldOf_71 ?_
          obtain ⟨b9, h⟩ := x_guard h
          refine x_iald ((76 : Int32) + x1).toNatClampNeg (q0 := 1) dX7_toldOf_72 rfl rfl b9 ?_
          cases h
          exact x_ireturn dX7_toldOf_73 rfl (x_is.rf _ _)
        · have h := x_neg c8 h
          by_cases c10 : x2 = (4 : Int32)
          · have h := x_pos c10 h
            refine x_tswEq (off := 73) (4 : Int32) 74 c10 dX7_toldOf_1 (by decide) (by decide) (by decide) (by decide) ?_
            refine x_aload_n dX7_toldOf_74 0 rfl rfl ?_
            refine x_get (ci := 5) 0 0 dX7_toldOf_75 fl_X7_7 inX7 rfl (by decide) ⟨rfl, rfl, rfl⟩ rfl rfl ?_
            refine x_bipush 82 dX7_toldOf_78 (by decide) ?_
            refine x_iald 82 (q0 := 1) dX7_toldOf_80 (by decide) rfl (by decide) ?_
            refine x_iload_n dX7_toldOf_81 1 rfl rfl ?_
            refine x_cS (As := [.int (now 82), .int x1]) (wc := ([] : va_W)) (w1 := ([] : va_W)) (pre := []) (post := (WModel G a now kept isKept rows rowLong texts textLong found taken anew hand steps shares choices values latest askedIs above below place partedBy)) (rest := []) (st1 := [.int (M_X7_has (now 82) x1)]) (ws1 := (WModel G a now kept isKept rows rowLong texts textLong found taken anew hand steps shares choices values latest askedIs above below place partedBy)) dX7_toldOf_82 (c_X7_has rfl) pk_X7_has ml_X7_130 rfl rfl rfl rfl rfl rfl rfl ?_
            refine x_if_eq 92 dX7_toldOf_85 (by decide) (fun c11 => ?_) (fun c11 => ?_)
            · have h := x_pos c11 h
              refine x_iconst 1 dX7_toldOf_92 (by decide) ?_
              cases h
              exact x_ireturn dX7_toldOf_93 rfl (x_is.rf _ _)
            · have h := x_neg c11 h
              refine x_iconst 0 dX7_toldOf_88 (by decide) ?_
              refine x_goto 93 dX7_toldOf_89 (by decide) ?_
              cases h
              exact x_ireturn dX7_toldOf_93 rfl (x_is.rf _ _)
          · have h := x_neg c10 h
            refine x_tswOut 94 dX7_toldOf_1 (by have q0 := lv_neT c1 (a := 0) (by decide); have q1 := lv_neT c3 (a := 1) (by decide); have q2 := lv_neT c6 (a := 2) (by decide); have q3 := lv_neT c8 (a := 3) (by decide); have q4 := lv_neT c10 (a := 4) (by decide); omega) (by decide) ?_
            refine x_aload_n dX7_toldOf_94 0 rfl rfl ?_
            refine x_get (ci := 5) 0 0 dX7_toldOf_95 fl_X7_7 inX7 rfl (by decide) ⟨rfl, rfl, rfl⟩ rfl rfl ?_
            refine x_bipush 83 dX7_toldOf_98 (by decide) ?_
            refine x_iald 83 (q0 := 1) dX7_toldOf_100 (by decide) rfl (by decide) ?_
            refine x_iload_n dX7_toldOf_101 1 rfl rfl ?_
            refine x_cS (As := [.int (now 83), .int x1]) (wc := ([] : va_W)) (w1 := ([] : va_W)) (pre := []) (post := (WModel G a now kept isKept rows rowLong texts textLong found taken anew hand steps shares choices values latest askedIs above below place partedBy)) (rest := []) (st1 := [.int (M_X7_has (now 83) x1)]) (ws1 := (WModel G a now kept isKept rows rowLong texts textLong found taken anew hand steps shares choices values latest askedIs above below place partedBy)) dX7_toldOf_102 (c_X7_has rfl) pk_X7_has ml_X7_130 rfl rfl rfl rfl rfl rfl rfl ?_
            refine x_if_eq 112 dX7_toldOf_105 (by decide) (fun c12 => ?_) (fun c12 => ?_)
            · have h := x_pos c12 h
              refine x_iconst 0 dX7_toldOf_112 (by decide) ?_
              cases h
              exact x_ireturn dX7_toldOf_113 rfl (x_is.rf _ _)
            · have h := x_neg c12 h
              refine x_iconst 1 dX7_toldOf_108 (by decide) ?_
              refine x_goto 113 dX7_toldOf_109 (by decide) ?_
              cases h
              exact x_ireturn dX7_toldOf_113 rfl (x_is.rf _ _)
theorem pk_X7_rope : x_pv RX7 yX7_rope cX7_rope 3 (some .int) 2 := ⟨⟨co_X7_rope, ni_X7, by decide, by decide +kernel⟩, im_X7_rope, se_X7_rope⟩
def M_X7_rope (now : (Nat → Int32)) (askedIs : Int32) (x1 : Int32) (x2 : Int32) : Option (Int32 × Int32) :=
  if (M_X7_isRope now x1) = 0 then
  (some ((-1 : Int32), askedIs))
  else
  (if (M_X7_in x2.toInt64 (0 : Int64) (5 : Int64)) = 0 then
  (some ((-1 : Int32), askedIs))
  else
  ((M_X7_toldOf now x1 x2).bind fun r3 =>
  some ((M_X7_asks askedIs r3).1, (M_X7_asks askedIs r3).2)))
set_option maxHeartbeats 4000000 in
set_option maxRecDepth 100000 in
theorem c_X7_rope {G : x_G} {l : Launch} {a : Nat → Nat} {now : (Nat → Int32)} {kept : (Nat → Int32)} {isKept : (Nat → Int32)} {rows : (Nat → Int32)} {rowLong : (Nat → Int32)} {texts : (Nat → Int32)} {textLong : (Nat → Int32)} {found : (Nat → Int32)} {taken : (Nat → Int32)} {anew : (Nat → Int32)} {hand : (Nat → Int32)} {steps : (Nat → Int32)} {shares : (Nat → Int32)} {choices : (Nat → Int32)} {values : (Nat → Int32)} {latest : Int32} {above : Int64} {below : Int64} {place : Int32} {partedBy : Int32} {askedIs : Int32} {x1 : Int32} {x2 : Int32} {res : Int32 × Int32} (h : M_X7_rope now askedIs x1 x2 = some res) : x_M G l yX7_rope cX7_rope 3 (some .int) (2) 0 0 [.ref (a 0), .int x1, .int x2] (WModel G a now kept isKept rows rowLong texts textLong found taken anew hand steps shares choices values latest askedIs above below place partedBy) (x_is (some (.int res.1)) (WModel G a now kept isKept rows rowLong texts textLong found taken anew hand steps shares choices values latest res.2 above below place partedBy)) := by
  unfold M_X7_rope at h
  refine x_enter (ini := false) (by decide) rfl (by decide) rfl (Nat.le_of_ble_eq_true rfl) ?_
  refine x_aload_n dX7_rope_0 0 rfl rfl ?_
  refine x_iload_n dX7_rope_1 1 rfl rfl ?_
  refine x_cV (As := [.int x1]) (wc := (WModel G a now kept isKept rows rowLong texts textLong found taken anew hand steps shares choices values latest askedIs above below place partedBy)) (w1 := (WModel G a now kept isKept rows rowLong texts textLong found taken anew hand steps shares choices values latest askedIs above below place partedBy)) (pre := []) (post := []) (rest := []) (st1 := [.int (M_X7_isRope now x1)]) (ws1 := (WModel G a now kept isKept rows rowLong texts textLong found taken anew hand steps shares choices values latest askedIs above below place partedBy)) (ci := 5) 0 dX7_rope_2 (c_X7_isRope (a := a) rfl) pk_X7_isRope ml_X7_155 (x_full _) rfl rfl rfl rfl rfl rfl rfl rfl (x_full _).symm ?_
  refine x_if_eq 33 dX7_rope_5 (by decide) (fun c1 => ?_) (fun c1 => ?_)
  · have h := x_pos c1 h
    refine x_iconst (-1 : Int32) dX7_rope_33 (by decide) ?_
    cases h
    exact x_ireturn dX7_rope_34 rfl (x_is.rf _ _)
  · have h := x_neg c1 h
    refine x_iload_n dX7_rope_8 2 rfl rfl ?_
    refine x_i2l dX7_rope_9 ?_
    refine x_lconst 0 dX7_rope_10 (by decide) ?_
    refine x_ldc2 dX7_rope_11 kl_X7_67 ?_
    refine x_cS (As := [.long x2.toInt64, .long (0 : Int64), .long (5 : Int64)]) (wc := ([] : va_W)) (w1 := ([] : va_W)) (pre := []) (post := (WModel G a now kept isKept rows rowLong texts textLong found taken anew hand steps shares choices values latest askedIs above below place partedBy)) (rest := []) (st1 := [.int (M_X7_in x2.toInt64 (0 : Int64) (5 : Int64))]) (ws1 := (WModel G a now kept isKept rows rowLong texts textLong found taken anew hand steps shares choices values latest askedIs above below place partedBy)) dX7_rope_14 (c_X7_in rfl) pk_X7_in ml_X7_69 rfl rfl rfl rfl rfl rfl rfl ?_
    refine x_if_eq 33 dX7_rope_17 (by decide) (fun c2 => ?_) (fun c2 => ?_)
    · have h := x_pos c2 h
      refine x_iconst (-1 : Int32) dX7_rope_33 (by decide) ?_
      cases h
      exact x_ireturn dX7_rope_34 rfl (x_is.rf _ _)
    · have h := x_neg c2 h
      refine x_aload_n dX7_rope_20 0 rfl rfl ?_
      refine x_aload_n dX7_rope_21 0 rfl rfl ?_
      refine x_iload_n dX7_rope_22 1 rfl rfl ?_
      refine x_iload_n dX7_rope_23 2 rfl rfl ?_
      obtain ⟨r3, e4, h⟩ := x_bind h
      refine x_cV (As := [.int x1, .int x2]) (wc := (WModel G a now kept isKept rows rowLong texts textLong found taken anew hand steps shares choices values latest askedIs above below place partedBy)) (w1 := (WModel G a now kept isKept rows rowLong texts textLong found taken anew hand steps shares choices values latest askedIs above below place partedBy)) (pre := []) (post := []) (rest := [.ref (a 0)]) (st1 := [.int r3, .ref (a 0)]) (ws1 := (WModel G a now kept isKept rows rowLong texts textLong found taken anew hand steps shares choices values latest askedIs above below place partedBy)) (ci := 5) 0 dX7_rope_24 (c_X7_toldOf (a := a) e4) pk_X7_toldOf ml_X7_158 (x_full _) rfl rfl rfl rfl rfl rfl rfl rfl (x_full _).symm ?_
      refine x_cV (As := [.int r3]) (wc := (WModel G a now kept isKept rows rowLong texts textLong found taken anew hand steps shares choices values latest askedIs above below place partedBy)) (w1 := (WModel G a now kept isKept rows rowLong texts textLong found taken anew hand steps shares choices values latest ((M_X7_asks askedIs r3).2) above below place partedBy)) (pre := []) (post := []) (rest := []) (st1 := [.int ((M_X7_asks askedIs r3).1)]) (ws1 := (WModel G a now kept isKept rows rowLong texts textLong found taken anew hand steps shares choices values latest ((M_X7_asks askedIs r3).2) above below place partedBy)) (ci := 5) 0 dX7_rope_27 (c_X7_asks (a := a) rfl) pk_X7_asks ml_X7_87 (x_full _) rfl rfl rfl rfl rfl rfl rfl rfl (x_full _).symm ?_
      refine x_goto 34 dX7_rope_30 (by decide) ?_
      cases h
      exact x_ireturn dX7_rope_34 rfl (x_is.rf _ _)
theorem pk_X7_isOf : x_ps yX7_isOf cX7_isOf 2 (some .boolean) 2 := ⟨⟨co_X7_isOf, ni_X7, by decide, by decide +kernel⟩, sm_X7_isOf⟩
def M_X7_isOf_b15 (x0 : Int32) (x1 : Int32) : Int32 :=
  if x1 = (3 : Int32) then
  (if x0 = (5 : Int32) then
  ((1 : Int32))
  else
  ((0 : Int32)))
  else
  ((0 : Int32))
set_option maxHeartbeats 4000000 in
set_option maxRecDepth 100000 in
theorem w_X7_isOf_b15 {G : x_G} {l : Launch} {res : Int32} (x0 : Int32) (x1 : Int32) (h : M_X7_isOf_b15 x0 x1 = res) : X G l RX7 cX7_isOf 2 (x_R 0 0 0) (x_Cm G (some .boolean) false (x_is (some (.int res)) ([] : va_W)) 0 0) 0 0 15 [(0, .int x0), (1, .int x1)] [] ([] : va_W) := by
  unfold M_X7_isOf_b15 at h
  refine x_iload_n dX7_isOf_15 1 rfl rfl ?_
  refine x_iconst 3 dX7_isOf_16 (by decide) ?_
  refine x_icmp_ne 29 dX7_isOf_17 (by decide) (fun c1 => ?_) (fun c1 => ?_)
  · have h := x_neg c1 h
    refine x_iconst 0 dX7_isOf_29 (by decide) ?_
    subst h
    exact x_ireturn dX7_isOf_30 rfl (x_is.rf _ _)
  · have h := x_pos c1 h
    refine x_iload_n dX7_isOf_20 0 rfl rfl ?_
    refine x_iconst 5 dX7_isOf_21 (by decide) ?_
    refine x_icmp_ne 29 dX7_isOf_22 (by decide) (fun c2 => ?_) (fun c2 => ?_)
    · have h := x_neg c2 h
      refine x_iconst 0 dX7_isOf_29 (by decide) ?_
      subst h
      exact x_ireturn dX7_isOf_30 rfl (x_is.rf _ _)
    · have h := x_pos c2 h
      refine x_iconst 1 dX7_isOf_25 (by decide) ?_
      refine x_goto 30 dX7_isOf_26 (by decide) ?_
      subst h
      exact x_ireturn dX7_isOf_30 rfl (x_is.rf _ _)
def M_X7_isOf (x0 : Int32) (x1 : Int32) : Int32 :=
  if x0 = x1 then
  ((1 : Int32))
  else
  (if x1 = (1 : Int32) then
  (if x0 = (4 : Int32) then
  ((1 : Int32))
  else
  (M_X7_isOf_b15 x0 x1))
  else
  (M_X7_isOf_b15 x0 x1))
theorem M_X7_isOf_b {x0 : Int32} {x1 : Int32} : narrow .boolean (.int (M_X7_isOf x0 x1)) = .int (M_X7_isOf x0 x1) := by
  simp only [M_X7_isOf, M_X7_isOf_b15]
  repeat' split
  all_goals first | rfl
set_option maxHeartbeats 4000000 in
set_option maxRecDepth 100000 in
theorem c_X7_isOf {G : x_G} {l : Launch} {x0 : Int32} {x1 : Int32} {res : Int32} (h : M_X7_isOf x0 x1 = res) : x_M G l yX7_isOf cX7_isOf 2 (some .boolean) (0) 0 0 [.int x0, .int x1] ([] : va_W) (x_is (some (.int res)) ([] : va_W)) := by
  unfold M_X7_isOf at h
  refine x_enter (ini := false) (by decide) rfl (by decide) rfl (Nat.le_of_ble_eq_true rfl) ?_
  refine x_iload_n dX7_isOf_0 0 rfl rfl ?_
  refine x_iload_n dX7_isOf_1 1 rfl rfl ?_
  refine x_icmp_eq 25 dX7_isOf_2 (by decide) (fun c3 => ?_) (fun c3 => ?_)
  · have h := x_pos c3 h
    refine x_iconst 1 dX7_isOf_25 (by decide) ?_
    refine x_goto 30 dX7_isOf_26 (by decide) ?_
    subst h
    exact x_ireturn dX7_isOf_30 rfl (x_is.rf _ _)
  · have h := x_neg c3 h
    refine x_iload_n dX7_isOf_5 1 rfl rfl ?_
    refine x_iconst 1 dX7_isOf_6 (by decide) ?_
    refine x_icmp_ne 15 dX7_isOf_7 (by decide) (fun c4 => ?_) (fun c4 => ?_)
    · have h := x_neg c4 h
      exact w_X7_isOf_b15  _ _ h
    · have h := x_pos c4 h
      refine x_iload_n dX7_isOf_10 0 rfl rfl ?_
      refine x_iconst 4 dX7_isOf_11 (by decide) ?_
      refine x_icmp_eq 25 dX7_isOf_12 (by decide) (fun c5 => ?_) (fun c5 => ?_)
      · have h := x_pos c5 h
        refine x_iconst 1 dX7_isOf_25 (by decide) ?_
        refine x_goto 30 dX7_isOf_26 (by decide) ?_
        subst h
        exact x_ireturn dX7_isOf_30 rfl (x_is.rf _ _)
      · have h := x_neg c5 h
        exact w_X7_isOf_b15  _ _ h
theorem pk_X7_othersThatMove : x_pv RX7 yX7_othersThatMove cX7_othersThatMove 5 (some .int) 2 := ⟨⟨co_X7_othersThatMove, ni_X7, by decide, by decide +kernel⟩, im_X7_othersThatMove, se_X7_othersThatMove⟩
def M_X7_othersThatMove_b48 (now : (Nat → Int32)) (k5 : Int32 → Int32 → Int32 → Int32 → Option (Int32)) (x1 : Int32) (x2 : Int32) (x4 : Int32) (s0 : Int32) (s1 : Int32) : Option (Int32) :=
  k5 x1 x2 (s0 + s1) (x4 + (1 : Int32))
set_option maxHeartbeats 4000000 in
set_option maxRecDepth 100000 in
theorem w_X7_othersThatMove_b48 {G : x_G} {l : Launch} {a : Nat → Nat} {now : (Nat → Int32)} {kept : (Nat → Int32)} {isKept : (Nat → Int32)} {rows : (Nat → Int32)} {rowLong : (Nat → Int32)} {texts : (Nat → Int32)} {textLong : (Nat → Int32)} {found : (Nat → Int32)} {taken : (Nat → Int32)} {anew : (Nat → Int32)} {hand : (Nat → Int32)} {steps : (Nat → Int32)} {shares : (Nat → Int32)} {choices : (Nat → Int32)} {values : (Nat → Int32)} {latest : Int32} {askedIs : Int32} {above : Int64} {below : Int64} {place : Int32} {partedBy : Int32} {k5 : Int32 → Int32 → Int32 → Int32 → Option (Int32)} {res : Int32} (hk5 : ∀ (x1 : Int32) (x2 : Int32) (x3 : Int32) (x4 : Int32), k5 x1 x2 x3 x4 = some res → X G l RX7 cX7_othersThatMove 5 (x_R 0 0 0) (x_Cm G (some .int) false (x_is (some (.int res)) (WModel G a now kept isKept rows rowLong texts textLong found taken anew hand steps shares choices values latest askedIs above below place partedBy)) 0 0) 0 0 5 [(0, .ref (a 0)), (1, .int x1), (2, .int x2), (3, .int x3), (4, .int x4)] [] (WModel G a now kept isKept rows rowLong texts textLong found taken anew hand steps shares choices values latest askedIs above below place partedBy)) (x1 : Int32) (x2 : Int32) (x4 : Int32) (s0 : Int32) (s1 : Int32) (h : M_X7_othersThatMove_b48 now k5 x1 x2 x4 s0 s1 = some res) : X G l RX7 cX7_othersThatMove 5 (x_R 0 0 0) (x_Cm G (some .int) false (x_is (some (.int res)) (WModel G a now kept isKept rows rowLong texts textLong found taken anew hand steps shares choices values latest askedIs above below place partedBy)) 0 0) 0 0 48 [(0, .ref (a 0)), (1, .int x1), (2, .int x2), (4, .int x4)] [.int s1, .int s0] (WModel G a now kept isKept rows rowLong texts textLong found taken anew hand steps shares choices values latest askedIs above below place partedBy) := by
  unfold M_X7_othersThatMove_b48 at h
  refine x_iadd dX7_othersThatMove_48 ?_
  refine x_istore_n [(3, .int (s0 + s1)), (0, .ref (a 0)), (1, .int x1), (2, .int x2), (4, .int x4)] dX7_othersThatMove_49 rfl (by decide) rfl ?_
  refine x_iinc (j := 4) (1 : Int32) [(4, .int (x4 + (1 : Int32))), (3, .int (s0 + s1)), (0, .ref (a 0)), (1, .int x1), (2, .int x2)] dX7_othersThatMove_50 (by decide) rfl (by decide) rfl ?_
  refine x_goto 5 dX7_othersThatMove_53 (by decide) ?_
  refine x_lv [2, 3, 4, 1, 0] rfl ?_
  exact hk5 _ _ _ _ h
def M_X7_othersThatMove_b47 (now : (Nat → Int32)) (k5 : Int32 → Int32 → Int32 → Int32 → Option (Int32)) (x1 : Int32) (x2 : Int32) (x4 : Int32) (s0 : Int32) : Option (Int32) :=
  M_X7_othersThatMove_b48 now k5 x1 x2 x4 s0 (0 : Int32)
set_option maxHeartbeats 4000000 in
set_option maxRecDepth 100000 in
theorem w_X7_othersThatMove_b47 {G : x_G} {l : Launch} {a : Nat → Nat} {now : (Nat → Int32)} {kept : (Nat → Int32)} {isKept : (Nat → Int32)} {rows : (Nat → Int32)} {rowLong : (Nat → Int32)} {texts : (Nat → Int32)} {textLong : (Nat → Int32)} {found : (Nat → Int32)} {taken : (Nat → Int32)} {anew : (Nat → Int32)} {hand : (Nat → Int32)} {steps : (Nat → Int32)} {shares : (Nat → Int32)} {choices : (Nat → Int32)} {values : (Nat → Int32)} {latest : Int32} {askedIs : Int32} {above : Int64} {below : Int64} {place : Int32} {partedBy : Int32} {k5 : Int32 → Int32 → Int32 → Int32 → Option (Int32)} {res : Int32} (hk5 : ∀ (x1 : Int32) (x2 : Int32) (x3 : Int32) (x4 : Int32), k5 x1 x2 x3 x4 = some res → X G l RX7 cX7_othersThatMove 5 (x_R 0 0 0) (x_Cm G (some .int) false (x_is (some (.int res)) (WModel G a now kept isKept rows rowLong texts textLong found taken anew hand steps shares choices values latest askedIs above below place partedBy)) 0 0) 0 0 5 [(0, .ref (a 0)), (1, .int x1), (2, .int x2), (3, .int x3), (4, .int x4)] [] (WModel G a now kept isKept rows rowLong texts textLong found taken anew hand steps shares choices values latest askedIs above below place partedBy)) (x1 : Int32) (x2 : Int32) (x4 : Int32) (s0 : Int32) (h : M_X7_othersThatMove_b47 now k5 x1 x2 x4 s0 = some res) : X G l RX7 cX7_othersThatMove 5 (x_R 0 0 0) (x_Cm G (some .int) false (x_is (some (.int res)) (WModel G a now kept isKept rows rowLong texts textLong found taken anew hand steps shares choices values latest askedIs above below place partedBy)) 0 0) 0 0 47 [(0, .ref (a 0)), (1, .int x1), (2, .int x2), (4, .int x4)] [.int s0] (WModel G a now kept isKept rows rowLong texts textLong found taken anew hand steps shares choices values latest askedIs above below place partedBy) := by
  unfold M_X7_othersThatMove_b47 at h
  refine x_iconst 0 dX7_othersThatMove_47 (by decide) ?_
  exact w_X7_othersThatMove_b48 hk5 _ _ _ _ _ h
def M_X7_othersThatMove_b5 (now : (Nat → Int32)) : Nat → Int32 → Int32 → Int32 → Int32 → Option (Int32)
  | 0, _, _, _, _ => none
  | n + 1, x1, x2, x3, x4 =>
    if (now 0) ≤ x4 then
    (some (x3))
    else
    (if x4 = x1 then
    (M_X7_othersThatMove_b47 now (fun (x1' : Int32) (x2' : Int32) (x3' : Int32) (x4' : Int32) => M_X7_othersThatMove_b5 now n x1' x2' x3' x4') x1 x2 x4 x3)
    else
    (if x2 = (-9 : Int32) then
    (M_X7_othersThatMove_b47 now (fun (x1' : Int32) (x2' : Int32) (x3' : Int32) (x4' : Int32) => M_X7_othersThatMove_b5 now n x1' x2' x3' x4') x1 x2 x4 x3)
    else
    (if inb ((14 : Int32) + x4) 85 then
    if (now ((14 : Int32) + x4).toNatClampNeg) = x2 then
    (M_X7_othersThatMove_b48 now (fun (x1' : Int32) (x2' : Int32) (x3' : Int32) (x4' : Int32) => M_X7_othersThatMove_b5 now n x1' x2' x3' x4') x1 x2 x4 x3 (1 : Int32))
    else
    (M_X7_othersThatMove_b47 now (fun (x1' : Int32) (x2' : Int32) (x3' : Int32) (x4' : Int32) => M_X7_othersThatMove_b5 now n x1' x2' x3' x4') x1 x2 x4 x3)
    else none)))
set_option maxHeartbeats 4000000 in
set_option maxRecDepth 100000 in
theorem w_X7_othersThatMove_b5 {G : x_G} {l : Launch} {a : Nat → Nat} {now : (Nat → Int32)} {kept : (Nat → Int32)} {isKept : (Nat → Int32)} {rows : (Nat → Int32)} {rowLong : (Nat → Int32)} {texts : (Nat → Int32)} {textLong : (Nat → Int32)} {found : (Nat → Int32)} {taken : (Nat → Int32)} {anew : (Nat → Int32)} {hand : (Nat → Int32)} {steps : (Nat → Int32)} {shares : (Nat → Int32)} {choices : (Nat → Int32)} {values : (Nat → Int32)} {latest : Int32} {askedIs : Int32} {above : Int64} {below : Int64} {place : Int32} {partedBy : Int32} {res : Int32} : ∀ (n : Nat) (x1 : Int32) (x2 : Int32) (x3 : Int32) (x4 : Int32), M_X7_othersThatMove_b5 now n x1 x2 x3 x4 = some res → X G l RX7 cX7_othersThatMove 5 (x_R 0 0 0) (x_Cm G (some .int) false (x_is (some (.int res)) (WModel G a now kept isKept rows rowLong texts textLong found taken anew hand steps shares choices values latest askedIs above below place partedBy)) 0 0) 0 0 5 [(0, .ref (a 0)), (1, .int x1), (2, .int x2), (3, .int x3), (4, .int x4)] [] (WModel G a now kept isKept rows rowLong texts textLong found taken anew hand steps shares choices values latest askedIs above below place partedBy) := by
  intro n
  induction n with
  | zero =>
    intro _ _ _ _ h
    cases h
  | succ n ih =>
    intro x1 x2 x3 x4 h
    rw [M_X7_othersThatMove_b5] at h
    refine x_iload dX7_othersThatMove_5 4 rfl ?_
    refine x_aload_n dX7_othersThatMove_7 0 rfl rfl ?_
    refine x_get (ci := 5) 0 0 dX7_othersThatMove_8 fl_X7_7 inX7 rfl (by decide) ⟨rfl, rfl, rfl⟩ rfl rfl ?_
    refine x_iconst 0 dX7_othersThatMove_11 (by decide) ?_
    refine x_iald 0 (q0 := 1) dX7_othersThatMove_12 (by decide) rfl (by decide) ?_
    refine x_icmp_ge 56 dX7_othersThatMove_13 (by decide) (fun c1 => ?_) (fun c1 => ?_)
    · have h := x_pos c1 h
      refine x_iload_n dX7_othersThatMove_56 3 rfl rfl ?_
      cases h
      exact x_ireturn dX7_othersThatMove_57 rfl (x_is.rf _ _)
    · have h := x_neg c1 h
      refine x_iload_n dX7_othersThatMove_16 3 rfl rfl ?_
      refine x_iload dX7_othersThatMove_17 4 rfl ?_
      refine x_iload_n dX7_othersThatMove_19 1 rfl rfl ?_
      refine x_icmp_eq 47 dX7_othersThatMove_20 (by decide) (fun c2 => ?_) (fun c2 => ?_)
      · have h := x_pos c2 h
        refine x_lv [0, 1, 2, 4] rfl ?_
        exact w_X7_othersThatMove_b47 (fun x1' x2' x3' x4' h => ih x1' x2' x3' x4' h) _ _ _ _ h
      · have h := x_neg c2 h
        refine x_iload_n dX7_othersThatMove_23 2 rfl rfl ?_
        refine x_bipush (-9 : Int32) dX7_othersThatMove_24 (by decide) ?_
        refine x_icmp_eq 47 dX7_othersThatMove_26 (by decide) (fun c3 => ?_) (fun c3 => ?_)
        · have h := x_pos c3 h
          refine x_lv [0, 1, 2, 4] rfl ?_
          exact w_X7_othersThatMove_b47 (fun x1' x2' x3' x4' h => ih x1' x2' x3' x4' h) _ _ _ _ h
        · have h := x_neg c3 h
          refine x_aload_n dX7_othersThatMove_29 0 rfl rfl ?_
          refine x_get (ci := 5) 0 0 dX7_othersThatMove_30 fl_X7_7 inX7 rfl (by decide) ⟨rfl, rfl, rfl⟩ rfl rfl ?_
          refine x_bipush 14 dX7_othersThatMove_33 (by decide) ?_
          refine x_iload dX7_othersThatMove_35 4 rfl ?_
          refine x_iadd dX7_othersThatMove_37 ?_
          obtain ⟨b4, h⟩ := x_guard h
          refine x_iald ((14 : Int32) + x4).toNatClampNeg (q0 := 1) dX7_othersThatMove_38 rfl rfl b4 ?_
          refine x_iload_n dX7_othersThatMove_39 2 rfl rfl ?_
          refine x_icmp_ne 47 dX7_othersThatMove_40 (by decide) (fun c5 => ?_) (fun c5 => ?_)
          · have h := x_neg c5 h
            refine x_lv [0, 1, 2, 4] rfl ?_
            exact w_X7_othersThatMove_b47 (fun x1' x2' x3' x4' h => ih x1' x2' x3' x4' h) _ _ _ _ h
          · have h := x_pos c5 h
            refine x_iconst 1 dX7_othersThatMove_43 (by decide) ?_
            refine x_goto 48 dX7_othersThatMove_44 (by decide) ?_
            refine x_lv [0, 1, 2, 4] rfl ?_
            exact w_X7_othersThatMove_b48 (fun x1' x2' x3' x4' h => ih x1' x2' x3' x4' h) _ _ _ _ _ h
def M_X7_othersThatMove (now : (Nat → Int32)) (x1 : Int32) (x2 : Int32) : Option (Int32) :=
  M_X7_othersThatMove_b5 now x_fuel x1 x2 (0 : Int32) (0 : Int32)
set_option maxHeartbeats 4000000 in
set_option maxRecDepth 100000 in
theorem c_X7_othersThatMove {G : x_G} {l : Launch} {a : Nat → Nat} {now : (Nat → Int32)} {kept : (Nat → Int32)} {isKept : (Nat → Int32)} {rows : (Nat → Int32)} {rowLong : (Nat → Int32)} {texts : (Nat → Int32)} {textLong : (Nat → Int32)} {found : (Nat → Int32)} {taken : (Nat → Int32)} {anew : (Nat → Int32)} {hand : (Nat → Int32)} {steps : (Nat → Int32)} {shares : (Nat → Int32)} {choices : (Nat → Int32)} {values : (Nat → Int32)} {latest : Int32} {askedIs : Int32} {above : Int64} {below : Int64} {place : Int32} {partedBy : Int32} {x1 : Int32} {x2 : Int32} {res : Int32} (h : M_X7_othersThatMove now x1 x2 = some res) : x_M G l yX7_othersThatMove cX7_othersThatMove 5 (some .int) (0) 0 0 [.ref (a 0), .int x1, .int x2] (WModel G a now kept isKept rows rowLong texts textLong found taken anew hand steps shares choices values latest askedIs above below place partedBy) (x_is (some (.int res)) (WModel G a now kept isKept rows rowLong texts textLong found taken anew hand steps shares choices values latest askedIs above below place partedBy)) := by
  unfold M_X7_othersThatMove at h
  refine x_enter (ini := false) (by decide) rfl (by decide) rfl (Nat.le_of_ble_eq_true rfl) ?_
  refine x_iconst 0 dX7_othersThatMove_0 (by decide) ?_
  refine x_istore_n [(3, .int (0 : Int32)), (0, .ref (a 0)), (1, .int x1), (2, .int x2)] dX7_othersThatMove_1 rfl (by decide) rfl ?_
  refine x_iconst 0 dX7_othersThatMove_2 (by decide) ?_
  refine x_istore [(4, .int (0 : Int32)), (3, .int (0 : Int32)), (0, .ref (a 0)), (1, .int x1), (2, .int x2)] dX7_othersThatMove_3 (by decide) rfl ?_
  refine x_lv [2, 3, 4, 1, 0] rfl ?_
  exact w_X7_othersThatMove_b5  _ _ _ _ _ h
theorem pk_X7_passesAs : x_ps yX7_passesAs cX7_passesAs 3 (some .int) 2 := ⟨⟨co_X7_passesAs, ni_X7, by decide, by decide +kernel⟩, sm_X7_passesAs⟩
def M_X7_passesAs_b11 (x0 : Int32) (x1 : Int32) (s0 : Int32) : Int32 :=
  if x0 = (1 : Int32) then
  ((0 : Int32))
  else
  (if x0 = (2 : Int32) then
  (x1)
  else
  (if x0 = (3 : Int32) then
  (s0)
  else
  (if x0 = (4 : Int32) then
  ((0 : Int32))
  else
  (if x0 = (5 : Int32) then
  ((s0 / (2 : Int32)))
  else
  ((x1 / (2 : Int32)))))))
set_option maxHeartbeats 4000000 in
set_option maxRecDepth 100000 in
theorem w_X7_passesAs_b11 {G : x_G} {l : Launch} {res : Int32} (x0 : Int32) (x1 : Int32) (s0 : Int32) (h : M_X7_passesAs_b11 x0 x1 s0 = res) : X G l RX7 cX7_passesAs 3 (x_R 0 0 0) (x_Cm G (some .int) false (x_is (some (.int res)) ([] : va_W)) 0 0) 0 0 11 [(0, .int x0), (1, .int x1)] [.int s0] ([] : va_W) := by
  unfold M_X7_passesAs_b11 at h
  refine x_istore_n [(2, .int s0), (0, .int x0), (1, .int x1)] dX7_passesAs_11 rfl (by decide) rfl ?_
  refine x_iload_n dX7_passesAs_12 1 rfl rfl ?_
  by_cases c1 : x0 = (1 : Int32)
  · have h := x_pos c1 h
    refine x_tswEq (off := 35) (1 : Int32) 48 c1 dX7_passesAs_13 (by decide) (by decide) (by decide) (by decide) ?_
    refine x_iconst 0 dX7_passesAs_48 (by decide) ?_
    subst h
    exact x_ireturn dX7_passesAs_49 rfl (x_is.rf _ _)
  · have h := x_neg c1 h
    by_cases c2 : x0 = (2 : Int32)
    · have h := x_pos c2 h
      refine x_tswEq (off := 37) (2 : Int32) 50 c2 dX7_passesAs_13 (by decide) (by decide) (by decide) (by decide) ?_
      refine x_iload_n dX7_passesAs_50 2 rfl rfl ?_
      subst h
      exact x_ireturn dX7_passesAs_51 rfl (x_is.rf _ _)
    · have h := x_neg c2 h
      by_cases c3 : x0 = (3 : Int32)
      · have h := x_pos c3 h
        refine x_tswEq (off := 39) (3 : Int32) 52 c3 dX7_passesAs_13 (by decide) (by decide) (by decide) (by decide) ?_
        refine x_iload_n dX7_passesAs_52 0 rfl rfl ?_
        subst h
        exact x_ireturn dX7_passesAs_53 rfl (x_is.rf _ _)
      · have h := x_neg c3 h
        by_cases c4 : x0 = (4 : Int32)
        · have h := x_pos c4 h
          refine x_tswEq (off := 35) (4 : Int32) 48 c4 dX7_passesAs_13 (by decide) (by decide) (by decide) (by decide) ?_
          refine x_iconst 0 dX7_passesAs_48 (by decide) ?_
          subst h
          exact x_ireturn dX7_passesAs_49 rfl (x_is.rf _ _)
        · have h := x_neg c4 h
          by_cases c5 : x0 = (5 : Int32)
          · have h := x_pos c5 h
            refine x_tswEq (off := 41) (5 : Int32) 54 c5 dX7_passesAs_13 (by decide) (by decide) (by decide) (by decide) ?_
            refine x_iload_n dX7_passesAs_54 0 rfl rfl ?_
            refine x_iconst 2 dX7_passesAs_55 (by decide) ?_
            refine x_idiv dX7_passesAs_56 (by decide) ?_
            subst h
            exact x_ireturn dX7_passesAs_57 rfl (x_is.rf _ _)
          · have h := x_neg c5 h
            refine x_tswOut 58 dX7_passesAs_13 (by have q0 := lv_neT c1 (a := 1) (by decide); have q1 := lv_neT c2 (a := 2) (by decide); have q2 := lv_neT c3 (a := 3) (by decide); have q3 := lv_neT c4 (a := 4) (by decide); have q4 := lv_neT c5 (a := 5) (by decide); omega) (by decide) ?_
            refine x_iload_n dX7_passesAs_58 2 rfl rfl ?_
            refine x_iconst 2 dX7_passesAs_59 (by decide) ?_
            refine x_idiv dX7_passesAs_60 (by decide) ?_
            subst h
            exact x_ireturn dX7_passesAs_61 rfl (x_is.rf _ _)
def M_X7_passesAs (x0 : Int32) (x1 : Int32) : Int32 :=
  if x1 ≤ 0 then
  (M_X7_passesAs_b11 x0 x1 (0 : Int32))
  else
  (M_X7_passesAs_b11 x0 x1 (x1 - (1 : Int32)))
set_option maxHeartbeats 4000000 in
set_option maxRecDepth 100000 in
theorem c_X7_passesAs {G : x_G} {l : Launch} {x0 : Int32} {x1 : Int32} {res : Int32} (h : M_X7_passesAs x0 x1 = res) : x_M G l yX7_passesAs cX7_passesAs 3 (some .int) (0) 0 0 [.int x0, .int x1] ([] : va_W) (x_is (some (.int res)) ([] : va_W)) := by
  unfold M_X7_passesAs at h
  refine x_enter (ini := false) (by decide) rfl (by decide) rfl (Nat.le_of_ble_eq_true rfl) ?_
  refine x_iload_n dX7_passesAs_0 1 rfl rfl ?_
  refine x_if_le 10 dX7_passesAs_1 (by decide) (fun c6 => ?_) (fun c6 => ?_)
  · have h := x_pos c6 h
    refine x_iconst 0 dX7_passesAs_10 (by decide) ?_
    exact w_X7_passesAs_b11  _ _ _ h
  · have h := x_neg c6 h
    refine x_iload_n dX7_passesAs_4 1 rfl rfl ?_
    refine x_iconst 1 dX7_passesAs_5 (by decide) ?_
    refine x_isub dX7_passesAs_6 ?_
    refine x_goto 11 dX7_passesAs_7 (by decide) ?_
    exact w_X7_passesAs_b11  _ _ _ h
theorem pk_X7_taut : x_ps yX7_taut cX7_taut 3 (some .int) 1 := ⟨⟨co_X7_taut, ni_X7, by decide, by decide +kernel⟩, sm_X7_taut⟩
def M_X7_taut_85_b28 (c : (Nat → Int32)) (k4 : Int32 → Int32 → Option (Int32)) (x2 : Int32) (s0 : Int32) (s1 : Int32) : Option (Int32) :=
  k4 (s0 ||| s1) (x2 + (1 : Int32))
set_option maxHeartbeats 4000000 in
set_option maxRecDepth 100000 in
theorem w_X7_taut_85_b28 {G : x_G} {l : Launch} {aq : Nat → Nat} {c : (Nat → Int32)} {k4 : Int32 → Int32 → Option (Int32)} {res : Int32} (hk4 : ∀ (x1 : Int32) (x2 : Int32), k4 x1 x2 = some res → X G l RX7 cX7_taut 3 (x_R 0 0 0) (x_Cm G (some .int) false (x_is (some (.int res)) (WArr G aq 85 c)) 0 0) 0 0 4 [(0, .ref (aq 0)), (1, .int x1), (2, .int x2)] [] (WArr G aq 85 c)) (x2 : Int32) (s0 : Int32) (s1 : Int32) (h : M_X7_taut_85_b28 c k4 x2 s0 s1 = some res) : X G l RX7 cX7_taut 3 (x_R 0 0 0) (x_Cm G (some .int) false (x_is (some (.int res)) (WArr G aq 85 c)) 0 0) 0 0 28 [(0, .ref (aq 0)), (2, .int x2)] [.int s1, .int s0] (WArr G aq 85 c) := by
  unfold M_X7_taut_85_b28 at h
  refine x_ior dX7_taut_28 ?_
  refine x_istore_n [(1, .int (s0 ||| s1)), (0, .ref (aq 0)), (2, .int x2)] dX7_taut_29 rfl (by decide) rfl ?_
  refine x_iinc (j := 2) (1 : Int32) [(2, .int (x2 + (1 : Int32))), (1, .int (s0 ||| s1)), (0, .ref (aq 0))] dX7_taut_30 (by decide) rfl (by decide) rfl ?_
  refine x_goto 4 dX7_taut_33 (by decide) ?_
  refine x_lv [2, 1, 0] rfl ?_
  exact hk4 _ _ h
def M_X7_taut_85_b4 (c : (Nat → Int32)) : Nat → Int32 → Int32 → Option (Int32)
  | 0, _, _ => none
  | n + 1, x1, x2 =>
    if (c 0) ≤ x2 then
    (some (x1))
    else
    (if inb ((76 : Int32) + x2) 85 then
    if (c ((76 : Int32) + x2).toNatClampNeg) ≤ 0 then
    (M_X7_taut_85_b28 c (fun (x1' : Int32) (x2' : Int32) => M_X7_taut_85_b4 c n x1' x2') x2 x1 (0 : Int32))
    else
    (M_X7_taut_85_b28 c (fun (x1' : Int32) (x2' : Int32) => M_X7_taut_85_b4 c n x1' x2') x2 x1 ((1 : Int32) <<< (x2 &&& (31 : Int32))))
    else none)
set_option maxHeartbeats 4000000 in
set_option maxRecDepth 100000 in
theorem w_X7_taut_85_b4 {G : x_G} {l : Launch} {aq : Nat → Nat} {c : (Nat → Int32)} {res : Int32} : ∀ (n : Nat) (x1 : Int32) (x2 : Int32), M_X7_taut_85_b4 c n x1 x2 = some res → X G l RX7 cX7_taut 3 (x_R 0 0 0) (x_Cm G (some .int) false (x_is (some (.int res)) (WArr G aq 85 c)) 0 0) 0 0 4 [(0, .ref (aq 0)), (1, .int x1), (2, .int x2)] [] (WArr G aq 85 c) := by
  intro n
  induction n with
  | zero =>
    intro _ _ h
    cases h
  | succ n ih =>
    intro x1 x2 h
    rw [M_X7_taut_85_b4] at h
    refine x_iload_n dX7_taut_4 2 rfl rfl ?_
    refine x_aload_n dX7_taut_5 0 rfl rfl ?_
    refine x_iconst 0 dX7_taut_6 (by decide) ?_
    refine x_iald 0 (q0 := 0) dX7_taut_7 (by decide) rfl (by decide) ?_
    refine x_icmp_ge 36 dX7_taut_8 (by decide) (fun c1 => ?_) (fun c1 => ?_)
    · have h := x_pos c1 h
      refine x_iload_n dX7_taut_36 1 rfl rfl ?_
      cases h
      exact x_ireturn dX7_taut_37 rfl (x_is.rf _ _)
    · have h := x_neg c1 h
      refine x_iload_n dX7_taut_11 1 rfl rfl ?_
      refine x_aload_n dX7_taut_12 0 rfl rfl ?_
      refine x_bipush 76 dX7_taut_13 (by decide) ?_
      refine x_iload_n dX7_taut_15 2 rfl rfl ?_
      refine x_iadd dX7_taut_16 ?_
      obtain ⟨b2, h⟩ := x_guard h
      refine x_iald ((76 : Int32) + x2).toNatClampNeg (q0 := 0) dX7_taut_17 rfl rfl b2 ?_
      refine x_if_le 27 dX7_taut_18 (by decide) (fun c3 => ?_) (fun c3 => ?_)
      · have h := x_pos c3 h
        refine x_iconst 0 dX7_taut_27 (by decide) ?_
        refine x_lv [0, 2] rfl ?_
        exact w_X7_taut_85_b28 (fun x1' x2' h => ih x1' x2' h) _ _ _ h
      · have h := x_neg c3 h
        refine x_iconst 1 dX7_taut_21 (by decide) ?_
        refine x_iload_n dX7_taut_22 2 rfl rfl ?_
        refine x_ishl dX7_taut_23 ?_
        refine x_goto 28 dX7_taut_24 (by decide) ?_
        refine x_lv [0, 2] rfl ?_
        exact w_X7_taut_85_b28 (fun x1' x2' h => ih x1' x2' h) _ _ _ h
def M_X7_taut_85 (c : (Nat → Int32)) : Option (Int32) :=
  M_X7_taut_85_b4 c x_fuel (0 : Int32) (0 : Int32)
set_option maxHeartbeats 4000000 in
set_option maxRecDepth 100000 in
theorem c_X7_taut_85 {G : x_G} {l : Launch} {aq : Nat → Nat} {c : (Nat → Int32)} {res : Int32} (h : M_X7_taut_85 c = some res) : x_M G l yX7_taut cX7_taut 3 (some .int) (0) 0 0 [.ref (aq 0)] (WArr G aq 85 c) (x_is (some (.int res)) (WArr G aq 85 c)) := by
  unfold M_X7_taut_85 at h
  refine x_enter (ini := false) (by decide) rfl (by decide) rfl (Nat.le_of_ble_eq_true rfl) ?_
  refine x_iconst 0 dX7_taut_0 (by decide) ?_
  refine x_istore_n [(1, .int (0 : Int32)), (0, .ref (aq 0))] dX7_taut_1 rfl (by decide) rfl ?_
  refine x_iconst 0 dX7_taut_2 (by decide) ?_
  refine x_istore_n [(2, .int (0 : Int32)), (1, .int (0 : Int32)), (0, .ref (aq 0))] dX7_taut_3 rfl (by decide) rfl ?_
  refine x_lv [2, 1, 0] rfl ?_
  exact w_X7_taut_85_b4  _ _ _ h
theorem pk_X7_bits : x_ps yX7_bits cX7_bits 3 (some .int) 1 := ⟨⟨co_X7_bits, ni_X7, by decide, by decide +kernel⟩, sm_X7_bits⟩
def M_X7_bits_b4 : Nat → Int32 → Int32 → Option (Int32)
  | 0, _, _ => none
  | n + 1, x1, x2 =>
    if x2 ≤ 0 then
    (some (x1))
    else
    (M_X7_bits_b4 n (x1 + (x2 &&& (1 : Int32))) (x2 >>> ((1 : Int32) &&& (31 : Int32))))
set_option maxHeartbeats 4000000 in
set_option maxRecDepth 100000 in
theorem w_X7_bits_b4 {G : x_G} {l : Launch} {res : Int32} : ∀ (n : Nat) (x1 : Int32) (x2 : Int32), M_X7_bits_b4 n x1 x2 = some res → X G l RX7 cX7_bits 3 (x_R 0 0 0) (x_Cm G (some .int) false (x_is (some (.int res)) ([] : va_W)) 0 0) 0 0 4 [(1, .int x1), (2, .int x2)] [] ([] : va_W) := by
  intro n
  induction n with
  | zero =>
    intro _ _ h
    cases h
  | succ n ih =>
    intro x1 x2 h
    rw [M_X7_bits_b4] at h
    refine x_iload_n dX7_bits_4 1 rfl rfl ?_
    refine x_if_le 21 dX7_bits_5 (by decide) (fun c1 => ?_) (fun c1 => ?_)
    · have h := x_pos c1 h
      refine x_iload_n dX7_bits_21 0 rfl rfl ?_
      cases h
      exact x_ireturn dX7_bits_22 rfl (x_is.rf _ _)
    · have h := x_neg c1 h
      refine x_iload_n dX7_bits_8 0 rfl rfl ?_
      refine x_iload_n dX7_bits_9 1 rfl rfl ?_
      refine x_iconst 1 dX7_bits_10 (by decide) ?_
      refine x_iand dX7_bits_11 ?_
      refine x_iadd dX7_bits_12 ?_
      refine x_istore_n [(1, .int (x1 + (x2 &&& (1 : Int32)))), (2, .int x2)] dX7_bits_13 rfl (by decide) rfl ?_
      refine x_iload_n dX7_bits_14 1 rfl rfl ?_
      refine x_iconst 1 dX7_bits_15 (by decide) ?_
      refine x_ishr dX7_bits_16 ?_
      refine x_istore_n [(2, .int (x2 >>> ((1 : Int32) &&& (31 : Int32)))), (1, .int (x1 + (x2 &&& (1 : Int32))))] dX7_bits_17 rfl (by decide) rfl ?_
      refine x_goto 4 dX7_bits_18 (by decide) ?_
      refine x_lv [1, 0] rfl ?_
      exact ih _ _ h
def M_X7_bits (x0 : Int32) : Option (Int32) :=
  M_X7_bits_b4 x_fuel (0 : Int32) x0
set_option maxHeartbeats 4000000 in
set_option maxRecDepth 100000 in
theorem c_X7_bits {G : x_G} {l : Launch} {x0 : Int32} {res : Int32} (h : M_X7_bits x0 = some res) : x_M G l yX7_bits cX7_bits 3 (some .int) (0) 0 0 [.int x0] ([] : va_W) (x_is (some (.int res)) ([] : va_W)) := by
  unfold M_X7_bits at h
  refine x_enter (ini := false) (by decide) rfl (by decide) rfl (Nat.le_of_ble_eq_true rfl) ?_
  refine x_iconst 0 dX7_bits_0 (by decide) ?_
  refine x_istore_n [(1, .int (0 : Int32)), (0, .int x0)] dX7_bits_1 rfl (by decide) rfl ?_
  refine x_iload_n dX7_bits_2 1 rfl rfl ?_
  refine x_istore_n [(2, .int x0), (1, .int (0 : Int32)), (0, .int x0)] dX7_bits_3 rfl (by decide) rfl ?_
  refine x_lv [1, 0] rfl ?_
  exact w_X7_bits_b4  _ _ _ h
theorem pk_X7_mark : x_pv RX7 yX7_mark cX7_mark 3 (some .int) 2 := ⟨⟨co_X7_mark, ni_X7, by decide, by decide +kernel⟩, im_X7_mark, se_X7_mark⟩
def M_X7_mark (now : (Nat → Int32)) (found : (Nat → Int32)) (latest : Int32) (x1 : Int32) (x2 : Int32) : Option (Int32 × (Nat → Int32) × Int32) :=
  if (M_X7_isRope now x1) = 0 then
  (some ((-1 : Int32), found, latest))
  else
  (if (M_X7_in x2.toInt64 (1 : Int64) (5 : Int64)) = 0 then
  (some ((-1 : Int32), found, latest))
  else
  (if inb ((2 : Int32) + x1) 85 then
  if (M_X7_isOf (now ((2 : Int32) + x1).toNatClampNeg) x2) = 0 then
  ((M_X7_finds found latest (3 : Int32)).bind fun r22 =>
  some (r22.1, r22.2.1, r22.2.2))
  else
  (if x2 = (1 : Int32) then
  ((M_X7_holdsOf_85 now x1).bind fun r6 =>
  if inb ((76 : Int32) + x1) 85 then
  some ((r6 - (now ((76 : Int32) + x1).toNatClampNeg)), found, latest)
  else none)
  else
  (if x2 = (2 : Int32) then
  (if inb ((14 : Int32) + x1) 85 then
  (M_X7_othersThatMove now x1 (now ((14 : Int32) + x1).toNatClampNeg)).bind fun r11 =>
  some (r11, found, latest)
  else none)
  else
  (if x2 = (3 : Int32) then
  (if inb ((76 : Int32) + x1) 85 then
  some ((M_X7_passesAs (now ((2 : Int32) + x1).toNatClampNeg) (now ((76 : Int32) + x1).toNatClampNeg)), found, latest)
  else none)
  else
  (if x2 = (4 : Int32) then
  ((M_X7_othersThatMove now x1 x1).bind fun r16 =>
  some (r16, found, latest))
  else
  ((M_X7_taut_85 now).bind fun r18 =>
  (M_X7_bits (r18 &&& (((1 : Int32) <<< (x1 &&& (31 : Int32))) ^^^ (-1 : Int32)))).bind fun r20 =>
  some (r20, found, latest))))))
  else none))
set_option maxHeartbeats 4000000 in
set_option maxRecDepth 100000 in
theorem c_X7_mark {G : x_G} {l : Launch} {a : Nat → Nat} {now : (Nat → Int32)} {kept : (Nat → Int32)} {isKept : (Nat → Int32)} {rows : (Nat → Int32)} {rowLong : (Nat → Int32)} {texts : (Nat → Int32)} {textLong : (Nat → Int32)} {taken : (Nat → Int32)} {anew : (Nat → Int32)} {hand : (Nat → Int32)} {steps : (Nat → Int32)} {shares : (Nat → Int32)} {choices : (Nat → Int32)} {values : (Nat → Int32)} {askedIs : Int32} {above : Int64} {below : Int64} {place : Int32} {partedBy : Int32} {found : (Nat → Int32)} {latest : Int32} {x1 : Int32} {x2 : Int32} {res : Int32 × (Nat → Int32) × Int32} (h : M_X7_mark now found latest x1 x2 = some res) : x_M G l yX7_mark cX7_mark 3 (some .int) (2) 0 0 [.ref (a 0), .int x1, .int x2] (WModel G a now kept isKept rows rowLong texts textLong found taken anew hand steps shares choices values latest askedIs above below place partedBy) (x_is (some (.int res.1)) (WModel G a now kept isKept rows rowLong texts textLong res.2.1 taken anew hand steps shares choices values res.2.2 askedIs above below place partedBy)) := by
  unfold M_X7_mark at h
  refine x_enter (ini := false) (by decide) rfl (by decide) rfl (Nat.le_of_ble_eq_true rfl) ?_
  refine x_aload_n dX7_mark_0 0 rfl rfl ?_
  refine x_iload_n dX7_mark_1 1 rfl rfl ?_
  refine x_cV (As := [.int x1]) (wc := (WModel G a now kept isKept rows rowLong texts textLong found taken anew hand steps shares choices values latest askedIs above below place partedBy)) (w1 := (WModel G a now kept isKept rows rowLong texts textLong found taken anew hand steps shares choices values latest askedIs above below place partedBy)) (pre := []) (post := []) (rest := []) (st1 := [.int (M_X7_isRope now x1)]) (ws1 := (WModel G a now kept isKept rows rowLong texts textLong found taken anew hand steps shares choices values latest askedIs above below place partedBy)) (ci := 5) 0 dX7_mark_2 (c_X7_isRope (a := a) rfl) pk_X7_isRope ml_X7_155 (x_full _) rfl rfl rfl rfl rfl rfl rfl rfl (x_full _).symm ?_
  refine x_if_eq 20 dX7_mark_5 (by decide) (fun c1 => ?_) (fun c1 => ?_)
  · have h := x_pos c1 h
    refine x_iconst (-1 : Int32) dX7_mark_20 (by decide) ?_
    cases h
    exact x_ireturn dX7_mark_21 rfl (x_is.rf _ _)
  · have h := x_neg c1 h
    refine x_iload_n dX7_mark_8 2 rfl rfl ?_
    refine x_i2l dX7_mark_9 ?_
    refine x_lconst 1 dX7_mark_10 (by decide) ?_
    refine x_ldc2 dX7_mark_11 kl_X7_67 ?_
    refine x_cS (As := [.long x2.toInt64, .long (1 : Int64), .long (5 : Int64)]) (wc := ([] : va_W)) (w1 := ([] : va_W)) (pre := []) (post := (WModel G a now kept isKept rows rowLong texts textLong found taken anew hand steps shares choices values latest askedIs above below place partedBy)) (rest := []) (st1 := [.int (M_X7_in x2.toInt64 (1 : Int64) (5 : Int64))]) (ws1 := (WModel G a now kept isKept rows rowLong texts textLong found taken anew hand steps shares choices values latest askedIs above below place partedBy)) dX7_mark_14 (c_X7_in rfl) pk_X7_in ml_X7_69 rfl rfl rfl rfl rfl rfl rfl ?_
    refine x_if_ne 22 dX7_mark_17 (by decide) (fun c2 => ?_) (fun c2 => ?_)
    · have h := x_neg c2 h
      refine x_aload_n dX7_mark_22 0 rfl rfl ?_
      refine x_get (ci := 5) 0 0 dX7_mark_23 fl_X7_7 inX7 rfl (by decide) ⟨rfl, rfl, rfl⟩ rfl rfl ?_
      refine x_iconst 2 dX7_mark_26 (by decide) ?_
      refine x_iload_n dX7_mark_27 1 rfl rfl ?_
      refine x_iadd dX7_mark_28 ?_
      obtain ⟨b3, h⟩ := x_guard h
      refine x_iald ((2 : Int32) + x1).toNatClampNeg (q0 := 1) dX7_mark_29 rfl rfl b3 ?_
      refine x_iload_n dX7_mark_30 2 rfl rfl ?_
      refine x_cS (As := [.int (now ((2 : Int32) + x1).toNatClampNeg), .int x2]) (wc := ([] : va_W)) (w1 := ([] : va_W)) (pre := []) (post := (WModel G a now kept isKept rows rowLong texts textLong found taken anew hand steps shares choices values latest askedIs above below place partedBy)) (rest := []) (st1 := [.int (M_X7_isOf (now ((2 : Int32) + x1).toNatClampNeg) x2)]) (ws1 := (WModel G a now kept isKept rows rowLong texts textLong found taken anew hand steps shares choices values latest askedIs above below place partedBy)) dX7_mark_31 (c_X7_isOf rfl) pk_X7_isOf ml_X7_161 rfl rfl rfl rfl rfl rfl rfl ?_
      refine x_if_ne 43 dX7_mark_34 (by decide) (fun c4 => ?_) (fun c4 => ?_)
      · have h := x_neg c4 h
        refine x_iload_n dX7_mark_43 2 rfl rfl ?_
        by_cases c5 : x2 = (1 : Int32)
        · have h := x_pos c5 h
          refine x_tswEq (off := 32) (1 : Int32) 76 c5 dX7_mark_44 (by decide) (by decide) (by decide) (by decide) ?_
          refine x_aload_n dX7_mark_76 0 rfl rfl ?_
          refine x_get (ci := 5) 0 0 dX7_mark_77 fl_X7_7 inX7 rfl (by decide) ⟨rfl, rfl, rfl⟩ rfl rfl ?_
          refine x_iload_n dX7_mark_80 1 rfl rfl ?_
          obtain ⟨r6, e7, h⟩ := x_bind h
          refine x_cS (As := [.ref (a 1), .int x1]) (wc := (WArr G (fun k => a (1 + k)) 85 now)) (w1 := (WArr G (fun k => a (1 + k)) 85 now)) (pre := ((WModel G a now kept isKept rows rowLong texts textLong found taken anew hand steps shares choices values latest askedIs above below place partedBy).take 1)) (post := ((WModel G a now kept isKept rows rowLong texts textLong found taken anew hand steps shares choices values latest askedIs above below place partedBy).drop 2)) (rest := []) (st1 := [.int r6]) (ws1 := (WModel G a now kept isKept rows rowLong texts textLong found taken anew hand steps shares choices values latest askedIs above below place partedBy)) dX7_mark_81 (c_X7_holdsOf_85 (aq := (fun k => a (1 + k))) e7) pk_X7_holdsOf ml_X7_136 rfl rfl rfl rfl rfl rfl rfl ?_
          refine x_aload_n dX7_mark_84 0 rfl rfl ?_
          refine x_get (ci := 5) 0 0 dX7_mark_85 fl_X7_7 inX7 rfl (by decide) ⟨rfl, rfl, rfl⟩ rfl rfl ?_
          refine x_bipush 76 dX7_mark_88 (by decide) ?_
          refine x_iload_n dX7_mark_90 1 rfl rfl ?_
          refine x_iadd dX7_mark_91 ?_
          obtain ⟨b8, h⟩ := x_guard h
          refine x_iald ((76 : Int32) + x1).toNatClampNeg (q0 := 1) dX7_mark_92 rfl rfl b8 ?_
          refine x_isub dX7_mark_93 ?_
          cases h
          exact x_ireturn dX7_mark_94 rfl (x_is.rf _ _)
        · have h := x_neg c5 h
          by_cases c9 : x2 = (2 : Int32)
          · have h := x_pos c9 h
            refine x_tswEq (off := 51) (2 : Int32) 95 c9 dX7_mark_44 (by decide) (by decide) (by decide) (by decide) ?_
            refine x_aload_n dX7_mark_95 0 rfl rfl ?_
            refine x_iload_n dX7_mark_96 1 rfl rfl ?_
            refine x_aload_n dX7_mark_97 0 rfl rfl ?_
            refine x_get (ci := 5) 0 0 dX7_mark_98 fl_X7_7 inX7 rfl (by decide) ⟨rfl, rfl, rfl⟩ rfl rfl ?_
            refine x_bipush 14 dX7_mark_101 (by decide) ?_
            refine x_iload_n dX7_mark_103 1 rfl rfl ?_
            refine x_iadd dX7_mark_104 ?_
            obtain ⟨b10, h⟩ := x_guard h
            refine x_iald ((14 : Int32) + x1).toNatClampNeg (q0 := 1) dX7_mark_105 rfl rfl b10 ?_
            obtain ⟨r11, e12, h⟩ := x_bind h
            refine x_cV (As := [.int x1, .int (now ((14 : Int32) + x1).toNatClampNeg)]) (wc := (WModel G a now kept isKept rows rowLong texts textLong found taken anew hand steps shares choices values latest askedIs above below place partedBy)) (w1 := (WModel G a now kept isKept rows rowLong texts textLong found taken anew hand steps shares choices values latest askedIs above below place partedBy)) (pre := []) (post := []) (rest := []) (st1 := [.int r11]) (ws1 := (WModel G a now kept isKept rows rowLong texts textLong found taken anew hand steps shares choices values latest askedIs above below place partedBy)) (ci := 5) 0 dX7_mark_106 (c_X7_othersThatMove (a := a) e12) pk_X7_othersThatMove ml_X7_164 (x_full _) rfl rfl rfl rfl rfl rfl rfl rfl (x_full _).symm ?_
            cases h
            exact x_ireturn dX7_mark_109 rfl (x_is.rf _ _)
          · have h := x_neg c9 h
            by_cases c13 : x2 = (3 : Int32)
            · have h := x_pos c13 h
              refine x_tswEq (off := 66) (3 : Int32) 110 c13 dX7_mark_44 (by decide) (by decide) (by decide) (by decide) ?_
              refine x_aload_n dX7_mark_110 0 rfl rfl ?_
              refine x_get (ci := 5) 0 0 dX7_mark_111 fl_X7_7 inX7 rfl (by decide) ⟨rfl, rfl, rfl⟩ rfl rfl ?_
              refine x_iconst 2 dX7_mark_114 (by decide) ?_
              refine x_iload_n dX7_mark_115 1 rfl rfl ?_
              refine x_iadd dX7_mark_116 ?_
              refine x_iald ((2 : Int32) + x1).toNatClampNeg (q0 := 1) dX7_mark_117 rfl rfl b3 ?_
              refine x_aload_n dX7_mark_118 0 rfl rfl ?_
              refine x_get (ci := 5) 0 0 dX7_mark_119 fl_X7_7 inX7 rfl (by decide) ⟨rfl, rfl, rfl⟩ rfl rfl ?_
              refine x_bipush 76 dX7_mark_122 (by decide) ?_
              refine x_iload_n dX7_mark_124 1 rfl rfl ?_
              refine x_iadd dX7_mark_125 ?_
              obtain ⟨b14, h⟩ := x_guard h
              refine x_iald ((76 : Int32) + x1).toNatClampNeg (q0 := 1) dX7_mark_126 rfl rfl b14 ?_
              refine x_cS (As := [.int (now ((2 : Int32) + x1).toNatClampNeg), .int (now ((76 : Int32) + x1).toNatClampNeg)]) (wc := ([] : va_W)) (w1 := ([] : va_W)) (pre := []) (post := (WModel G a now kept isKept rows rowLong texts textLong found taken anew hand steps shares choices values latest askedIs above below place partedBy)) (rest := []) (st1 := [.int (M_X7_passesAs (now ((2 : Int32) + x1).toNatClampNeg) (now ((76 : Int32) + x1).toNatClampNeg))]) (ws1 := (WModel G a now kept isKept rows rowLong texts textLong found taken anew hand steps shares choices values latest askedIs above below place partedBy)) dX7_mark_127 (c_X7_passesAs rfl) pk_X7_passesAs ml_X7_140 rfl rfl rfl rfl rfl rfl rfl ?_
              cases h
              exact x_ireturn dX7_mark_130 rfl (x_is.rf _ _)
            · have h := x_neg c13 h
              by_cases c15 : x2 = (4 : Int32)
              · have h := x_pos c15 h
                refine x_tswEq (off := 87) (4 : Int32) 131 c15 dX7_mark_44 (by decide) (by decide) (by decide) (by decide) ?_
                refine x_aload_n dX7_mark_131 0 rfl rfl ?_
                refine x_iload_n dX7_mark_132 1 rfl rfl ?_
                refine x_iload_n dX7_mark_133 1 rfl rfl ?_
                obtain ⟨r16, e17, h⟩ := x_bind h
                refine x_cV (As := [.int x1, .int x1]) (wc := (WModel G a now kept isKept rows rowLong texts textLong found taken anew hand steps shares choices values latest askedIs above below place partedBy)) (w1 := (WModel G a now kept isKept rows rowLong texts textLong found taken anew hand steps shares choices values latest askedIs above below place partedBy)) (pre := []) (post := []) (rest := []) (st1 := [.int r16]) (ws1 := (WModel G a now kept isKept rows rowLong texts textLong found taken anew hand steps shares choices values latest askedIs above below place partedBy)) (ci := 5) 0 dX7_mark_134 (c_X7_othersThatMove (a := a) e17) pk_X7_othersThatMove ml_X7_164 (x_full _) rfl rfl rfl rfl rfl rfl rfl rfl (x_full _).symm ?_
                cases h
                exact x_ireturn dX7_mark_137 rfl (x_is.rf _ _)
              · have h := x_neg c15 h
                refine x_tswOut 138 dX7_mark_44 (by have q0 := lv_neT c5 (a := 1) (by decide); have q1 := lv_neT c9 (a := 2) (by decide); have q2 := lv_neT c13 (a := 3) (by decide); have q3 := lv_neT c15 (a := 4) (by decide); omega) (by decide) ?_
                refine x_aload_n dX7_mark_138 0 rfl rfl ?_
                refine x_get (ci := 5) 0 0 dX7_mark_139 fl_X7_7 inX7 rfl (by decide) ⟨rfl, rfl, rfl⟩ rfl rfl ?_
                obtain ⟨r18, e19, h⟩ := x_bind h
                refine x_cS (As := [.ref (a 1)]) (wc := (WArr G (fun k => a (1 + k)) 85 now)) (w1 := (WArr G (fun k => a (1 + k)) 85 now)) (pre := ((WModel G a now kept isKept rows rowLong texts textLong found taken anew hand steps shares choices values latest askedIs above below place partedBy).take 1)) (post := ((WModel G a now kept isKept rows rowLong texts textLong found taken anew hand steps shares choices values latest askedIs above below place partedBy).drop 2)) (rest := []) (st1 := [.int r18]) (ws1 := (WModel G a now kept isKept rows rowLong texts textLong found taken anew hand steps shares choices values latest askedIs above below place partedBy)) dX7_mark_142 (c_X7_taut_85 (aq := (fun k => a (1 + k))) e19) pk_X7_taut ml_X7_167 rfl rfl rfl rfl rfl rfl rfl ?_
                refine x_iconst 1 dX7_mark_145 (by decide) ?_
                refine x_iload_n dX7_mark_146 1 rfl rfl ?_
                refine x_ishl dX7_mark_147 ?_
                refine x_iconst (-1 : Int32) dX7_mark_148 (by decide) ?_
                refine x_ixor dX7_mark_149 ?_
                refine x_iand dX7_mark_150 ?_
                obtain ⟨r20, e21, h⟩ := x_bind h
                refine x_cS (As := [.int (r18 &&& (((1 : Int32) <<< (x1 &&& (31 : Int32))) ^^^ (-1 : Int32)))]) (wc := ([] : va_W)) (w1 := ([] : va_W)) (pre := []) (post := (WModel G a now kept isKept rows rowLong texts textLong found taken anew hand steps shares choices values latest askedIs above below place partedBy)) (rest := []) (st1 := [.int r20]) (ws1 := (WModel G a now kept isKept rows rowLong texts textLong found taken anew hand steps shares choices values latest askedIs above below place partedBy)) dX7_mark_151 (c_X7_bits e21) pk_X7_bits ml_X7_171 rfl rfl rfl rfl rfl rfl rfl ?_
                cases h
                exact x_ireturn dX7_mark_154 rfl (x_is.rf _ _)
      · have h := x_pos c4 h
        refine x_aload_n dX7_mark_37 0 rfl rfl ?_
        refine x_iconst 3 dX7_mark_38 (by decide) ?_
        obtain ⟨r22, e23, h⟩ := x_bind h
        refine x_cV (As := [.int (3 : Int32)]) (wc := (WModel G a now kept isKept rows rowLong texts textLong found taken anew hand steps shares choices values latest askedIs above below place partedBy)) (w1 := (WModel G a now kept isKept rows rowLong texts textLong r22.2.1 taken anew hand steps shares choices values r22.2.2 askedIs above below place partedBy)) (pre := []) (post := []) (rest := []) (st1 := [.int r22.1]) (ws1 := (WModel G a now kept isKept rows rowLong texts textLong r22.2.1 taken anew hand steps shares choices values r22.2.2 askedIs above below place partedBy)) (ci := 5) 0 dX7_mark_39 (c_X7_finds (a := a) e23) pk_X7_finds ml_X7_79 (x_full _) rfl rfl rfl rfl rfl rfl rfl rfl (x_full _).symm ?_
        cases h
        exact x_ireturn dX7_mark_42 rfl (x_is.rf _ _)
    · have h := x_pos c2 h
      refine x_iconst (-1 : Int32) dX7_mark_20 (by decide) ?_
      cases h
      exact x_ireturn dX7_mark_21 rfl (x_is.rf _ _)
theorem pk_X7_is : x_pv RX7 yX7_is cX7_is 4 (some .boolean) 2 := ⟨⟨co_X7_is, ni_X7, by decide, by decide +kernel⟩, im_X7_is, se_X7_is⟩
def M_X7_is_b46 (now : (Nat → Int32)) (s0 : Int32) (s1 : Int32) : Int32 :=
  if s0 = s1 then
  ((1 : Int32))
  else
  ((0 : Int32))
set_option maxHeartbeats 4000000 in
set_option maxRecDepth 100000 in
theorem w_X7_is_b46 {G : x_G} {l : Launch} {a : Nat → Nat} {now : (Nat → Int32)} {kept : (Nat → Int32)} {isKept : (Nat → Int32)} {rows : (Nat → Int32)} {rowLong : (Nat → Int32)} {texts : (Nat → Int32)} {textLong : (Nat → Int32)} {found : (Nat → Int32)} {taken : (Nat → Int32)} {anew : (Nat → Int32)} {hand : (Nat → Int32)} {steps : (Nat → Int32)} {shares : (Nat → Int32)} {choices : (Nat → Int32)} {values : (Nat → Int32)} {latest : Int32} {askedIs : Int32} {above : Int64} {below : Int64} {place : Int32} {partedBy : Int32} {res : Int32} (s0 : Int32) (s1 : Int32) (h : M_X7_is_b46 now s0 s1 = res) : X G l RX7 cX7_is 4 (x_R 1 0 0) (x_Cm G (some .boolean) false (x_is (some (.int res)) (WModel G a now kept isKept rows rowLong texts textLong found taken anew hand steps shares choices values latest askedIs above below place partedBy)) 0 0) 0 0 46 [] [.int s1, .int s0] (WModel G a now kept isKept rows rowLong texts textLong found taken anew hand steps shares choices values latest askedIs above below place partedBy) := by
  unfold M_X7_is_b46 at h
  refine x_icmp_ne 53 dX7_is_46 (by decide) (fun c1 => ?_) (fun c1 => ?_)
  · have h := x_neg c1 h
    refine x_iconst 0 dX7_is_53 (by decide) ?_
    subst h
    exact x_ireturn dX7_is_54 rfl (x_is.rf _ _)
  · have h := x_pos c1 h
    refine x_iconst 1 dX7_is_49 (by decide) ?_
    refine x_goto 54 dX7_is_50 (by decide) ?_
    subst h
    exact x_ireturn dX7_is_54 rfl (x_is.rf _ _)
def M_X7_is (now : (Nat → Int32)) (x1 : Int32) (x2 : Int32) : Int32 :=
  if x2 = (2 : Int32) then
  ((M_X7_has (now 83) x1))
  else
  (if (M_X7_has (now 83) x1) = 0 then
  (if x2 = (1 : Int32) then
  (M_X7_is_b46 now (M_X7_has (now 82) x1) (1 : Int32))
  else
  (M_X7_is_b46 now (M_X7_has (now 82) x1) (0 : Int32)))
  else
  ((0 : Int32)))
theorem M_X7_is_b {now : (Nat → Int32)} {x1 : Int32} {x2 : Int32} : narrow .boolean (.int (M_X7_is now x1 x2)) = .int (M_X7_is now x1 x2) := by
  simp only [M_X7_is, M_X7_is_b46]
  repeat' split
  all_goals first | rfl | exact M_X7_has_b
set_option maxHeartbeats 4000000 in
set_option maxRecDepth 100000 in
theorem c_X7_is {G : x_G} {l : Launch} {a : Nat → Nat} {now : (Nat → Int32)} {kept : (Nat → Int32)} {isKept : (Nat → Int32)} {rows : (Nat → Int32)} {rowLong : (Nat → Int32)} {texts : (Nat → Int32)} {textLong : (Nat → Int32)} {found : (Nat → Int32)} {taken : (Nat → Int32)} {anew : (Nat → Int32)} {hand : (Nat → Int32)} {steps : (Nat → Int32)} {shares : (Nat → Int32)} {choices : (Nat → Int32)} {values : (Nat → Int32)} {latest : Int32} {askedIs : Int32} {above : Int64} {below : Int64} {place : Int32} {partedBy : Int32} {x1 : Int32} {x2 : Int32} {res : Int32} (h : M_X7_is now x1 x2 = res) : x_M G l yX7_is cX7_is 4 (some .boolean) (1) 0 0 [.ref (a 0), .int x1, .int x2] (WModel G a now kept isKept rows rowLong texts textLong found taken anew hand steps shares choices values latest askedIs above below place partedBy) (x_is (some (.int res)) (WModel G a now kept isKept rows rowLong texts textLong found taken anew hand steps shares choices values latest askedIs above below place partedBy)) := by
  unfold M_X7_is at h
  refine x_enter (ini := false) (by decide) rfl (by decide) rfl (Nat.le_of_ble_eq_true rfl) ?_
  refine x_aload_n dX7_is_0 0 rfl rfl ?_
  refine x_get (ci := 5) 0 0 dX7_is_1 fl_X7_7 inX7 rfl (by decide) ⟨rfl, rfl, rfl⟩ rfl rfl ?_
  refine x_bipush 83 dX7_is_4 (by decide) ?_
  refine x_iald 83 (q0 := 1) dX7_is_6 (by decide) rfl (by decide) ?_
  refine x_iload_n dX7_is_7 1 rfl rfl ?_
  refine x_cS (As := [.int (now 83), .int x1]) (wc := ([] : va_W)) (w1 := ([] : va_W)) (pre := []) (post := (WModel G a now kept isKept rows rowLong texts textLong found taken anew hand steps shares choices values latest askedIs above below place partedBy)) (rest := []) (st1 := [.int (M_X7_has (now 83) x1)]) (ws1 := (WModel G a now kept isKept rows rowLong texts textLong found taken anew hand steps shares choices values latest askedIs above below place partedBy)) dX7_is_8 (c_X7_has rfl) pk_X7_has ml_X7_130 rfl rfl rfl rfl rfl rfl rfl ?_
  refine x_istore_n [(3, .int (M_X7_has (now 83) x1)), (0, .ref (a 0)), (1, .int x1), (2, .int x2)] dX7_is_11 rfl (by decide) rfl ?_
  refine x_iload_n dX7_is_12 3 rfl rfl ?_
  refine x_iconst 2 dX7_is_13 (by decide) ?_
  refine x_icmp_ne 21 dX7_is_14 (by decide) (fun c2 => ?_) (fun c2 => ?_)
  · have h := x_neg c2 h
    refine x_iload_n dX7_is_21 0 rfl rfl ?_
    refine x_if_ne 53 dX7_is_22 (by decide) (fun c3 => ?_) (fun c3 => ?_)
    · have h := x_neg c3 h
      refine x_iconst 0 dX7_is_53 (by decide) ?_
      subst h
      exact x_ireturn dX7_is_54 rfl (x_is.rf _ _)
    · have h := x_pos c3 h
      refine x_aload_n dX7_is_25 1 rfl rfl ?_
      refine x_get (ci := 5) 0 0 dX7_is_26 fl_X7_7 inX7 rfl (by decide) ⟨rfl, rfl, rfl⟩ rfl rfl ?_
      refine x_bipush 82 dX7_is_29 (by decide) ?_
      refine x_iald 82 (q0 := 1) dX7_is_31 (by decide) rfl (by decide) ?_
      refine x_iload_n dX7_is_32 2 rfl rfl ?_
      refine x_cS (As := [.int (now 82), .int x1]) (wc := ([] : va_W)) (w1 := ([] : va_W)) (pre := []) (post := (WModel G a now kept isKept rows rowLong texts textLong found taken anew hand steps shares choices values latest askedIs above below place partedBy)) (rest := []) (st1 := [.int (M_X7_has (now 82) x1)]) (ws1 := (WModel G a now kept isKept rows rowLong texts textLong found taken anew hand steps shares choices values latest askedIs above below place partedBy)) dX7_is_33 (c_X7_has rfl) pk_X7_has ml_X7_130 rfl rfl rfl rfl rfl rfl rfl ?_
      refine x_iload_n dX7_is_36 3 rfl rfl ?_
      refine x_iconst 1 dX7_is_37 (by decide) ?_
      refine x_icmp_ne 45 dX7_is_38 (by decide) (fun c4 => ?_) (fun c4 => ?_)
      · have h := x_neg c4 h
        refine x_iconst 0 dX7_is_45 (by decide) ?_
        refine x_lv [] rfl ?_
        exact w_X7_is_b46  _ _ h
      · have h := x_pos c4 h
        refine x_iconst 1 dX7_is_41 (by decide) ?_
        refine x_goto 46 dX7_is_42 (by decide) ?_
        refine x_lv [] rfl ?_
        exact w_X7_is_b46  _ _ h
  · have h := x_pos c2 h
    refine x_iload_n dX7_is_17 0 rfl rfl ?_
    refine x_goto 54 dX7_is_18 (by decide) ?_
    subst h
    exact x_ireturn dX7_is_54 M_X7_has_b (x_is.rf _ _)
theorem pk_X7_isFast : x_ps yX7_isFast cX7_isFast 2 (some .boolean) 2 := ⟨⟨co_X7_isFast, ni_X7, by decide, by decide +kernel⟩, sm_X7_isFast⟩
def M_X7_isFast_85 (c : (Nat → Int32)) (x1 : Int32) : Int32 :=
  if (M_X7_has (c 82) x1) = 0 then
  (if (M_X7_has (c 83) x1) = 0 then
  ((1 : Int32))
  else
  ((0 : Int32)))
  else
  ((0 : Int32))
theorem M_X7_isFast_85_b {c : (Nat → Int32)} {x1 : Int32} : narrow .boolean (.int (M_X7_isFast_85 c x1)) = .int (M_X7_isFast_85 c x1) := by
  simp only [M_X7_isFast_85]
  repeat' split
  all_goals first | rfl | exact M_X7_has_b
set_option maxHeartbeats 4000000 in
set_option maxRecDepth 100000 in
theorem c_X7_isFast_85 {G : x_G} {l : Launch} {aq : Nat → Nat} {c : (Nat → Int32)} {x1 : Int32} {res : Int32} (h : M_X7_isFast_85 c x1 = res) : x_M G l yX7_isFast cX7_isFast 2 (some .boolean) (1) 0 0 [.ref (aq 0), .int x1] (WArr G aq 85 c) (x_is (some (.int res)) (WArr G aq 85 c)) := by
  unfold M_X7_isFast_85 at h
  refine x_enter (ini := false) (by decide) rfl (by decide) rfl (Nat.le_of_ble_eq_true rfl) ?_
  refine x_aload_n dX7_isFast_0 0 rfl rfl ?_
  refine x_bipush 82 dX7_isFast_1 (by decide) ?_
  refine x_iald 82 (q0 := 0) dX7_isFast_3 (by decide) rfl (by decide) ?_
  refine x_iload_n dX7_isFast_4 1 rfl rfl ?_
  refine x_cS (As := [.int (c 82), .int x1]) (wc := ([] : va_W)) (w1 := ([] : va_W)) (pre := []) (post := (WArr G aq 85 c)) (rest := []) (st1 := [.int (M_X7_has (c 82) x1)]) (ws1 := (WArr G aq 85 c)) dX7_isFast_5 (c_X7_has rfl) pk_X7_has ml_X7_130 rfl rfl rfl rfl rfl rfl rfl ?_
  refine x_if_ne 26 dX7_isFast_8 (by decide) (fun c1 => ?_) (fun c1 => ?_)
  · have h := x_neg c1 h
    refine x_iconst 0 dX7_isFast_26 (by decide) ?_
    subst h
    exact x_ireturn dX7_isFast_27 rfl (x_is.rf _ _)
  · have h := x_pos c1 h
    refine x_aload_n dX7_isFast_11 0 rfl rfl ?_
    refine x_bipush 83 dX7_isFast_12 (by decide) ?_
    refine x_iald 83 (q0 := 0) dX7_isFast_14 (by decide) rfl (by decide) ?_
    refine x_iload_n dX7_isFast_15 1 rfl rfl ?_
    refine x_cS (As := [.int (c 83), .int x1]) (wc := ([] : va_W)) (w1 := ([] : va_W)) (pre := []) (post := (WArr G aq 85 c)) (rest := []) (st1 := [.int (M_X7_has (c 83) x1)]) (ws1 := (WArr G aq 85 c)) dX7_isFast_16 (c_X7_has rfl) pk_X7_has ml_X7_130 rfl rfl rfl rfl rfl rfl rfl ?_
    refine x_if_ne 26 dX7_isFast_19 (by decide) (fun c2 => ?_) (fun c2 => ?_)
    · have h := x_neg c2 h
      refine x_iconst 0 dX7_isFast_26 (by decide) ?_
      subst h
      exact x_ireturn dX7_isFast_27 rfl (x_is.rf _ _)
    · have h := x_pos c2 h
      refine x_iconst 1 dX7_isFast_22 (by decide) ?_
      refine x_goto 27 dX7_isFast_23 (by decide) ?_
      subst h
      exact x_ireturn dX7_isFast_27 rfl (x_is.rf _ _)
theorem pk_X7_goHaul : x_pv RX7 yX7_goHaul cX7_goHaul 8 (some .int) 3 := ⟨⟨co_X7_goHaul, ni_X7, by decide, by decide +kernel⟩, im_X7_goHaul, se_X7_goHaul⟩
def M_X7_goHaul_now_b172 (k39 : (Nat → Int32) → Int32 → Int32 → Int32 → Int32 → Option (Int32 × (Nat → Int32) × Int32)) (now : (Nat → Int32)) (partedBy : Int32) (x5 : Int32) (x6 : Int32) (s0 : Int32) : Option (Int32 × (Nat → Int32) × Int32) :=
  k39 now partedBy s0 x5 x6
set_option maxHeartbeats 4000000 in
set_option maxRecDepth 100000 in
theorem w_X7_goHaul_now_b172 {G : x_G} {l : Launch} {a : Nat → Nat} {kept : (Nat → Int32)} {isKept : (Nat → Int32)} {rows : (Nat → Int32)} {rowLong : (Nat → Int32)} {texts : (Nat → Int32)} {textLong : (Nat → Int32)} {found : (Nat → Int32)} {taken : (Nat → Int32)} {anew : (Nat → Int32)} {hand : (Nat → Int32)} {steps : (Nat → Int32)} {shares : (Nat → Int32)} {choices : (Nat → Int32)} {values : (Nat → Int32)} {latest : Int32} {askedIs : Int32} {above : Int64} {below : Int64} {place : Int32} {k39 : (Nat → Int32) → Int32 → Int32 → Int32 → Int32 → Option (Int32 × (Nat → Int32) × Int32)} {res : Int32 × (Nat → Int32) × Int32} (hk39 : ∀ (now : (Nat → Int32)) (partedBy : Int32) (x4 : Int32) (x5 : Int32) (x6 : Int32), k39 now partedBy x4 x5 x6 = some res → X G l RX7 cX7_goHaul 8 (x_R 2 0 0) (x_Cm G (some .int) false (x_is (some (.int res.1)) (WModel G a res.2.1 kept isKept rows rowLong texts textLong found taken anew hand steps shares choices values latest askedIs above below place res.2.2)) 0 0) 0 0 39 [(0, .ref (a 0)), (1, .ref (a 1)), (4, .int x4), (5, .int x5), (6, .int x6)] [] (WModel G a now kept isKept rows rowLong texts textLong found taken anew hand steps shares choices values latest askedIs above below place partedBy)) (now : (Nat → Int32)) (partedBy : Int32) (x5 : Int32) (x6 : Int32) (s0 : Int32) (h : M_X7_goHaul_now_b172 k39 now partedBy x5 x6 s0 = some res) : X G l RX7 cX7_goHaul 8 (x_R 2 0 0) (x_Cm G (some .int) false (x_is (some (.int res.1)) (WModel G a res.2.1 kept isKept rows rowLong texts textLong found taken anew hand steps shares choices values latest askedIs above below place res.2.2)) 0 0) 0 0 172 [(0, .ref (a 0)), (1, .ref (a 1)), (5, .int x5), (6, .int x6)] [.int s0] (WModel G a now kept isKept rows rowLong texts textLong found taken anew hand steps shares choices values latest askedIs above below place partedBy) := by
  unfold M_X7_goHaul_now_b172 at h
  refine x_istore [(4, .int s0), (0, .ref (a 0)), (1, .ref (a 1)), (5, .int x5), (6, .int x6)] dX7_goHaul_172 (by decide) rfl ?_
  refine x_goto 39 dX7_goHaul_174 (by decide) ?_
  refine x_lv [1, 2, 0, 3, 4] rfl ?_
  exact hk39 _ _ _ _ _ h
def M_X7_goHaul_now_b170 (k39 : (Nat → Int32) → Int32 → Int32 → Int32 → Int32 → Option (Int32 × (Nat → Int32) × Int32)) (now : (Nat → Int32)) (partedBy : Int32) (x5 : Int32) (x6 : Int32) : Option (Int32 × (Nat → Int32) × Int32) :=
  M_X7_goHaul_now_b172 k39 now partedBy x5 x6 (-9 : Int32)
set_option maxHeartbeats 4000000 in
set_option maxRecDepth 100000 in
theorem w_X7_goHaul_now_b170 {G : x_G} {l : Launch} {a : Nat → Nat} {kept : (Nat → Int32)} {isKept : (Nat → Int32)} {rows : (Nat → Int32)} {rowLong : (Nat → Int32)} {texts : (Nat → Int32)} {textLong : (Nat → Int32)} {found : (Nat → Int32)} {taken : (Nat → Int32)} {anew : (Nat → Int32)} {hand : (Nat → Int32)} {steps : (Nat → Int32)} {shares : (Nat → Int32)} {choices : (Nat → Int32)} {values : (Nat → Int32)} {latest : Int32} {askedIs : Int32} {above : Int64} {below : Int64} {place : Int32} {k39 : (Nat → Int32) → Int32 → Int32 → Int32 → Int32 → Option (Int32 × (Nat → Int32) × Int32)} {res : Int32 × (Nat → Int32) × Int32} (hk39 : ∀ (now : (Nat → Int32)) (partedBy : Int32) (x4 : Int32) (x5 : Int32) (x6 : Int32), k39 now partedBy x4 x5 x6 = some res → X G l RX7 cX7_goHaul 8 (x_R 2 0 0) (x_Cm G (some .int) false (x_is (some (.int res.1)) (WModel G a res.2.1 kept isKept rows rowLong texts textLong found taken anew hand steps shares choices values latest askedIs above below place res.2.2)) 0 0) 0 0 39 [(0, .ref (a 0)), (1, .ref (a 1)), (4, .int x4), (5, .int x5), (6, .int x6)] [] (WModel G a now kept isKept rows rowLong texts textLong found taken anew hand steps shares choices values latest askedIs above below place partedBy)) (now : (Nat → Int32)) (partedBy : Int32) (x5 : Int32) (x6 : Int32) (h : M_X7_goHaul_now_b170 k39 now partedBy x5 x6 = some res) : X G l RX7 cX7_goHaul 8 (x_R 2 0 0) (x_Cm G (some .int) false (x_is (some (.int res.1)) (WModel G a res.2.1 kept isKept rows rowLong texts textLong found taken anew hand steps shares choices values latest askedIs above below place res.2.2)) 0 0) 0 0 170 [(0, .ref (a 0)), (1, .ref (a 1)), (5, .int x5), (6, .int x6)] [] (WModel G a now kept isKept rows rowLong texts textLong found taken anew hand steps shares choices values latest askedIs above below place partedBy) := by
  unfold M_X7_goHaul_now_b170 at h
  refine x_bipush (-9 : Int32) dX7_goHaul_170 (by decide) ?_
  exact w_X7_goHaul_now_b172 hk39 _ _ _ _ _ h
def M_X7_goHaul_now_b121 (k39 : (Nat → Int32) → Int32 → Int32 → Int32 → Int32 → Option (Int32 × (Nat → Int32) × Int32)) (now : (Nat → Int32)) (partedBy : Int32) (x4 : Int32) (x5 : Int32) (x6 : Int32) (x7 : Int32) : Option (Int32 × (Nat → Int32) × Int32) :=
  if inb ((2 : Int32) + x4) 85 then
  if x7 = (-9 : Int32) then
  (M_X7_goHaul_now_b170 k39 now partedBy (M_X7_passesAs (now ((2 : Int32) + x4).toNatClampNeg) x5) x6)
  else
  (if (M_X7_passesAs (now ((2 : Int32) + x4).toNatClampNeg) x5) ≤ 0 then
  (M_X7_goHaul_now_b170 k39 now partedBy (M_X7_passesAs (now ((2 : Int32) + x4).toNatClampNeg) x5) x6)
  else
  (if (M_X7_isFast_85 now x7) = 0 then
  (M_X7_goHaul_now_b170 k39 now partedBy (M_X7_passesAs (now ((2 : Int32) + x4).toNatClampNeg) x5) x6)
  else
  (if (M_X7_has x6 x7) = 0 then
  (M_X7_goHaul_now_b172 k39 now partedBy (M_X7_passesAs (now ((2 : Int32) + x4).toNatClampNeg) x5) x6 x7)
  else
  (M_X7_goHaul_now_b170 k39 now partedBy (M_X7_passesAs (now ((2 : Int32) + x4).toNatClampNeg) x5) x6))))
  else none
set_option maxHeartbeats 4000000 in
set_option maxRecDepth 100000 in
theorem w_X7_goHaul_now_b121 {G : x_G} {l : Launch} {a : Nat → Nat} {kept : (Nat → Int32)} {isKept : (Nat → Int32)} {rows : (Nat → Int32)} {rowLong : (Nat → Int32)} {texts : (Nat → Int32)} {textLong : (Nat → Int32)} {found : (Nat → Int32)} {taken : (Nat → Int32)} {anew : (Nat → Int32)} {hand : (Nat → Int32)} {steps : (Nat → Int32)} {shares : (Nat → Int32)} {choices : (Nat → Int32)} {values : (Nat → Int32)} {latest : Int32} {askedIs : Int32} {above : Int64} {below : Int64} {place : Int32} {k39 : (Nat → Int32) → Int32 → Int32 → Int32 → Int32 → Option (Int32 × (Nat → Int32) × Int32)} {res : Int32 × (Nat → Int32) × Int32} (hk39 : ∀ (now : (Nat → Int32)) (partedBy : Int32) (x4 : Int32) (x5 : Int32) (x6 : Int32), k39 now partedBy x4 x5 x6 = some res → X G l RX7 cX7_goHaul 8 (x_R 2 0 0) (x_Cm G (some .int) false (x_is (some (.int res.1)) (WModel G a res.2.1 kept isKept rows rowLong texts textLong found taken anew hand steps shares choices values latest askedIs above below place res.2.2)) 0 0) 0 0 39 [(0, .ref (a 0)), (1, .ref (a 1)), (4, .int x4), (5, .int x5), (6, .int x6)] [] (WModel G a now kept isKept rows rowLong texts textLong found taken anew hand steps shares choices values latest askedIs above below place partedBy)) (now : (Nat → Int32)) (partedBy : Int32) (x4 : Int32) (x5 : Int32) (x6 : Int32) (x7 : Int32) (h : M_X7_goHaul_now_b121 k39 now partedBy x4 x5 x6 x7 = some res) : X G l RX7 cX7_goHaul 8 (x_R 2 0 0) (x_Cm G (some .int) false (x_is (some (.int res.1)) (WModel G a res.2.1 kept isKept rows rowLong texts textLong found taken anew hand steps shares choices values latest askedIs above below place res.2.2)) 0 0) 0 0 121 [(0, .ref (a 0)), (1, .ref (a 1)), (4, .int x4), (5, .int x5), (6, .int x6), (7, .int x7)] [] (WModel G a now kept isKept rows rowLong texts textLong found taken anew hand steps shares choices values latest askedIs above below place partedBy) := by
  unfold M_X7_goHaul_now_b121 at h
  refine x_aload_n dX7_goHaul_121 1 rfl rfl ?_
  refine x_iconst 2 dX7_goHaul_122 (by decide) ?_
  refine x_iload dX7_goHaul_123 2 rfl ?_
  refine x_iadd dX7_goHaul_125 ?_
  obtain ⟨b8, h⟩ := x_guard h
  refine x_iald ((2 : Int32) + x4).toNatClampNeg (q0 := 1) dX7_goHaul_126 rfl rfl b8 ?_
  refine x_iload dX7_goHaul_127 3 rfl ?_
  refine x_cS (As := [.int (now ((2 : Int32) + x4).toNatClampNeg), .int x5]) (wc := ([] : va_W)) (w1 := ([] : va_W)) (pre := []) (post := (WModel G a now kept isKept rows rowLong texts textLong found taken anew hand steps shares choices values latest askedIs above below place partedBy)) (rest := []) (st1 := [.int (M_X7_passesAs (now ((2 : Int32) + x4).toNatClampNeg) x5)]) (ws1 := (WModel G a now kept isKept rows rowLong texts textLong found taken anew hand steps shares choices values latest askedIs above below place partedBy)) dX7_goHaul_129 (c_X7_passesAs rfl) pk_X7_passesAs ml_X7_140 rfl rfl rfl rfl rfl rfl rfl ?_
  refine x_istore [(5, .int (M_X7_passesAs (now ((2 : Int32) + x4).toNatClampNeg) x5)), (0, .ref (a 0)), (1, .ref (a 1)), (4, .int x4), (6, .int x6), (7, .int x7)] dX7_goHaul_132 (by decide) rfl ?_
  refine x_iload dX7_goHaul_134 5 rfl ?_
  refine x_bipush (-9 : Int32) dX7_goHaul_136 (by decide) ?_
  refine x_icmp_eq 170 dX7_goHaul_138 (by decide) (fun c9 => ?_) (fun c9 => ?_)
  · have h := x_pos c9 h
    refine x_lv [1, 2, 0, 4] rfl ?_
    exact w_X7_goHaul_now_b170 hk39 _ _ _ _ h
  · have h := x_neg c9 h
    refine x_iload dX7_goHaul_141 0 rfl ?_
    refine x_if_le 170 dX7_goHaul_143 (by decide) (fun c10 => ?_) (fun c10 => ?_)
    · have h := x_pos c10 h
      refine x_lv [1, 2, 0, 4] rfl ?_
      exact w_X7_goHaul_now_b170 hk39 _ _ _ _ h
    · have h := x_neg c10 h
      refine x_aload_n dX7_goHaul_146 2 rfl rfl ?_
      refine x_iload dX7_goHaul_147 5 rfl ?_
      refine x_cS (As := [.ref (a 1), .int x7]) (wc := (WArr G (fun k => a (1 + k)) 85 now)) (w1 := (WArr G (fun k => a (1 + k)) 85 now)) (pre := ((WModel G a now kept isKept rows rowLong texts textLong found taken anew hand steps shares choices values latest askedIs above below place partedBy).take 1)) (post := ((WModel G a now kept isKept rows rowLong texts textLong found taken anew hand steps shares choices values latest askedIs above below place partedBy).drop 2)) (rest := []) (st1 := [.int (M_X7_isFast_85 now x7)]) (ws1 := (WModel G a now kept isKept rows rowLong texts textLong found taken anew hand steps shares choices values latest askedIs above below place partedBy)) dX7_goHaul_149 (c_X7_isFast_85 (aq := (fun k => a (1 + k))) rfl) pk_X7_isFast ml_X7_143 rfl rfl rfl rfl rfl rfl rfl ?_
      refine x_if_eq 170 dX7_goHaul_152 (by decide) (fun c11 => ?_) (fun c11 => ?_)
      · have h := x_pos c11 h
        refine x_lv [1, 2, 0, 4] rfl ?_
        exact w_X7_goHaul_now_b170 hk39 _ _ _ _ h
      · have h := x_neg c11 h
        refine x_iload dX7_goHaul_155 4 rfl ?_
        refine x_iload dX7_goHaul_157 5 rfl ?_
        refine x_cS (As := [.int x6, .int x7]) (wc := ([] : va_W)) (w1 := ([] : va_W)) (pre := []) (post := (WModel G a now kept isKept rows rowLong texts textLong found taken anew hand steps shares choices values latest askedIs above below place partedBy)) (rest := []) (st1 := [.int (M_X7_has x6 x7)]) (ws1 := (WModel G a now kept isKept rows rowLong texts textLong found taken anew hand steps shares choices values latest askedIs above below place partedBy)) dX7_goHaul_159 (c_X7_has rfl) pk_X7_has ml_X7_130 rfl rfl rfl rfl rfl rfl rfl ?_
        refine x_if_ne 170 dX7_goHaul_162 (by decide) (fun c12 => ?_) (fun c12 => ?_)
        · have h := x_neg c12 h
          refine x_lv [1, 2, 0, 4] rfl ?_
          exact w_X7_goHaul_now_b170 hk39 _ _ _ _ h
        · have h := x_pos c12 h
          refine x_iload dX7_goHaul_165 5 rfl ?_
          refine x_goto 172 dX7_goHaul_167 (by decide) ?_
          refine x_lv [1, 2, 0, 4] rfl ?_
          exact w_X7_goHaul_now_b172 hk39 _ _ _ _ _ h
def M_X7_goHaul_now_b76 (k39 : (Nat → Int32) → Int32 → Int32 → Int32 → Int32 → Option (Int32 × (Nat → Int32) × Int32)) (now : (Nat → Int32)) (partedBy : Int32) (x4 : Int32) (x5 : Int32) (x6 : Int32) (x7 : Int32) : Option (Int32 × (Nat → Int32) × Int32) :=
  if inb ((76 : Int32) + x4) 85 then
  (M_X7_holdsOf_85 now x4).bind fun r5 =>
  if (now ((76 : Int32) + x4).toNatClampNeg) ≤ r5 then
  (M_X7_goHaul_now_b121 k39 now partedBy x4 x5 x6 x7)
  else
  (M_X7_goHaul_now_b121 k39 (upd (upd now ((76 : Int32) + x4).toNatClampNeg (0 : Int32)) 83 (((upd now ((76 : Int32) + x4).toNatClampNeg (0 : Int32)) 83) ||| ((1 : Int32) <<< (x4 &&& (31 : Int32))))) x4 x4 x5 x6 (-9 : Int32))
  else none
set_option maxHeartbeats 4000000 in
set_option maxRecDepth 100000 in
theorem w_X7_goHaul_now_b76 {G : x_G} {l : Launch} {a : Nat → Nat} {kept : (Nat → Int32)} {isKept : (Nat → Int32)} {rows : (Nat → Int32)} {rowLong : (Nat → Int32)} {texts : (Nat → Int32)} {textLong : (Nat → Int32)} {found : (Nat → Int32)} {taken : (Nat → Int32)} {anew : (Nat → Int32)} {hand : (Nat → Int32)} {steps : (Nat → Int32)} {shares : (Nat → Int32)} {choices : (Nat → Int32)} {values : (Nat → Int32)} {latest : Int32} {askedIs : Int32} {above : Int64} {below : Int64} {place : Int32} {k39 : (Nat → Int32) → Int32 → Int32 → Int32 → Int32 → Option (Int32 × (Nat → Int32) × Int32)} {res : Int32 × (Nat → Int32) × Int32} (hk39 : ∀ (now : (Nat → Int32)) (partedBy : Int32) (x4 : Int32) (x5 : Int32) (x6 : Int32), k39 now partedBy x4 x5 x6 = some res → X G l RX7 cX7_goHaul 8 (x_R 2 0 0) (x_Cm G (some .int) false (x_is (some (.int res.1)) (WModel G a res.2.1 kept isKept rows rowLong texts textLong found taken anew hand steps shares choices values latest askedIs above below place res.2.2)) 0 0) 0 0 39 [(0, .ref (a 0)), (1, .ref (a 1)), (4, .int x4), (5, .int x5), (6, .int x6)] [] (WModel G a now kept isKept rows rowLong texts textLong found taken anew hand steps shares choices values latest askedIs above below place partedBy)) (now : (Nat → Int32)) (partedBy : Int32) (x4 : Int32) (x5 : Int32) (x6 : Int32) (x7 : Int32) (h : M_X7_goHaul_now_b76 k39 now partedBy x4 x5 x6 x7 = some res) : X G l RX7 cX7_goHaul 8 (x_R 2 0 0) (x_Cm G (some .int) false (x_is (some (.int res.1)) (WModel G a res.2.1 kept isKept rows rowLong texts textLong found taken anew hand steps shares choices values latest askedIs above below place res.2.2)) 0 0) 0 0 76 [(0, .ref (a 0)), (1, .ref (a 1)), (4, .int x4), (5, .int x5), (6, .int x6), (7, .int x7)] [] (WModel G a now kept isKept rows rowLong texts textLong found taken anew hand steps shares choices values latest askedIs above below place partedBy) := by
  unfold M_X7_goHaul_now_b76 at h
  refine x_aload_n dX7_goHaul_76 1 rfl rfl ?_
  refine x_bipush 76 dX7_goHaul_77 (by decide) ?_
  refine x_iload dX7_goHaul_79 2 rfl ?_
  refine x_iadd dX7_goHaul_81 ?_
  obtain ⟨b4, h⟩ := x_guard h
  refine x_iald ((76 : Int32) + x4).toNatClampNeg (q0 := 1) dX7_goHaul_82 rfl rfl b4 ?_
  refine x_aload_n dX7_goHaul_83 1 rfl rfl ?_
  refine x_iload dX7_goHaul_84 2 rfl ?_
  obtain ⟨r5, e6, h⟩ := x_bind h
  refine x_cS (As := [.ref (a 1), .int x4]) (wc := (WArr G (fun k => a (1 + k)) 85 now)) (w1 := (WArr G (fun k => a (1 + k)) 85 now)) (pre := ((WModel G a now kept isKept rows rowLong texts textLong found taken anew hand steps shares choices values latest askedIs above below place partedBy).take 1)) (post := ((WModel G a now kept isKept rows rowLong texts textLong found taken anew hand steps shares choices values latest askedIs above below place partedBy).drop 2)) (rest := [.int (now ((76 : Int32) + x4).toNatClampNeg)]) (st1 := [.int r5, .int (now ((76 : Int32) + x4).toNatClampNeg)]) (ws1 := (WModel G a now kept isKept rows rowLong texts textLong found taken anew hand steps shares choices values latest askedIs above below place partedBy)) dX7_goHaul_86 (c_X7_holdsOf_85 (aq := (fun k => a (1 + k))) e6) pk_X7_holdsOf ml_X7_136 rfl rfl rfl rfl rfl rfl rfl ?_
  refine x_icmp_le 121 dX7_goHaul_89 (by decide) (fun c7 => ?_) (fun c7 => ?_)
  · have h := x_pos c7 h
    exact w_X7_goHaul_now_b121 hk39 _ _ _ _ _ _ h
  · have h := x_neg c7 h
    refine x_aload_n dX7_goHaul_92 1 rfl rfl ?_
    refine x_bipush 76 dX7_goHaul_93 (by decide) ?_
    refine x_iload dX7_goHaul_95 2 rfl ?_
    refine x_iadd dX7_goHaul_97 ?_
    refine x_iconst 0 dX7_goHaul_98 (by decide) ?_
    refine x_iast ((76 : Int32) + x4).toNatClampNeg (q0 := 1) (WModel G a ((upd now ((76 : Int32) + x4).toNatClampNeg (0 : Int32))) kept isKept rows rowLong texts textLong found taken anew hand steps shares choices values latest askedIs above below place partedBy) dX7_goHaul_99 rfl rfl b4 rfl ?_
    refine x_aload_n dX7_goHaul_100 1 rfl rfl ?_
    refine x_bipush 83 dX7_goHaul_101 (by decide) ?_
    refine x_dup2 dX7_goHaul_103 rfl rfl ?_
    refine x_iald 83 (q0 := 1) dX7_goHaul_104 (by decide) rfl (by decide) ?_
    refine x_iconst 1 dX7_goHaul_105 (by decide) ?_
    refine x_iload dX7_goHaul_106 2 rfl ?_
    refine x_ishl dX7_goHaul_108 ?_
    refine x_ior dX7_goHaul_109 ?_
    refine x_iast 83 (q0 := 1) (WModel G a ((upd (upd now ((76 : Int32) + x4).toNatClampNeg (0 : Int32)) 83 (((upd now ((76 : Int32) + x4).toNatClampNeg (0 : Int32)) 83) ||| ((1 : Int32) <<< (x4 &&& (31 : Int32)))))) kept isKept rows rowLong texts textLong found taken anew hand steps shares choices values latest askedIs above below place partedBy) dX7_goHaul_110 (by decide) rfl (by decide) rfl ?_
    refine x_aload_n dX7_goHaul_111 0 rfl rfl ?_
    refine x_iload dX7_goHaul_112 2 rfl ?_
    refine x_put (ci := 5) (ty := .int) 15 0 (WModel G a ((upd (upd now ((76 : Int32) + x4).toNatClampNeg (0 : Int32)) 83 (((upd now ((76 : Int32) + x4).toNatClampNeg (0 : Int32)) 83) ||| ((1 : Int32) <<< (x4 &&& (31 : Int32)))))) kept isKept rows rowLong texts textLong found taken anew hand steps shares choices values latest askedIs above below place x4) dX7_goHaul_114 fl_X7_133 inX7 tyX7_ok nmX7 rfl (by decide) ⟨rfl, rfl, rfl, rfl, rfl⟩ rfl rfl rfl rfl rfl ?_
    refine x_bipush (-9 : Int32) dX7_goHaul_117 (by decide) ?_
    refine x_istore [(7, .int (-9 : Int32)), (0, .ref (a 0)), (1, .ref (a 1)), (4, .int x4), (5, .int x5), (6, .int x6)] dX7_goHaul_119 (by decide) rfl ?_
    refine x_lv [1, 2, 3, 4, 5, 0] rfl ?_
    exact w_X7_goHaul_now_b121 hk39 _ _ _ _ _ _ h
def M_X7_goHaul_now_b39 : Nat → (Nat → Int32) → Int32 → Int32 → Int32 → Int32 → Option (Int32 × (Nat → Int32) × Int32)
  | 0, _, _, _, _, _ => none
  | n + 1, now, partedBy, x4, x5, x6 =>
    if x4 = (-9 : Int32) then
    (some (x6, now, partedBy))
    else
    (if inb ((76 : Int32) + x4) 85 then
    if inb ((14 : Int32) + x4) 85 then
    M_X7_goHaul_now_b76 (fun (now' : (Nat → Int32)) (partedBy' : Int32) (x4' : Int32) (x5' : Int32) (x6' : Int32) => M_X7_goHaul_now_b39 n now' partedBy' x4' x5' x6') (upd now ((76 : Int32) + x4).toNatClampNeg ((now ((76 : Int32) + x4).toNatClampNeg) + x5)) partedBy x4 x5 (x6 ||| ((1 : Int32) <<< (x4 &&& (31 : Int32)))) ((upd now ((76 : Int32) + x4).toNatClampNeg ((now ((76 : Int32) + x4).toNatClampNeg) + x5)) ((14 : Int32) + x4).toNatClampNeg)
    else none
    else none)
set_option maxHeartbeats 4000000 in
set_option maxRecDepth 100000 in
theorem w_X7_goHaul_now_b39 {G : x_G} {l : Launch} {a : Nat → Nat} {kept : (Nat → Int32)} {isKept : (Nat → Int32)} {rows : (Nat → Int32)} {rowLong : (Nat → Int32)} {texts : (Nat → Int32)} {textLong : (Nat → Int32)} {found : (Nat → Int32)} {taken : (Nat → Int32)} {anew : (Nat → Int32)} {hand : (Nat → Int32)} {steps : (Nat → Int32)} {shares : (Nat → Int32)} {choices : (Nat → Int32)} {values : (Nat → Int32)} {latest : Int32} {askedIs : Int32} {above : Int64} {below : Int64} {place : Int32} {res : Int32 × (Nat → Int32) × Int32} : ∀ (n : Nat) (now : (Nat → Int32)) (partedBy : Int32) (x4 : Int32) (x5 : Int32) (x6 : Int32), M_X7_goHaul_now_b39 n now partedBy x4 x5 x6 = some res → X G l RX7 cX7_goHaul 8 (x_R 2 0 0) (x_Cm G (some .int) false (x_is (some (.int res.1)) (WModel G a res.2.1 kept isKept rows rowLong texts textLong found taken anew hand steps shares choices values latest askedIs above below place res.2.2)) 0 0) 0 0 39 [(0, .ref (a 0)), (1, .ref (a 1)), (4, .int x4), (5, .int x5), (6, .int x6)] [] (WModel G a now kept isKept rows rowLong texts textLong found taken anew hand steps shares choices values latest askedIs above below place partedBy) := by
  intro n
  induction n with
  | zero =>
    intro _ _ _ _ _ h
    cases h
  | succ n ih =>
    intro now partedBy x4 x5 x6 h
    rw [M_X7_goHaul_now_b39] at h
    refine x_iload dX7_goHaul_39 2 rfl ?_
    refine x_bipush (-9 : Int32) dX7_goHaul_41 (by decide) ?_
    refine x_icmp_eq 177 dX7_goHaul_43 (by decide) (fun c1 => ?_) (fun c1 => ?_)
    · have h := x_pos c1 h
      refine x_iload dX7_goHaul_177 4 rfl ?_
      cases h
      exact x_ireturn dX7_goHaul_179 rfl (x_is.rf _ _)
    · have h := x_neg c1 h
      refine x_iload dX7_goHaul_46 4 rfl ?_
      refine x_iconst 1 dX7_goHaul_48 (by decide) ?_
      refine x_iload dX7_goHaul_49 2 rfl ?_
      refine x_ishl dX7_goHaul_51 ?_
      refine x_ior dX7_goHaul_52 ?_
      refine x_istore [(6, .int (x6 ||| ((1 : Int32) <<< (x4 &&& (31 : Int32))))), (0, .ref (a 0)), (1, .ref (a 1)), (4, .int x4), (5, .int x5)] dX7_goHaul_53 (by decide) rfl ?_
      refine x_aload_n dX7_goHaul_55 2 rfl rfl ?_
      refine x_bipush 76 dX7_goHaul_56 (by decide) ?_
      refine x_iload dX7_goHaul_58 3 rfl ?_
      refine x_iadd dX7_goHaul_60 ?_
      refine x_dup2 dX7_goHaul_61 rfl rfl ?_
      obtain ⟨b2, h⟩ := x_guard h
      refine x_iald ((76 : Int32) + x4).toNatClampNeg (q0 := 1) dX7_goHaul_62 rfl rfl b2 ?_
      refine x_iload dX7_goHaul_63 4 rfl ?_
      refine x_iadd dX7_goHaul_65 ?_
      refine x_iast ((76 : Int32) + x4).toNatClampNeg (q0 := 1) (WModel G a ((upd now ((76 : Int32) + x4).toNatClampNeg ((now ((76 : Int32) + x4).toNatClampNeg) + x5))) kept isKept rows rowLong texts textLong found taken anew hand steps shares choices values latest askedIs above below place partedBy) dX7_goHaul_66 rfl rfl b2 rfl ?_
      refine x_aload_n dX7_goHaul_67 2 rfl rfl ?_
      refine x_bipush 14 dX7_goHaul_68 (by decide) ?_
      refine x_iload dX7_goHaul_70 3 rfl ?_
      refine x_iadd dX7_goHaul_72 ?_
      obtain ⟨b3, h⟩ := x_guard h
      refine x_iald ((14 : Int32) + x4).toNatClampNeg (q0 := 1) dX7_goHaul_73 rfl rfl b3 ?_
      refine x_istore [(7, .int ((upd now ((76 : Int32) + x4).toNatClampNeg ((now ((76 : Int32) + x4).toNatClampNeg) + x5)) ((14 : Int32) + x4).toNatClampNeg)), (6, .int (x6 ||| ((1 : Int32) <<< (x4 &&& (31 : Int32))))), (0, .ref (a 0)), (1, .ref (a 1)), (4, .int x4), (5, .int x5)] dX7_goHaul_74 (by decide) rfl ?_
      refine x_lv [2, 3, 4, 5, 1, 0] rfl ?_
      exact w_X7_goHaul_now_b76 (fun now' partedBy' x4' x5' x6' h => ih now' partedBy' x4' x5' x6' h) _ _ _ _ _ _ h
def M_X7_goHaul_now_b27 (now : (Nat → Int32)) (partedBy : Int32) (x4 : Int32) (s0 : Int32) (s1 : Int32) : Option (Int32 × (Nat → Int32) × Int32) :=
  M_X7_goHaul_now_b39 x_fuel now (-9 : Int32) x4 (s0 + s1) (0 : Int32)
set_option maxHeartbeats 4000000 in
set_option maxRecDepth 100000 in
theorem w_X7_goHaul_now_b27 {G : x_G} {l : Launch} {a : Nat → Nat} {kept : (Nat → Int32)} {isKept : (Nat → Int32)} {rows : (Nat → Int32)} {rowLong : (Nat → Int32)} {texts : (Nat → Int32)} {textLong : (Nat → Int32)} {found : (Nat → Int32)} {taken : (Nat → Int32)} {anew : (Nat → Int32)} {hand : (Nat → Int32)} {steps : (Nat → Int32)} {shares : (Nat → Int32)} {choices : (Nat → Int32)} {values : (Nat → Int32)} {latest : Int32} {askedIs : Int32} {above : Int64} {below : Int64} {place : Int32} {res : Int32 × (Nat → Int32) × Int32} (now : (Nat → Int32)) (partedBy : Int32) (x4 : Int32) (s0 : Int32) (s1 : Int32) (h : M_X7_goHaul_now_b27 now partedBy x4 s0 s1 = some res) : X G l RX7 cX7_goHaul 8 (x_R 2 0 0) (x_Cm G (some .int) false (x_is (some (.int res.1)) (WModel G a res.2.1 kept isKept rows rowLong texts textLong found taken anew hand steps shares choices values latest askedIs above below place res.2.2)) 0 0) 0 0 27 [(0, .ref (a 0)), (1, .ref (a 1)), (4, .int x4)] [.int s1, .int s0] (WModel G a now kept isKept rows rowLong texts textLong found taken anew hand steps shares choices values latest askedIs above below place partedBy) := by
  unfold M_X7_goHaul_now_b27 at h
  refine x_iadd dX7_goHaul_27 ?_
  refine x_istore [(5, .int (s0 + s1)), (0, .ref (a 0)), (1, .ref (a 1)), (4, .int x4)] dX7_goHaul_28 (by decide) rfl ?_
  refine x_iconst 0 dX7_goHaul_30 (by decide) ?_
  refine x_istore [(6, .int (0 : Int32)), (5, .int (s0 + s1)), (0, .ref (a 0)), (1, .ref (a 1)), (4, .int x4)] dX7_goHaul_31 (by decide) rfl ?_
  refine x_aload_n dX7_goHaul_33 2 rfl rfl ?_
  refine x_bipush (-9 : Int32) dX7_goHaul_34 (by decide) ?_
  refine x_put (ci := 5) (ty := .int) 15 0 (WModel G a now kept isKept rows rowLong texts textLong found taken anew hand steps shares choices values latest askedIs above below place ((-9 : Int32))) dX7_goHaul_36 fl_X7_133 inX7 tyX7_ok nmX7 rfl (by decide) ⟨rfl, rfl, rfl, rfl, rfl⟩ rfl rfl rfl rfl rfl ?_
  refine x_lv [2, 3, 4, 1, 0] rfl ?_
  exact w_X7_goHaul_now_b39  _ _ _ _ _ _ h
def M_X7_goHaul_now_b26 (now : (Nat → Int32)) (partedBy : Int32) (x4 : Int32) (s0 : Int32) : Option (Int32 × (Nat → Int32) × Int32) :=
  M_X7_goHaul_now_b27 now partedBy x4 s0 (0 : Int32)
set_option maxHeartbeats 4000000 in
set_option maxRecDepth 100000 in
theorem w_X7_goHaul_now_b26 {G : x_G} {l : Launch} {a : Nat → Nat} {kept : (Nat → Int32)} {isKept : (Nat → Int32)} {rows : (Nat → Int32)} {rowLong : (Nat → Int32)} {texts : (Nat → Int32)} {textLong : (Nat → Int32)} {found : (Nat → Int32)} {taken : (Nat → Int32)} {anew : (Nat → Int32)} {hand : (Nat → Int32)} {steps : (Nat → Int32)} {shares : (Nat → Int32)} {choices : (Nat → Int32)} {values : (Nat → Int32)} {latest : Int32} {askedIs : Int32} {above : Int64} {below : Int64} {place : Int32} {res : Int32 × (Nat → Int32) × Int32} (now : (Nat → Int32)) (partedBy : Int32) (x4 : Int32) (s0 : Int32) (h : M_X7_goHaul_now_b26 now partedBy x4 s0 = some res) : X G l RX7 cX7_goHaul 8 (x_R 2 0 0) (x_Cm G (some .int) false (x_is (some (.int res.1)) (WModel G a res.2.1 kept isKept rows rowLong texts textLong found taken anew hand steps shares choices values latest askedIs above below place res.2.2)) 0 0) 0 0 26 [(0, .ref (a 0)), (1, .ref (a 1)), (4, .int x4)] [.int s0] (WModel G a now kept isKept rows rowLong texts textLong found taken anew hand steps shares choices values latest askedIs above below place partedBy) := by
  unfold M_X7_goHaul_now_b26 at h
  refine x_iconst 0 dX7_goHaul_26 (by decide) ?_
  exact w_X7_goHaul_now_b27  _ _ _ _ _ h
def M_X7_goHaul_now (now : (Nat → Int32)) (partedBy : Int32) (x2 : Int32) (x3 : Int32) : Option (Int32 × (Nat → Int32) × Int32) :=
  if (now 84) = (1 : Int32) then
  (if inb ((2 : Int32) + x2) 85 then
  if (now ((2 : Int32) + x2).toNatClampNeg) = (4 : Int32) then
  (M_X7_goHaul_now_b26 now partedBy x2 x3)
  else
  (M_X7_goHaul_now_b27 now partedBy x2 x3 (1 : Int32))
  else none)
  else
  (M_X7_goHaul_now_b26 now partedBy x2 x3)
set_option maxHeartbeats 4000000 in
set_option maxRecDepth 100000 in
theorem c_X7_goHaul_now {G : x_G} {l : Launch} {a : Nat → Nat} {kept : (Nat → Int32)} {isKept : (Nat → Int32)} {rows : (Nat → Int32)} {rowLong : (Nat → Int32)} {texts : (Nat → Int32)} {textLong : (Nat → Int32)} {found : (Nat → Int32)} {taken : (Nat → Int32)} {anew : (Nat → Int32)} {hand : (Nat → Int32)} {steps : (Nat → Int32)} {shares : (Nat → Int32)} {choices : (Nat → Int32)} {values : (Nat → Int32)} {latest : Int32} {askedIs : Int32} {above : Int64} {below : Int64} {place : Int32} {now : (Nat → Int32)} {partedBy : Int32} {x2 : Int32} {x3 : Int32} {res : Int32 × (Nat → Int32) × Int32} (h : M_X7_goHaul_now now partedBy x2 x3 = some res) : x_M G l yX7_goHaul cX7_goHaul 8 (some .int) (2) 0 0 [.ref (a 0), .ref (a 1), .int x2, .int x3] (WModel G a now kept isKept rows rowLong texts textLong found taken anew hand steps shares choices values latest askedIs above below place partedBy) (x_is (some (.int res.1)) (WModel G a res.2.1 kept isKept rows rowLong texts textLong found taken anew hand steps shares choices values latest askedIs above below place res.2.2)) := by
  unfold M_X7_goHaul_now at h
  refine x_enter (ini := false) (by decide) rfl (by decide) rfl (Nat.le_of_ble_eq_true rfl) ?_
  refine x_iload_n dX7_goHaul_0 2 rfl rfl ?_
  refine x_istore [(4, .int x2), (0, .ref (a 0)), (1, .ref (a 1)), (2, .int x2), (3, .int x3)] dX7_goHaul_1 (by decide) rfl ?_
  refine x_iload_n dX7_goHaul_3 4 rfl rfl ?_
  refine x_aload_n dX7_goHaul_4 2 rfl rfl ?_
  refine x_bipush 84 dX7_goHaul_5 (by decide) ?_
  refine x_iald 84 (q0 := 1) dX7_goHaul_7 (by decide) rfl (by decide) ?_
  refine x_iconst 1 dX7_goHaul_8 (by decide) ?_
  refine x_icmp_ne 26 dX7_goHaul_9 (by decide) (fun c13 => ?_) (fun c13 => ?_)
  · have h := x_neg c13 h
    refine x_lv [1, 2, 0] rfl ?_
    exact w_X7_goHaul_now_b26  _ _ _ _ h
  · have h := x_pos c13 h
    refine x_aload_n dX7_goHaul_12 2 rfl rfl ?_
    refine x_iconst 2 dX7_goHaul_13 (by decide) ?_
    refine x_iload dX7_goHaul_14 0 rfl ?_
    refine x_iadd dX7_goHaul_16 ?_
    obtain ⟨b14, h⟩ := x_guard h
    refine x_iald ((2 : Int32) + x2).toNatClampNeg (q0 := 1) dX7_goHaul_17 rfl rfl b14 ?_
    refine x_iconst 4 dX7_goHaul_18 (by decide) ?_
    refine x_icmp_eq 26 dX7_goHaul_19 (by decide) (fun c15 => ?_) (fun c15 => ?_)
    · have h := x_pos c15 h
      refine x_lv [1, 2, 0] rfl ?_
      exact w_X7_goHaul_now_b26  _ _ _ _ h
    · have h := x_neg c15 h
      refine x_iconst 1 dX7_goHaul_22 (by decide) ?_
      refine x_goto 27 dX7_goHaul_23 (by decide) ?_
      refine x_lv [1, 2, 0] rfl ?_
      exact w_X7_goHaul_now_b27  _ _ _ _ _ h
theorem pk_X7_goDeed : x_pv RX7 yX7_goDeed cX7_goDeed 5 none 2 := ⟨⟨co_X7_goDeed, ni_X7, by decide, by decide +kernel⟩, im_X7_goDeed, se_X7_goDeed⟩
def M_X7_goDeed_now (now : (Nat → Int32)) (partedBy : Int32) (x2 : Int32) : Option ((Nat → Int32) × Int32) :=
  if x2 < (600 : Int32) then
  (if x2 < (500 : Int32) then
  (if x2 < (400 : Int32) then
  (if x2 < (300 : Int32) then
  (if x2 < (200 : Int32) then
  (if x2 < (100 : Int32) then
  (some (now, partedBy))
  else
  ((M_X7_goHaul_now now partedBy (x2 - x2 / (10 : Int32) * (10 : Int32)) ((x2 / (10 : Int32)) - (x2 / (10 : Int32)) / (10 : Int32) * (10 : Int32))).bind fun r7 =>
  some (r7.2.1, r7.2.2)))
  else
  (if inb ((76 : Int32) + (x2 - x2 / (10 : Int32) * (10 : Int32))) 85 then
  some ((upd (upd now 82 ((now 82) ||| ((1 : Int32) <<< ((x2 - x2 / (10 : Int32) * (10 : Int32)) &&& (31 : Int32))))) ((76 : Int32) + (x2 - x2 / (10 : Int32) * (10 : Int32))).toNatClampNeg (0 : Int32)), partedBy)
  else none))
  else
  (some ((upd now 82 ((now 82) &&& (((1 : Int32) <<< ((x2 - x2 / (10 : Int32) * (10 : Int32)) &&& (31 : Int32))) ^^^ (-1 : Int32)))), partedBy)))
  else
  (if inb ((76 : Int32) + (x2 - x2 / (10 : Int32) * (10 : Int32))) 85 then
  some ((upd (upd now 83 ((now 83) ||| ((1 : Int32) <<< ((x2 - x2 / (10 : Int32) * (10 : Int32)) &&& (31 : Int32))))) ((76 : Int32) + (x2 - x2 / (10 : Int32) * (10 : Int32))).toNatClampNeg (0 : Int32)), partedBy)
  else none))
  else
  (if inb ((76 : Int32) + (x2 - x2 / (10 : Int32) * (10 : Int32))) 85 then
  some ((upd (upd (upd now 83 ((now 83) &&& (((1 : Int32) <<< ((x2 - x2 / (10 : Int32) * (10 : Int32)) &&& (31 : Int32))) ^^^ (-1 : Int32)))) 82 (((upd now 83 ((now 83) &&& (((1 : Int32) <<< ((x2 - x2 / (10 : Int32) * (10 : Int32)) &&& (31 : Int32))) ^^^ (-1 : Int32)))) 82) &&& (((1 : Int32) <<< ((x2 - x2 / (10 : Int32) * (10 : Int32)) &&& (31 : Int32))) ^^^ (-1 : Int32)))) ((76 : Int32) + (x2 - x2 / (10 : Int32) * (10 : Int32))).toNatClampNeg (0 : Int32)), partedBy)
  else none))
  else
  (some ((upd now 84 (x2 - x2 / (10 : Int32) * (10 : Int32))), partedBy))
set_option maxHeartbeats 4000000 in
set_option maxRecDepth 100000 in
theorem c_X7_goDeed_now {G : x_G} {l : Launch} {a : Nat → Nat} {kept : (Nat → Int32)} {isKept : (Nat → Int32)} {rows : (Nat → Int32)} {rowLong : (Nat → Int32)} {texts : (Nat → Int32)} {textLong : (Nat → Int32)} {found : (Nat → Int32)} {taken : (Nat → Int32)} {anew : (Nat → Int32)} {hand : (Nat → Int32)} {steps : (Nat → Int32)} {shares : (Nat → Int32)} {choices : (Nat → Int32)} {values : (Nat → Int32)} {latest : Int32} {askedIs : Int32} {above : Int64} {below : Int64} {place : Int32} {now : (Nat → Int32)} {partedBy : Int32} {x2 : Int32} {res : (Nat → Int32) × Int32} (h : M_X7_goDeed_now now partedBy x2 = some res) : x_M G l yX7_goDeed cX7_goDeed 5 none (3) 0 0 [.ref (a 0), .ref (a 1), .int x2] (WModel G a now kept isKept rows rowLong texts textLong found taken anew hand steps shares choices values latest askedIs above below place partedBy) (x_is none (WModel G a res.1 kept isKept rows rowLong texts textLong found taken anew hand steps shares choices values latest askedIs above below place res.2)) := by
  unfold M_X7_goDeed_now at h
  refine x_enter (ini := false) (by decide) rfl (by decide) rfl (Nat.le_of_ble_eq_true rfl) ?_
  refine x_iload_n dX7_goDeed_0 2 rfl rfl ?_
  refine x_bipush 10 dX7_goDeed_1 (by decide) ?_
  refine x_irem dX7_goDeed_3 (by decide) ?_
  refine x_istore_n [(3, .int (x2 - x2 / (10 : Int32) * (10 : Int32))), (0, .ref (a 0)), (1, .ref (a 1)), (2, .int x2)] dX7_goDeed_4 rfl (by decide) rfl ?_
  refine x_iload_n dX7_goDeed_5 3 rfl rfl ?_
  refine x_sipush 600 dX7_goDeed_6 (by decide) ?_
  refine x_icmp_lt 20 dX7_goDeed_9 (by decide) (fun c1 => ?_) (fun c1 => ?_)
  · have h := x_pos c1 h
    refine x_iload_n dX7_goDeed_20 3 rfl rfl ?_
    refine x_sipush 500 dX7_goDeed_21 (by decide) ?_
    refine x_icmp_lt 61 dX7_goDeed_24 (by decide) (fun c2 => ?_) (fun c2 => ?_)
    · have h := x_pos c2 h
      refine x_iload_n dX7_goDeed_61 3 rfl rfl ?_
      refine x_sipush 400 dX7_goDeed_62 (by decide) ?_
      refine x_icmp_lt 88 dX7_goDeed_65 (by decide) (fun c3 => ?_) (fun c3 => ?_)
      · have h := x_pos c3 h
        refine x_iload_n dX7_goDeed_88 3 rfl rfl ?_
        refine x_sipush 300 dX7_goDeed_89 (by decide) ?_
        refine x_icmp_lt 110 dX7_goDeed_92 (by decide) (fun c4 => ?_) (fun c4 => ?_)
        · have h := x_pos c4 h
          refine x_iload_n dX7_goDeed_110 3 rfl rfl ?_
          refine x_sipush 200 dX7_goDeed_111 (by decide) ?_
          refine x_icmp_lt 137 dX7_goDeed_114 (by decide) (fun c5 => ?_) (fun c5 => ?_)
          · have h := x_pos c5 h
            refine x_iload_n dX7_goDeed_137 3 rfl rfl ?_
            refine x_bipush 100 dX7_goDeed_138 (by decide) ?_
            refine x_icmp_lt 158 dX7_goDeed_140 (by decide) (fun c6 => ?_) (fun c6 => ?_)
            · have h := x_pos c6 h
              cases h
              exact x_return dX7_goDeed_158 (x_is.rf _ _)
            · have h := x_neg c6 h
              refine x_aload_n dX7_goDeed_143 1 rfl rfl ?_
              refine x_aload_n dX7_goDeed_144 2 rfl rfl ?_
              refine x_iload_n dX7_goDeed_145 0 rfl rfl ?_
              refine x_iload_n dX7_goDeed_146 3 rfl rfl ?_
              refine x_bipush 10 dX7_goDeed_147 (by decide) ?_
              refine x_idiv dX7_goDeed_149 (by decide) ?_
              refine x_bipush 10 dX7_goDeed_150 (by decide) ?_
              refine x_irem dX7_goDeed_152 (by decide) ?_
              obtain ⟨r7, e8, h⟩ := x_bind h
              refine x_cV (As := [.ref (a 1), .int (x2 - x2 / (10 : Int32) * (10 : Int32)), .int ((x2 / (10 : Int32)) - (x2 / (10 : Int32)) / (10 : Int32) * (10 : Int32))]) (wc := (WModel G a now kept isKept rows rowLong texts textLong found taken anew hand steps shares choices values latest askedIs above below place partedBy)) (w1 := (WModel G a r7.2.1 kept isKept rows rowLong texts textLong found taken anew hand steps shares choices values latest askedIs above below place r7.2.2)) (pre := []) (post := []) (rest := []) (st1 := [.int r7.1]) (ws1 := (WModel G a r7.2.1 kept isKept rows rowLong texts textLong found taken anew hand steps shares choices values latest askedIs above below place r7.2.2)) (ci := 5) 0 dX7_goDeed_153 (c_X7_goHaul_now (a := a) e8) pk_X7_goHaul ml_X7_147 (x_full _) rfl rfl rfl rfl rfl rfl rfl rfl (x_full _).symm ?_
              refine x_istore [(4, .int r7.1), (3, .int (x2 - x2 / (10 : Int32) * (10 : Int32))), (0, .ref (a 0)), (1, .ref (a 1)), (2, .int x2)] dX7_goDeed_156 (by decide) rfl ?_
              cases h
              exact x_return dX7_goDeed_158 (x_is.rf _ _)
          · have h := x_neg c5 h
            refine x_aload_n dX7_goDeed_117 2 rfl rfl ?_
            refine x_bipush 82 dX7_goDeed_118 (by decide) ?_
            refine x_dup2 dX7_goDeed_120 rfl rfl ?_
            refine x_iald 82 (q0 := 1) dX7_goDeed_121 (by decide) rfl (by decide) ?_
            refine x_iconst 1 dX7_goDeed_122 (by decide) ?_
            refine x_iload_n dX7_goDeed_123 0 rfl rfl ?_
            refine x_ishl dX7_goDeed_124 ?_
            refine x_ior dX7_goDeed_125 ?_
            refine x_iast 82 (q0 := 1) (WModel G a ((upd now 82 ((now 82) ||| ((1 : Int32) <<< ((x2 - x2 / (10 : Int32) * (10 : Int32)) &&& (31 : Int32)))))) kept isKept rows rowLong texts textLong found taken anew hand steps shares choices values latest askedIs above below place partedBy) dX7_goDeed_126 (by decide) rfl (by decide) rfl ?_
            refine x_aload_n dX7_goDeed_127 2 rfl rfl ?_
            refine x_bipush 76 dX7_goDeed_128 (by decide) ?_
            refine x_iload_n dX7_goDeed_130 0 rfl rfl ?_
            refine x_iadd dX7_goDeed_131 ?_
            refine x_iconst 0 dX7_goDeed_132 (by decide) ?_
            obtain ⟨b9, h⟩ := x_guard h
            refine x_iast ((76 : Int32) + (x2 - x2 / (10 : Int32) * (10 : Int32))).toNatClampNeg (q0 := 1) (WModel G a ((upd (upd now 82 ((now 82) ||| ((1 : Int32) <<< ((x2 - x2 / (10 : Int32) * (10 : Int32)) &&& (31 : Int32))))) ((76 : Int32) + (x2 - x2 / (10 : Int32) * (10 : Int32))).toNatClampNeg (0 : Int32))) kept isKept rows rowLong texts textLong found taken anew hand steps shares choices values latest askedIs above below place partedBy) dX7_goDeed_133 rfl rfl b9 rfl ?_
            refine x_goto 158 dX7_goDeed_134 (by decide) ?_
            cases h
            exact x_return dX7_goDeed_158 (x_is.rf _ _)
        · have h := x_neg c4 h
          refine x_aload_n dX7_goDeed_95 2 rfl rfl ?_
          refine x_bipush 82 dX7_goDeed_96 (by decide) ?_
          refine x_dup2 dX7_goDeed_98 rfl rfl ?_
          refine x_iald 82 (q0 := 1) dX7_goDeed_99 (by decide) rfl (by decide) ?_
          refine x_iconst 1 dX7_goDeed_100 (by decide) ?_
          refine x_iload_n dX7_goDeed_101 0 rfl rfl ?_
          refine x_ishl dX7_goDeed_102 ?_
          refine x_iconst (-1 : Int32) dX7_goDeed_103 (by decide) ?_
          refine x_ixor dX7_goDeed_104 ?_
          refine x_iand dX7_goDeed_105 ?_
          refine x_iast 82 (q0 := 1) (WModel G a ((upd now 82 ((now 82) &&& (((1 : Int32) <<< ((x2 - x2 / (10 : Int32) * (10 : Int32)) &&& (31 : Int32))) ^^^ (-1 : Int32))))) kept isKept rows rowLong texts textLong found taken anew hand steps shares choices values latest askedIs above below place partedBy) dX7_goDeed_106 (by decide) rfl (by decide) rfl ?_
          refine x_goto 158 dX7_goDeed_107 (by decide) ?_
          cases h
          exact x_return dX7_goDeed_158 (x_is.rf _ _)
      · have h := x_neg c3 h
        refine x_aload_n dX7_goDeed_68 2 rfl rfl ?_
        refine x_bipush 83 dX7_goDeed_69 (by decide) ?_
        refine x_dup2 dX7_goDeed_71 rfl rfl ?_
        refine x_iald 83 (q0 := 1) dX7_goDeed_72 (by decide) rfl (by decide) ?_
        refine x_iconst 1 dX7_goDeed_73 (by decide) ?_
        refine x_iload_n dX7_goDeed_74 0 rfl rfl ?_
        refine x_ishl dX7_goDeed_75 ?_
        refine x_ior dX7_goDeed_76 ?_
        refine x_iast 83 (q0 := 1) (WModel G a ((upd now 83 ((now 83) ||| ((1 : Int32) <<< ((x2 - x2 / (10 : Int32) * (10 : Int32)) &&& (31 : Int32)))))) kept isKept rows rowLong texts textLong found taken anew hand steps shares choices values latest askedIs above below place partedBy) dX7_goDeed_77 (by decide) rfl (by decide) rfl ?_
        refine x_aload_n dX7_goDeed_78 2 rfl rfl ?_
        refine x_bipush 76 dX7_goDeed_79 (by decide) ?_
        refine x_iload_n dX7_goDeed_81 0 rfl rfl ?_
        refine x_iadd dX7_goDeed_82 ?_
        refine x_iconst 0 dX7_goDeed_83 (by decide) ?_
        obtain ⟨b10, h⟩ := x_guard h
        refine x_iast ((76 : Int32) + (x2 - x2 / (10 : Int32) * (10 : Int32))).toNatClampNeg (q0 := 1) (WModel G a ((upd (upd now 83 ((now 83) ||| ((1 : Int32) <<< ((x2 - x2 / (10 : Int32) * (10 : Int32)) &&& (31 : Int32))))) ((76 : Int32) + (x2 - x2 / (10 : Int32) * (10 : Int32))).toNatClampNeg (0 : Int32))) kept isKept rows rowLong texts textLong found taken anew hand steps shares choices values latest askedIs above below place partedBy) dX7_goDeed_84 rfl rfl b10 rfl ?_
        refine x_goto 158 dX7_goDeed_85 (by decide) ?_
        cases h
        exact x_return dX7_goDeed_158 (x_is.rf _ _)
    · have h := x_neg c2 h
      refine x_aload_n dX7_goDeed_27 2 rfl rfl ?_
      refine x_bipush 83 dX7_goDeed_28 (by decide) ?_
      refine x_dup2 dX7_goDeed_30 rfl rfl ?_
      refine x_iald 83 (q0 := 1) dX7_goDeed_31 (by decide) rfl (by decide) ?_
      refine x_iconst 1 dX7_goDeed_32 (by decide) ?_
      refine x_iload_n dX7_goDeed_33 0 rfl rfl ?_
      refine x_ishl dX7_goDeed_34 ?_
      refine x_iconst (-1 : Int32) dX7_goDeed_35 (by decide) ?_
      refine x_ixor dX7_goDeed_36 ?_
      refine x_iand dX7_goDeed_37 ?_
      refine x_iast 83 (q0 := 1) (WModel G a ((upd now 83 ((now 83) &&& (((1 : Int32) <<< ((x2 - x2 / (10 : Int32) * (10 : Int32)) &&& (31 : Int32))) ^^^ (-1 : Int32))))) kept isKept rows rowLong texts textLong found taken anew hand steps shares choices values latest askedIs above below place partedBy) dX7_goDeed_38 (by decide) rfl (by decide) rfl ?_
      refine x_aload_n dX7_goDeed_39 2 rfl rfl ?_
      refine x_bipush 82 dX7_goDeed_40 (by decide) ?_
      refine x_dup2 dX7_goDeed_42 rfl rfl ?_
      refine x_iald 82 (q0 := 1) dX7_goDeed_43 (by decide) rfl (by decide) ?_
      refine x_iconst 1 dX7_goDeed_44 (by decide) ?_
      refine x_iload_n dX7_goDeed_45 0 rfl rfl ?_
      refine x_ishl dX7_goDeed_46 ?_
      refine x_iconst (-1 : Int32) dX7_goDeed_47 (by decide) ?_
      refine x_ixor dX7_goDeed_48 ?_
      refine x_iand dX7_goDeed_49 ?_
      refine x_iast 82 (q0 := 1) (WModel G a ((upd (upd now 83 ((now 83) &&& (((1 : Int32) <<< ((x2 - x2 / (10 : Int32) * (10 : Int32)) &&& (31 : Int32))) ^^^ (-1 : Int32)))) 82 (((upd now 83 ((now 83) &&& (((1 : Int32) <<< ((x2 - x2 / (10 : Int32) * (10 : Int32)) &&& (31 : Int32))) ^^^ (-1 : Int32)))) 82) &&& (((1 : Int32) <<< ((x2 - x2 / (10 : Int32) * (10 : Int32)) &&& (31 : Int32))) ^^^ (-1 : Int32))))) kept isKept rows rowLong texts textLong found taken anew hand steps shares choices values latest askedIs above below place partedBy) dX7_goDeed_50 (by decide) rfl (by decide) rfl ?_
      refine x_aload_n dX7_goDeed_51 2 rfl rfl ?_
      refine x_bipush 76 dX7_goDeed_52 (by decide) ?_
      refine x_iload_n dX7_goDeed_54 0 rfl rfl ?_
      refine x_iadd dX7_goDeed_55 ?_
      refine x_iconst 0 dX7_goDeed_56 (by decide) ?_
      obtain ⟨b11, h⟩ := x_guard h
      refine x_iast ((76 : Int32) + (x2 - x2 / (10 : Int32) * (10 : Int32))).toNatClampNeg (q0 := 1) (WModel G a ((upd (upd (upd now 83 ((now 83) &&& (((1 : Int32) <<< ((x2 - x2 / (10 : Int32) * (10 : Int32)) &&& (31 : Int32))) ^^^ (-1 : Int32)))) 82 (((upd now 83 ((now 83) &&& (((1 : Int32) <<< ((x2 - x2 / (10 : Int32) * (10 : Int32)) &&& (31 : Int32))) ^^^ (-1 : Int32)))) 82) &&& (((1 : Int32) <<< ((x2 - x2 / (10 : Int32) * (10 : Int32)) &&& (31 : Int32))) ^^^ (-1 : Int32)))) ((76 : Int32) + (x2 - x2 / (10 : Int32) * (10 : Int32))).toNatClampNeg (0 : Int32))) kept isKept rows rowLong texts textLong found taken anew hand steps shares choices values latest askedIs above below place partedBy) dX7_goDeed_57 rfl rfl b11 rfl ?_
      refine x_goto 158 dX7_goDeed_58 (by decide) ?_
      cases h
      exact x_return dX7_goDeed_158 (x_is.rf _ _)
  · have h := x_neg c1 h
    refine x_aload_n dX7_goDeed_12 2 rfl rfl ?_
    refine x_bipush 84 dX7_goDeed_13 (by decide) ?_
    refine x_iload_n dX7_goDeed_15 0 rfl rfl ?_
    refine x_iast 84 (q0 := 1) (WModel G a ((upd now 84 (x2 - x2 / (10 : Int32) * (10 : Int32)))) kept isKept rows rowLong texts textLong found taken anew hand steps shares choices values latest askedIs above below place partedBy) dX7_goDeed_16 (by decide) rfl (by decide) rfl ?_
    refine x_goto 158 dX7_goDeed_17 (by decide) ?_
    cases h
    exact x_return dX7_goDeed_158 (x_is.rf _ _)
theorem pk_X7_does : x_pv RX7 yX7_does cX7_does 2 none 1 := ⟨⟨co_X7_does, ni_X7, by decide, by decide +kernel⟩, im_X7_does, se_X7_does⟩
def M_X7_does (now : (Nat → Int32)) (partedBy : Int32) (x1 : Int32) : Option ((Nat → Int32) × Int32) :=
  if inb ((36 : Int32) + (now 35)) 85 then
  (M_X7_goDeed_now (upd (upd now ((36 : Int32) + (now 35)).toNatClampNeg x1) 35 (((upd now ((36 : Int32) + (now 35)).toNatClampNeg x1) 35) + (1 : Int32))) partedBy x1).bind fun r2 =>
  some (r2.1, r2.2)
  else none
set_option maxHeartbeats 4000000 in
set_option maxRecDepth 100000 in
theorem c_X7_does {G : x_G} {l : Launch} {a : Nat → Nat} {kept : (Nat → Int32)} {isKept : (Nat → Int32)} {rows : (Nat → Int32)} {rowLong : (Nat → Int32)} {texts : (Nat → Int32)} {textLong : (Nat → Int32)} {found : (Nat → Int32)} {taken : (Nat → Int32)} {anew : (Nat → Int32)} {hand : (Nat → Int32)} {steps : (Nat → Int32)} {shares : (Nat → Int32)} {choices : (Nat → Int32)} {values : (Nat → Int32)} {latest : Int32} {askedIs : Int32} {above : Int64} {below : Int64} {place : Int32} {now : (Nat → Int32)} {partedBy : Int32} {x1 : Int32} {res : (Nat → Int32) × Int32} (h : M_X7_does now partedBy x1 = some res) : x_M G l yX7_does cX7_does 2 none (4) 0 0 [.ref (a 0), .int x1] (WModel G a now kept isKept rows rowLong texts textLong found taken anew hand steps shares choices values latest askedIs above below place partedBy) (x_is none (WModel G a res.1 kept isKept rows rowLong texts textLong found taken anew hand steps shares choices values latest askedIs above below place res.2)) := by
  unfold M_X7_does at h
  refine x_enter (ini := false) (by decide) rfl (by decide) rfl (Nat.le_of_ble_eq_true rfl) ?_
  refine x_aload_n dX7_does_0 0 rfl rfl ?_
  refine x_get (ci := 5) 0 0 dX7_does_1 fl_X7_7 inX7 rfl (by decide) ⟨rfl, rfl, rfl⟩ rfl rfl ?_
  refine x_bipush 36 dX7_does_4 (by decide) ?_
  refine x_aload_n dX7_does_6 0 rfl rfl ?_
  refine x_get (ci := 5) 0 0 dX7_does_7 fl_X7_7 inX7 rfl (by decide) ⟨rfl, rfl, rfl⟩ rfl rfl ?_
  refine x_bipush 35 dX7_does_10 (by decide) ?_
  refine x_iald 35 (q0 := 1) dX7_does_12 (by decide) rfl (by decide) ?_
  refine x_iadd dX7_does_13 ?_
  refine x_iload_n dX7_does_14 1 rfl rfl ?_
  obtain ⟨b1, h⟩ := x_guard h
  refine x_iast ((36 : Int32) + (now 35)).toNatClampNeg (q0 := 1) (WModel G a ((upd now ((36 : Int32) + (now 35)).toNatClampNeg x1)) kept isKept rows rowLong texts textLong found taken anew hand steps shares choices values latest askedIs above below place partedBy) dX7_does_15 rfl rfl b1 rfl ?_
  refine x_aload_n dX7_does_16 0 rfl rfl ?_
  refine x_get (ci := 5) 0 0 dX7_does_17 fl_X7_7 inX7 rfl (by decide) ⟨rfl, rfl, rfl⟩ rfl rfl ?_
  refine x_bipush 35 dX7_does_20 (by decide) ?_
  refine x_dup2 dX7_does_22 rfl rfl ?_
  refine x_iald 35 (q0 := 1) dX7_does_23 (by decide) rfl (by decide) ?_
  refine x_iconst 1 dX7_does_24 (by decide) ?_
  refine x_iadd dX7_does_25 ?_
  refine x_iast 35 (q0 := 1) (WModel G a ((upd (upd now ((36 : Int32) + (now 35)).toNatClampNeg x1) 35 (((upd now ((36 : Int32) + (now 35)).toNatClampNeg x1) 35) + (1 : Int32)))) kept isKept rows rowLong texts textLong found taken anew hand steps shares choices values latest askedIs above below place partedBy) dX7_does_26 (by decide) rfl (by decide) rfl ?_
  refine x_aload_n dX7_does_27 0 rfl rfl ?_
  refine x_aload_n dX7_does_28 0 rfl rfl ?_
  refine x_get (ci := 5) 0 0 dX7_does_29 fl_X7_7 inX7 rfl (by decide) ⟨rfl, rfl, rfl⟩ rfl rfl ?_
  refine x_iload_n dX7_does_32 1 rfl rfl ?_
  obtain ⟨r2, e3, h⟩ := x_bind h
  refine x_cV (As := [.ref (a 1), .int x1]) (wc := (WModel G a ((upd (upd now ((36 : Int32) + (now 35)).toNatClampNeg x1) 35 (((upd now ((36 : Int32) + (now 35)).toNatClampNeg x1) 35) + (1 : Int32)))) kept isKept rows rowLong texts textLong found taken anew hand steps shares choices values latest askedIs above below place partedBy)) (w1 := (WModel G a r2.1 kept isKept rows rowLong texts textLong found taken anew hand steps shares choices values latest askedIs above below place r2.2)) (pre := []) (post := []) (rest := []) (st1 := []) (ws1 := (WModel G a r2.1 kept isKept rows rowLong texts textLong found taken anew hand steps shares choices values latest askedIs above below place r2.2)) (ci := 5) 0 dX7_does_33 (c_X7_goDeed_now (a := a) e3) pk_X7_goDeed ml_X7_151 (x_full _) rfl rfl rfl rfl rfl rfl rfl rfl (x_full _).symm ?_
  cases h
  exact x_return dX7_does_36 (x_is.rf _ _)
theorem pk_X7_doesAt : x_pv RX7 yX7_doesAt cX7_doesAt 4 (some .int) 3 := ⟨⟨co_X7_doesAt, ni_X7, by decide, by decide +kernel⟩, im_X7_doesAt, se_X7_doesAt⟩
def M_X7_doesAt (now : (Nat → Int32)) (partedBy : Int32) (x1 : Int32) (x2 : Int32) (x3 : Int32) : Option (Int32 × (Nat → Int32) × Int32) :=
  if (M_X7_is now x1 x2) = 0 then
  (some ((-4 : Int32), now, partedBy))
  else
  (if (now 35) = (40 : Int32) then
  (some ((-2 : Int32), now, partedBy))
  else
  ((M_X7_does now partedBy (x3 + x1)).bind fun r3 =>
  some ((0 : Int32), r3.1, r3.2)))
set_option maxHeartbeats 4000000 in
set_option maxRecDepth 100000 in
theorem c_X7_doesAt {G : x_G} {l : Launch} {a : Nat → Nat} {kept : (Nat → Int32)} {isKept : (Nat → Int32)} {rows : (Nat → Int32)} {rowLong : (Nat → Int32)} {texts : (Nat → Int32)} {textLong : (Nat → Int32)} {found : (Nat → Int32)} {taken : (Nat → Int32)} {anew : (Nat → Int32)} {hand : (Nat → Int32)} {steps : (Nat → Int32)} {shares : (Nat → Int32)} {choices : (Nat → Int32)} {values : (Nat → Int32)} {latest : Int32} {askedIs : Int32} {above : Int64} {below : Int64} {place : Int32} {now : (Nat → Int32)} {partedBy : Int32} {x1 : Int32} {x2 : Int32} {x3 : Int32} {res : Int32 × (Nat → Int32) × Int32} (h : M_X7_doesAt now partedBy x1 x2 x3 = some res) : x_M G l yX7_doesAt cX7_doesAt 4 (some .int) (5) 0 0 [.ref (a 0), .int x1, .int x2, .int x3] (WModel G a now kept isKept rows rowLong texts textLong found taken anew hand steps shares choices values latest askedIs above below place partedBy) (x_is (some (.int res.1)) (WModel G a res.2.1 kept isKept rows rowLong texts textLong found taken anew hand steps shares choices values latest askedIs above below place res.2.2)) := by
  unfold M_X7_doesAt at h
  refine x_enter (ini := false) (by decide) rfl (by decide) rfl (Nat.le_of_ble_eq_true rfl) ?_
  refine x_aload_n dX7_doesAt_0 0 rfl rfl ?_
  refine x_iload_n dX7_doesAt_1 1 rfl rfl ?_
  refine x_iload_n dX7_doesAt_2 2 rfl rfl ?_
  refine x_cV (As := [.int x1, .int x2]) (wc := (WModel G a now kept isKept rows rowLong texts textLong found taken anew hand steps shares choices values latest askedIs above below place partedBy)) (w1 := (WModel G a now kept isKept rows rowLong texts textLong found taken anew hand steps shares choices values latest askedIs above below place partedBy)) (pre := []) (post := []) (rest := []) (st1 := [.int (M_X7_is now x1 x2)]) (ws1 := (WModel G a now kept isKept rows rowLong texts textLong found taken anew hand steps shares choices values latest askedIs above below place partedBy)) (ci := 5) 0 dX7_doesAt_3 (c_X7_is (a := a) rfl) pk_X7_is ml_X7_174 (x_full _) rfl rfl rfl rfl rfl rfl rfl rfl (x_full _).symm ?_
  refine x_if_ne 12 dX7_doesAt_6 (by decide) (fun c1 => ?_) (fun c1 => ?_)
  · have h := x_neg c1 h
    refine x_aload_n dX7_doesAt_12 0 rfl rfl ?_
    refine x_get (ci := 5) 0 0 dX7_doesAt_13 fl_X7_7 inX7 rfl (by decide) ⟨rfl, rfl, rfl⟩ rfl rfl ?_
    refine x_bipush 35 dX7_doesAt_16 (by decide) ?_
    refine x_iald 35 (q0 := 1) dX7_doesAt_18 (by decide) rfl (by decide) ?_
    refine x_bipush 40 dX7_doesAt_19 (by decide) ?_
    refine x_icmp_ne 27 dX7_doesAt_21 (by decide) (fun c2 => ?_) (fun c2 => ?_)
    · have h := x_neg c2 h
      refine x_aload_n dX7_doesAt_27 0 rfl rfl ?_
      refine x_iload_n dX7_doesAt_28 3 rfl rfl ?_
      refine x_iload_n dX7_doesAt_29 1 rfl rfl ?_
      refine x_iadd dX7_doesAt_30 ?_
      obtain ⟨r3, e4, h⟩ := x_bind h
      refine x_cV (As := [.int (x3 + x1)]) (wc := (WModel G a now kept isKept rows rowLong texts textLong found taken anew hand steps shares choices values latest askedIs above below place partedBy)) (w1 := (WModel G a r3.1 kept isKept rows rowLong texts textLong found taken anew hand steps shares choices values latest askedIs above below place r3.2)) (pre := []) (post := []) (rest := []) (st1 := []) (ws1 := (WModel G a r3.1 kept isKept rows rowLong texts textLong found taken anew hand steps shares choices values latest askedIs above below place r3.2)) (ci := 5) 0 dX7_doesAt_31 (c_X7_does (a := a) e4) pk_X7_does ml_X7_177 (x_full _) rfl rfl rfl rfl rfl rfl rfl rfl (x_full _).symm ?_
      refine x_iconst 0 dX7_doesAt_34 (by decide) ?_
      cases h
      exact x_ireturn dX7_doesAt_35 rfl (x_is.rf _ _)
    · have h := x_pos c2 h
      refine x_bipush (-2 : Int32) dX7_doesAt_24 (by decide) ?_
      cases h
      exact x_ireturn dX7_doesAt_26 rfl (x_is.rf _ _)
  · have h := x_pos c1 h
    refine x_bipush (-4 : Int32) dX7_doesAt_9 (by decide) ?_
    cases h
    exact x_ireturn dX7_doesAt_11 rfl (x_is.rf _ _)
theorem pk_X7_haul : x_pv RX7 yX7_haul cX7_haul 4 (some .int) 2 := ⟨⟨co_X7_haul, ni_X7, by decide, by decide +kernel⟩, im_X7_haul, se_X7_haul⟩
def M_X7_haul (now : (Nat → Int32)) (partedBy : Int32) (x1 : Int32) (x2 : Int32) : Option (Int32 × (Nat → Int32) × Int32) :=
  if (M_X7_isRope now x1) = 0 then
  (some ((-1 : Int32), now, partedBy))
  else
  (if (M_X7_in x2.toInt64 (1 : Int64) (9 : Int64)) = 0 then
  (some ((-1 : Int32), now, partedBy))
  else
  ((M_X7_doesAt now partedBy x1 (0 : Int32) ((100 : Int32) + ((10 : Int32) * x2))).bind fun r3 =>
  if r3.1 = 0 then
  (if r3.2.2 = (-9 : Int32) then
  (some ((0 : Int32), r3.2.1, r3.2.2))
  else
  (some ((1 : Int32), r3.2.1, r3.2.2)))
  else
  (some (r3.1, r3.2.1, r3.2.2))))
set_option maxHeartbeats 4000000 in
set_option maxRecDepth 100000 in
theorem c_X7_haul {G : x_G} {l : Launch} {a : Nat → Nat} {kept : (Nat → Int32)} {isKept : (Nat → Int32)} {rows : (Nat → Int32)} {rowLong : (Nat → Int32)} {texts : (Nat → Int32)} {textLong : (Nat → Int32)} {found : (Nat → Int32)} {taken : (Nat → Int32)} {anew : (Nat → Int32)} {hand : (Nat → Int32)} {steps : (Nat → Int32)} {shares : (Nat → Int32)} {choices : (Nat → Int32)} {values : (Nat → Int32)} {latest : Int32} {askedIs : Int32} {above : Int64} {below : Int64} {place : Int32} {now : (Nat → Int32)} {partedBy : Int32} {x1 : Int32} {x2 : Int32} {res : Int32 × (Nat → Int32) × Int32} (h : M_X7_haul now partedBy x1 x2 = some res) : x_M G l yX7_haul cX7_haul 4 (some .int) (6) 0 0 [.ref (a 0), .int x1, .int x2] (WModel G a now kept isKept rows rowLong texts textLong found taken anew hand steps shares choices values latest askedIs above below place partedBy) (x_is (some (.int res.1)) (WModel G a res.2.1 kept isKept rows rowLong texts textLong found taken anew hand steps shares choices values latest askedIs above below place res.2.2)) := by
  unfold M_X7_haul at h
  refine x_enter (ini := false) (by decide) rfl (by decide) rfl (Nat.le_of_ble_eq_true rfl) ?_
  refine x_aload_n dX7_haul_0 0 rfl rfl ?_
  refine x_iload_n dX7_haul_1 1 rfl rfl ?_
  refine x_cV (As := [.int x1]) (wc := (WModel G a now kept isKept rows rowLong texts textLong found taken anew hand steps shares choices values latest askedIs above below place partedBy)) (w1 := (WModel G a now kept isKept rows rowLong texts textLong found taken anew hand steps shares choices values latest askedIs above below place partedBy)) (pre := []) (post := []) (rest := []) (st1 := [.int (M_X7_isRope now x1)]) (ws1 := (WModel G a now kept isKept rows rowLong texts textLong found taken anew hand steps shares choices values latest askedIs above below place partedBy)) (ci := 5) 0 dX7_haul_2 (c_X7_isRope (a := a) rfl) pk_X7_isRope ml_X7_155 (x_full _) rfl rfl rfl rfl rfl rfl rfl rfl (x_full _).symm ?_
  refine x_if_eq 20 dX7_haul_5 (by decide) (fun c1 => ?_) (fun c1 => ?_)
  · have h := x_pos c1 h
    refine x_iconst (-1 : Int32) dX7_haul_20 (by decide) ?_
    cases h
    exact x_ireturn dX7_haul_21 rfl (x_is.rf _ _)
  · have h := x_neg c1 h
    refine x_iload_n dX7_haul_8 2 rfl rfl ?_
    refine x_i2l dX7_haul_9 ?_
    refine x_lconst 1 dX7_haul_10 (by decide) ?_
    refine x_ldc2 dX7_haul_11 kl_X7_180 ?_
    refine x_cS (As := [.long x2.toInt64, .long (1 : Int64), .long (9 : Int64)]) (wc := ([] : va_W)) (w1 := ([] : va_W)) (pre := []) (post := (WModel G a now kept isKept rows rowLong texts textLong found taken anew hand steps shares choices values latest askedIs above below place partedBy)) (rest := []) (st1 := [.int (M_X7_in x2.toInt64 (1 : Int64) (9 : Int64))]) (ws1 := (WModel G a now kept isKept rows rowLong texts textLong found taken anew hand steps shares choices values latest askedIs above below place partedBy)) dX7_haul_14 (c_X7_in rfl) pk_X7_in ml_X7_69 rfl rfl rfl rfl rfl rfl rfl ?_
    refine x_if_ne 22 dX7_haul_17 (by decide) (fun c2 => ?_) (fun c2 => ?_)
    · have h := x_neg c2 h
      refine x_aload_n dX7_haul_22 0 rfl rfl ?_
      refine x_iload_n dX7_haul_23 1 rfl rfl ?_
      refine x_iconst 0 dX7_haul_24 (by decide) ?_
      refine x_bipush 100 dX7_haul_25 (by decide) ?_
      refine x_bipush 10 dX7_haul_27 (by decide) ?_
      refine x_iload_n dX7_haul_29 2 rfl rfl ?_
      refine x_imul dX7_haul_30 ?_
      refine x_iadd dX7_haul_31 ?_
      obtain ⟨r3, e4, h⟩ := x_bind h
      refine x_cV (As := [.int x1, .int (0 : Int32), .int ((100 : Int32) + ((10 : Int32) * x2))]) (wc := (WModel G a now kept isKept rows rowLong texts textLong found taken anew hand steps shares choices values latest askedIs above below place partedBy)) (w1 := (WModel G a r3.2.1 kept isKept rows rowLong texts textLong found taken anew hand steps shares choices values latest askedIs above below place r3.2.2)) (pre := []) (post := []) (rest := []) (st1 := [.int r3.1]) (ws1 := (WModel G a r3.2.1 kept isKept rows rowLong texts textLong found taken anew hand steps shares choices values latest askedIs above below place r3.2.2)) (ci := 5) 0 dX7_haul_32 (c_X7_doesAt (a := a) e4) pk_X7_doesAt ml_X7_182 (x_full _) rfl rfl rfl rfl rfl rfl rfl rfl (x_full _).symm ?_
      refine x_istore_n [(3, .int r3.1), (0, .ref (a 0)), (1, .int x1), (2, .int x2)] dX7_haul_35 rfl (by decide) rfl ?_
      refine x_iload_n dX7_haul_36 0 rfl rfl ?_
      refine x_if_eq 44 dX7_haul_37 (by decide) (fun c5 => ?_) (fun c5 => ?_)
      · have h := x_pos c5 h
        refine x_aload_n dX7_haul_44 1 rfl rfl ?_
        refine x_get (ci := 5) 15 0 dX7_haul_45 fl_X7_133 inX7 rfl (by decide) ⟨rfl, rfl, rfl⟩ rfl rfl ?_
        refine x_bipush (-9 : Int32) dX7_haul_48 (by decide) ?_
        refine x_icmp_ne 57 dX7_haul_50 (by decide) (fun c6 => ?_) (fun c6 => ?_)
        · have h := x_neg c6 h
          refine x_iconst 1 dX7_haul_57 (by decide) ?_
          cases h
          exact x_ireturn dX7_haul_58 rfl (x_is.rf _ _)
        · have h := x_pos c6 h
          refine x_iconst 0 dX7_haul_53 (by decide) ?_
          refine x_goto 58 dX7_haul_54 (by decide) ?_
          cases h
          exact x_ireturn dX7_haul_58 rfl (x_is.rf _ _)
      · have h := x_neg c5 h
        refine x_iload_n dX7_haul_40 0 rfl rfl ?_
        refine x_goto 58 dX7_haul_41 (by decide) ?_
        cases h
        exact x_ireturn dX7_haul_58 rfl (x_is.rf _ _)
    · have h := x_pos c2 h
      refine x_iconst (-1 : Int32) dX7_haul_20 (by decide) ?_
      cases h
      exact x_ireturn dX7_haul_21 rfl (x_is.rf _ _)
theorem pk_X7_slack : x_pv RX7 yX7_slack cX7_slack 4 (some .int) 1 := ⟨⟨co_X7_slack, ni_X7, by decide, by decide +kernel⟩, im_X7_slack, se_X7_slack⟩
def M_X7_slack (now : (Nat → Int32)) (partedBy : Int32) (x1 : Int32) : Option (Int32 × (Nat → Int32) × Int32) :=
  if (M_X7_isRope now x1) = 0 then
  (some ((-1 : Int32), now, partedBy))
  else
  (if inb ((76 : Int32) + x1) 85 then
  (M_X7_doesAt now partedBy x1 (0 : Int32) (200 : Int32)).bind fun r3 =>
  if r3.1 = 0 then
  (some ((now ((76 : Int32) + x1).toNatClampNeg), r3.2.1, r3.2.2))
  else
  (some (r3.1, r3.2.1, r3.2.2))
  else none)
set_option maxHeartbeats 4000000 in
set_option maxRecDepth 100000 in
theorem c_X7_slack {G : x_G} {l : Launch} {a : Nat → Nat} {kept : (Nat → Int32)} {isKept : (Nat → Int32)} {rows : (Nat → Int32)} {rowLong : (Nat → Int32)} {texts : (Nat → Int32)} {textLong : (Nat → Int32)} {found : (Nat → Int32)} {taken : (Nat → Int32)} {anew : (Nat → Int32)} {hand : (Nat → Int32)} {steps : (Nat → Int32)} {shares : (Nat → Int32)} {choices : (Nat → Int32)} {values : (Nat → Int32)} {latest : Int32} {askedIs : Int32} {above : Int64} {below : Int64} {place : Int32} {now : (Nat → Int32)} {partedBy : Int32} {x1 : Int32} {res : Int32 × (Nat → Int32) × Int32} (h : M_X7_slack now partedBy x1 = some res) : x_M G l yX7_slack cX7_slack 4 (some .int) (6) 0 0 [.ref (a 0), .int x1] (WModel G a now kept isKept rows rowLong texts textLong found taken anew hand steps shares choices values latest askedIs above below place partedBy) (x_is (some (.int res.1)) (WModel G a res.2.1 kept isKept rows rowLong texts textLong found taken anew hand steps shares choices values latest askedIs above below place res.2.2)) := by
  unfold M_X7_slack at h
  refine x_enter (ini := false) (by decide) rfl (by decide) rfl (Nat.le_of_ble_eq_true rfl) ?_
  refine x_aload_n dX7_slack_0 0 rfl rfl ?_
  refine x_iload_n dX7_slack_1 1 rfl rfl ?_
  refine x_cV (As := [.int x1]) (wc := (WModel G a now kept isKept rows rowLong texts textLong found taken anew hand steps shares choices values latest askedIs above below place partedBy)) (w1 := (WModel G a now kept isKept rows rowLong texts textLong found taken anew hand steps shares choices values latest askedIs above below place partedBy)) (pre := []) (post := []) (rest := []) (st1 := [.int (M_X7_isRope now x1)]) (ws1 := (WModel G a now kept isKept rows rowLong texts textLong found taken anew hand steps shares choices values latest askedIs above below place partedBy)) (ci := 5) 0 dX7_slack_2 (c_X7_isRope (a := a) rfl) pk_X7_isRope ml_X7_155 (x_full _) rfl rfl rfl rfl rfl rfl rfl rfl (x_full _).symm ?_
  refine x_if_ne 10 dX7_slack_5 (by decide) (fun c1 => ?_) (fun c1 => ?_)
  · have h := x_neg c1 h
    refine x_aload_n dX7_slack_10 0 rfl rfl ?_
    refine x_get (ci := 5) 0 0 dX7_slack_11 fl_X7_7 inX7 rfl (by decide) ⟨rfl, rfl, rfl⟩ rfl rfl ?_
    refine x_bipush 76 dX7_slack_14 (by decide) ?_
    refine x_iload_n dX7_slack_16 1 rfl rfl ?_
    refine x_iadd dX7_slack_17 ?_
    obtain ⟨b2, h⟩ := x_guard h
    refine x_iald ((76 : Int32) + x1).toNatClampNeg (q0 := 1) dX7_slack_18 rfl rfl b2 ?_
    refine x_istore_n [(2, .int (now ((76 : Int32) + x1).toNatClampNeg)), (0, .ref (a 0)), (1, .int x1)] dX7_slack_19 rfl (by decide) rfl ?_
    refine x_aload_n dX7_slack_20 1 rfl rfl ?_
    refine x_iload_n dX7_slack_21 2 rfl rfl ?_
    refine x_iconst 0 dX7_slack_22 (by decide) ?_
    refine x_sipush 200 dX7_slack_23 (by decide) ?_
    obtain ⟨r3, e4, h⟩ := x_bind h
    refine x_cV (As := [.int x1, .int (0 : Int32), .int (200 : Int32)]) (wc := (WModel G a now kept isKept rows rowLong texts textLong found taken anew hand steps shares choices values latest askedIs above below place partedBy)) (w1 := (WModel G a r3.2.1 kept isKept rows rowLong texts textLong found taken anew hand steps shares choices values latest askedIs above below place r3.2.2)) (pre := []) (post := []) (rest := []) (st1 := [.int r3.1]) (ws1 := (WModel G a r3.2.1 kept isKept rows rowLong texts textLong found taken anew hand steps shares choices values latest askedIs above below place r3.2.2)) (ci := 5) 0 dX7_slack_26 (c_X7_doesAt (a := a) e4) pk_X7_doesAt ml_X7_182 (x_full _) rfl rfl rfl rfl rfl rfl rfl rfl (x_full _).symm ?_
    refine x_istore_n [(3, .int r3.1), (2, .int (now ((76 : Int32) + x1).toNatClampNeg)), (0, .ref (a 0)), (1, .int x1)] dX7_slack_29 rfl (by decide) rfl ?_
    refine x_iload_n dX7_slack_30 0 rfl rfl ?_
    refine x_if_eq 38 dX7_slack_31 (by decide) (fun c5 => ?_) (fun c5 => ?_)
    · have h := x_pos c5 h
      refine x_iload_n dX7_slack_38 1 rfl rfl ?_
      cases h
      exact x_ireturn dX7_slack_39 rfl (x_is.rf _ _)
    · have h := x_neg c5 h
      refine x_iload_n dX7_slack_34 0 rfl rfl ?_
      refine x_goto 39 dX7_slack_35 (by decide) ?_
      cases h
      exact x_ireturn dX7_slack_39 rfl (x_is.rf _ _)
  · have h := x_pos c1 h
    refine x_iconst (-1 : Int32) dX7_slack_8 (by decide) ?_
    cases h
    exact x_ireturn dX7_slack_9 rfl (x_is.rf _ _)
theorem pk_X7_belay : x_pv RX7 yX7_belay cX7_belay 3 (some .int) 1 := ⟨⟨co_X7_belay, ni_X7, by decide, by decide +kernel⟩, im_X7_belay, se_X7_belay⟩
def M_X7_belay (now : (Nat → Int32)) (partedBy : Int32) (x1 : Int32) : Option (Int32 × (Nat → Int32) × Int32) :=
  if (M_X7_isRope now x1) = 0 then
  (some ((-1 : Int32), now, partedBy))
  else
  ((M_X7_doesAt now partedBy x1 (1 : Int32) (300 : Int32)).bind fun r2 =>
  if r2.1 = 0 then
  ((M_X7_bits (r2.2.1 82)).bind fun r5 =>
  some (r5, r2.2.1, r2.2.2))
  else
  (some (r2.1, r2.2.1, r2.2.2)))
set_option maxHeartbeats 4000000 in
set_option maxRecDepth 100000 in
theorem c_X7_belay {G : x_G} {l : Launch} {a : Nat → Nat} {kept : (Nat → Int32)} {isKept : (Nat → Int32)} {rows : (Nat → Int32)} {rowLong : (Nat → Int32)} {texts : (Nat → Int32)} {textLong : (Nat → Int32)} {found : (Nat → Int32)} {taken : (Nat → Int32)} {anew : (Nat → Int32)} {hand : (Nat → Int32)} {steps : (Nat → Int32)} {shares : (Nat → Int32)} {choices : (Nat → Int32)} {values : (Nat → Int32)} {latest : Int32} {askedIs : Int32} {above : Int64} {below : Int64} {place : Int32} {now : (Nat → Int32)} {partedBy : Int32} {x1 : Int32} {res : Int32 × (Nat → Int32) × Int32} (h : M_X7_belay now partedBy x1 = some res) : x_M G l yX7_belay cX7_belay 3 (some .int) (6) 0 0 [.ref (a 0), .int x1] (WModel G a now kept isKept rows rowLong texts textLong found taken anew hand steps shares choices values latest askedIs above below place partedBy) (x_is (some (.int res.1)) (WModel G a res.2.1 kept isKept rows rowLong texts textLong found taken anew hand steps shares choices values latest askedIs above below place res.2.2)) := by
  unfold M_X7_belay at h
  refine x_enter (ini := false) (by decide) rfl (by decide) rfl (Nat.le_of_ble_eq_true rfl) ?_
  refine x_aload_n dX7_belay_0 0 rfl rfl ?_
  refine x_iload_n dX7_belay_1 1 rfl rfl ?_
  refine x_cV (As := [.int x1]) (wc := (WModel G a now kept isKept rows rowLong texts textLong found taken anew hand steps shares choices values latest askedIs above below place partedBy)) (w1 := (WModel G a now kept isKept rows rowLong texts textLong found taken anew hand steps shares choices values latest askedIs above below place partedBy)) (pre := []) (post := []) (rest := []) (st1 := [.int (M_X7_isRope now x1)]) (ws1 := (WModel G a now kept isKept rows rowLong texts textLong found taken anew hand steps shares choices values latest askedIs above below place partedBy)) (ci := 5) 0 dX7_belay_2 (c_X7_isRope (a := a) rfl) pk_X7_isRope ml_X7_155 (x_full _) rfl rfl rfl rfl rfl rfl rfl rfl (x_full _).symm ?_
  refine x_if_ne 10 dX7_belay_5 (by decide) (fun c1 => ?_) (fun c1 => ?_)
  · have h := x_neg c1 h
    refine x_aload_n dX7_belay_10 0 rfl rfl ?_
    refine x_iload_n dX7_belay_11 1 rfl rfl ?_
    refine x_iconst 1 dX7_belay_12 (by decide) ?_
    refine x_sipush 300 dX7_belay_13 (by decide) ?_
    obtain ⟨r2, e3, h⟩ := x_bind h
    refine x_cV (As := [.int x1, .int (1 : Int32), .int (300 : Int32)]) (wc := (WModel G a now kept isKept rows rowLong texts textLong found taken anew hand steps shares choices values latest askedIs above below place partedBy)) (w1 := (WModel G a r2.2.1 kept isKept rows rowLong texts textLong found taken anew hand steps shares choices values latest askedIs above below place r2.2.2)) (pre := []) (post := []) (rest := []) (st1 := [.int r2.1]) (ws1 := (WModel G a r2.2.1 kept isKept rows rowLong texts textLong found taken anew hand steps shares choices values latest askedIs above below place r2.2.2)) (ci := 5) 0 dX7_belay_16 (c_X7_doesAt (a := a) e3) pk_X7_doesAt ml_X7_182 (x_full _) rfl rfl rfl rfl rfl rfl rfl rfl (x_full _).symm ?_
    refine x_istore_n [(2, .int r2.1), (0, .ref (a 0)), (1, .int x1)] dX7_belay_19 rfl (by decide) rfl ?_
    refine x_iload_n dX7_belay_20 0 rfl rfl ?_
    refine x_if_eq 28 dX7_belay_21 (by decide) (fun c4 => ?_) (fun c4 => ?_)
    · have h := x_pos c4 h
      refine x_aload_n dX7_belay_28 1 rfl rfl ?_
      refine x_get (ci := 5) 0 0 dX7_belay_29 fl_X7_7 inX7 rfl (by decide) ⟨rfl, rfl, rfl⟩ rfl rfl ?_
      refine x_bipush 82 dX7_belay_32 (by decide) ?_
      refine x_iald 82 (q0 := 1) dX7_belay_34 (by decide) rfl (by decide) ?_
      obtain ⟨r5, e6, h⟩ := x_bind h
      refine x_cS (As := [.int (r2.2.1 82)]) (wc := ([] : va_W)) (w1 := ([] : va_W)) (pre := []) (post := (WModel G a r2.2.1 kept isKept rows rowLong texts textLong found taken anew hand steps shares choices values latest askedIs above below place r2.2.2)) (rest := []) (st1 := [.int r5]) (ws1 := (WModel G a r2.2.1 kept isKept rows rowLong texts textLong found taken anew hand steps shares choices values latest askedIs above below place r2.2.2)) dX7_belay_35 (c_X7_bits e6) pk_X7_bits ml_X7_171 rfl rfl rfl rfl rfl rfl rfl ?_
      cases h
      exact x_ireturn dX7_belay_38 rfl (x_is.rf _ _)
    · have h := x_neg c4 h
      refine x_iload_n dX7_belay_24 0 rfl rfl ?_
      refine x_goto 38 dX7_belay_25 (by decide) ?_
      cases h
      exact x_ireturn dX7_belay_38 rfl (x_is.rf _ _)
  · have h := x_pos c1 h
    refine x_iconst (-1 : Int32) dX7_belay_8 (by decide) ?_
    cases h
    exact x_ireturn dX7_belay_9 rfl (x_is.rf _ _)
theorem pk_X7_cut : x_pv RX7 yX7_cut cX7_cut 2 (some .int) 1 := ⟨⟨co_X7_cut, ni_X7, by decide, by decide +kernel⟩, im_X7_cut, se_X7_cut⟩
def M_X7_cut (now : (Nat → Int32)) (partedBy : Int32) (x1 : Int32) : Option (Int32 × (Nat → Int32) × Int32) :=
  if (M_X7_isRope now x1) = 0 then
  (some ((-1 : Int32), now, partedBy))
  else
  (if (M_X7_has (now 83) x1) = 0 then
  (if (now 35) = (40 : Int32) then
  (some ((-2 : Int32), now, partedBy))
  else
  ((M_X7_does now partedBy ((400 : Int32) + x1)).bind fun r4 =>
  (M_X7_bits (r4.1 83)).bind fun r6 =>
  some (r6, r4.1, r4.2)))
  else
  (some ((-4 : Int32), now, partedBy)))
set_option maxHeartbeats 4000000 in
set_option maxRecDepth 100000 in
theorem c_X7_cut {G : x_G} {l : Launch} {a : Nat → Nat} {kept : (Nat → Int32)} {isKept : (Nat → Int32)} {rows : (Nat → Int32)} {rowLong : (Nat → Int32)} {texts : (Nat → Int32)} {textLong : (Nat → Int32)} {found : (Nat → Int32)} {taken : (Nat → Int32)} {anew : (Nat → Int32)} {hand : (Nat → Int32)} {steps : (Nat → Int32)} {shares : (Nat → Int32)} {choices : (Nat → Int32)} {values : (Nat → Int32)} {latest : Int32} {askedIs : Int32} {above : Int64} {below : Int64} {place : Int32} {now : (Nat → Int32)} {partedBy : Int32} {x1 : Int32} {res : Int32 × (Nat → Int32) × Int32} (h : M_X7_cut now partedBy x1 = some res) : x_M G l yX7_cut cX7_cut 2 (some .int) (5) 0 0 [.ref (a 0), .int x1] (WModel G a now kept isKept rows rowLong texts textLong found taken anew hand steps shares choices values latest askedIs above below place partedBy) (x_is (some (.int res.1)) (WModel G a res.2.1 kept isKept rows rowLong texts textLong found taken anew hand steps shares choices values latest askedIs above below place res.2.2)) := by
  unfold M_X7_cut at h
  refine x_enter (ini := false) (by decide) rfl (by decide) rfl (Nat.le_of_ble_eq_true rfl) ?_
  refine x_aload_n dX7_cut_0 0 rfl rfl ?_
  refine x_iload_n dX7_cut_1 1 rfl rfl ?_
  refine x_cV (As := [.int x1]) (wc := (WModel G a now kept isKept rows rowLong texts textLong found taken anew hand steps shares choices values latest askedIs above below place partedBy)) (w1 := (WModel G a now kept isKept rows rowLong texts textLong found taken anew hand steps shares choices values latest askedIs above below place partedBy)) (pre := []) (post := []) (rest := []) (st1 := [.int (M_X7_isRope now x1)]) (ws1 := (WModel G a now kept isKept rows rowLong texts textLong found taken anew hand steps shares choices values latest askedIs above below place partedBy)) (ci := 5) 0 dX7_cut_2 (c_X7_isRope (a := a) rfl) pk_X7_isRope ml_X7_155 (x_full _) rfl rfl rfl rfl rfl rfl rfl rfl (x_full _).symm ?_
  refine x_if_ne 10 dX7_cut_5 (by decide) (fun c1 => ?_) (fun c1 => ?_)
  · have h := x_neg c1 h
    refine x_aload_n dX7_cut_10 0 rfl rfl ?_
    refine x_get (ci := 5) 0 0 dX7_cut_11 fl_X7_7 inX7 rfl (by decide) ⟨rfl, rfl, rfl⟩ rfl rfl ?_
    refine x_bipush 83 dX7_cut_14 (by decide) ?_
    refine x_iald 83 (q0 := 1) dX7_cut_16 (by decide) rfl (by decide) ?_
    refine x_iload_n dX7_cut_17 1 rfl rfl ?_
    refine x_cS (As := [.int (now 83), .int x1]) (wc := ([] : va_W)) (w1 := ([] : va_W)) (pre := []) (post := (WModel G a now kept isKept rows rowLong texts textLong found taken anew hand steps shares choices values latest askedIs above below place partedBy)) (rest := []) (st1 := [.int (M_X7_has (now 83) x1)]) (ws1 := (WModel G a now kept isKept rows rowLong texts textLong found taken anew hand steps shares choices values latest askedIs above below place partedBy)) dX7_cut_18 (c_X7_has rfl) pk_X7_has ml_X7_130 rfl rfl rfl rfl rfl rfl rfl ?_
    refine x_if_eq 27 dX7_cut_21 (by decide) (fun c2 => ?_) (fun c2 => ?_)
    · have h := x_pos c2 h
      refine x_aload_n dX7_cut_27 0 rfl rfl ?_
      refine x_get (ci := 5) 0 0 dX7_cut_28 fl_X7_7 inX7 rfl (by decide) ⟨rfl, rfl, rfl⟩ rfl rfl ?_
      refine x_bipush 35 dX7_cut_31 (by decide) ?_
      refine x_iald 35 (q0 := 1) dX7_cut_33 (by decide) rfl (by decide) ?_
      refine x_bipush 40 dX7_cut_34 (by decide) ?_
      refine x_icmp_ne 42 dX7_cut_36 (by decide) (fun c3 => ?_) (fun c3 => ?_)
      · have h := x_neg c3 h
        refine x_aload_n dX7_cut_42 0 rfl rfl ?_
        refine x_sipush 400 dX7_cut_43 (by decide) ?_
        refine x_iload_n dX7_cut_46 1 rfl rfl ?_
        refine x_iadd dX7_cut_47 ?_
        obtain ⟨r4, e5, h⟩ := x_bind h
        refine x_cV (As := [.int ((400 : Int32) + x1)]) (wc := (WModel G a now kept isKept rows rowLong texts textLong found taken anew hand steps shares choices values latest askedIs above below place partedBy)) (w1 := (WModel G a r4.1 kept isKept rows rowLong texts textLong found taken anew hand steps shares choices values latest askedIs above below place r4.2)) (pre := []) (post := []) (rest := []) (st1 := []) (ws1 := (WModel G a r4.1 kept isKept rows rowLong texts textLong found taken anew hand steps shares choices values latest askedIs above below place r4.2)) (ci := 5) 0 dX7_cut_48 (c_X7_does (a := a) e5) pk_X7_does ml_X7_177 (x_full _) rfl rfl rfl rfl rfl rfl rfl rfl (x_full _).symm ?_
        refine x_aload_n dX7_cut_51 0 rfl rfl ?_
        refine x_get (ci := 5) 0 0 dX7_cut_52 fl_X7_7 inX7 rfl (by decide) ⟨rfl, rfl, rfl⟩ rfl rfl ?_
        refine x_bipush 83 dX7_cut_55 (by decide) ?_
        refine x_iald 83 (q0 := 1) dX7_cut_57 (by decide) rfl (by decide) ?_
        obtain ⟨r6, e7, h⟩ := x_bind h
        refine x_cS (As := [.int (r4.1 83)]) (wc := ([] : va_W)) (w1 := ([] : va_W)) (pre := []) (post := (WModel G a r4.1 kept isKept rows rowLong texts textLong found taken anew hand steps shares choices values latest askedIs above below place r4.2)) (rest := []) (st1 := [.int r6]) (ws1 := (WModel G a r4.1 kept isKept rows rowLong texts textLong found taken anew hand steps shares choices values latest askedIs above below place r4.2)) dX7_cut_58 (c_X7_bits e7) pk_X7_bits ml_X7_171 rfl rfl rfl rfl rfl rfl rfl ?_
        cases h
        exact x_ireturn dX7_cut_61 rfl (x_is.rf _ _)
      · have h := x_pos c3 h
        refine x_bipush (-2 : Int32) dX7_cut_39 (by decide) ?_
        cases h
        exact x_ireturn dX7_cut_41 rfl (x_is.rf _ _)
    · have h := x_neg c2 h
      refine x_bipush (-4 : Int32) dX7_cut_24 (by decide) ?_
      cases h
      exact x_ireturn dX7_cut_26 rfl (x_is.rf _ _)
  · have h := x_pos c1 h
    refine x_iconst (-1 : Int32) dX7_cut_8 (by decide) ?_
    cases h
    exact x_ireturn dX7_cut_9 rfl (x_is.rf _ _)
theorem pk_X7_splice : x_pv RX7 yX7_splice cX7_splice 3 (some .int) 1 := ⟨⟨co_X7_splice, ni_X7, by decide, by decide +kernel⟩, im_X7_splice, se_X7_splice⟩
def M_X7_splice (now : (Nat → Int32)) (partedBy : Int32) (x1 : Int32) : Option (Int32 × (Nat → Int32) × Int32) :=
  if (M_X7_isRope now x1) = 0 then
  (some ((-1 : Int32), now, partedBy))
  else
  ((M_X7_doesAt now partedBy x1 (2 : Int32) (500 : Int32)).bind fun r2 =>
  if r2.1 = 0 then
  ((M_X7_bits (r2.2.1 83)).bind fun r5 =>
  some (r5, r2.2.1, r2.2.2))
  else
  (some (r2.1, r2.2.1, r2.2.2)))
set_option maxHeartbeats 4000000 in
set_option maxRecDepth 100000 in
theorem c_X7_splice {G : x_G} {l : Launch} {a : Nat → Nat} {kept : (Nat → Int32)} {isKept : (Nat → Int32)} {rows : (Nat → Int32)} {rowLong : (Nat → Int32)} {texts : (Nat → Int32)} {textLong : (Nat → Int32)} {found : (Nat → Int32)} {taken : (Nat → Int32)} {anew : (Nat → Int32)} {hand : (Nat → Int32)} {steps : (Nat → Int32)} {shares : (Nat → Int32)} {choices : (Nat → Int32)} {values : (Nat → Int32)} {latest : Int32} {askedIs : Int32} {above : Int64} {below : Int64} {place : Int32} {now : (Nat → Int32)} {partedBy : Int32} {x1 : Int32} {res : Int32 × (Nat → Int32) × Int32} (h : M_X7_splice now partedBy x1 = some res) : x_M G l yX7_splice cX7_splice 3 (some .int) (6) 0 0 [.ref (a 0), .int x1] (WModel G a now kept isKept rows rowLong texts textLong found taken anew hand steps shares choices values latest askedIs above below place partedBy) (x_is (some (.int res.1)) (WModel G a res.2.1 kept isKept rows rowLong texts textLong found taken anew hand steps shares choices values latest askedIs above below place res.2.2)) := by
  unfold M_X7_splice at h
  refine x_enter (ini := false) (by decide) rfl (by decide) rfl (Nat.le_of_ble_eq_true rfl) ?_
  refine x_aload_n dX7_splice_0 0 rfl rfl ?_
  refine x_iload_n dX7_splice_1 1 rfl rfl ?_
  refine x_cV (As := [.int x1]) (wc := (WModel G a now kept isKept rows rowLong texts textLong found taken anew hand steps shares choices values latest askedIs above below place partedBy)) (w1 := (WModel G a now kept isKept rows rowLong texts textLong found taken anew hand steps shares choices values latest askedIs above below place partedBy)) (pre := []) (post := []) (rest := []) (st1 := [.int (M_X7_isRope now x1)]) (ws1 := (WModel G a now kept isKept rows rowLong texts textLong found taken anew hand steps shares choices values latest askedIs above below place partedBy)) (ci := 5) 0 dX7_splice_2 (c_X7_isRope (a := a) rfl) pk_X7_isRope ml_X7_155 (x_full _) rfl rfl rfl rfl rfl rfl rfl rfl (x_full _).symm ?_
  refine x_if_ne 10 dX7_splice_5 (by decide) (fun c1 => ?_) (fun c1 => ?_)
  · have h := x_neg c1 h
    refine x_aload_n dX7_splice_10 0 rfl rfl ?_
    refine x_iload_n dX7_splice_11 1 rfl rfl ?_
    refine x_iconst 2 dX7_splice_12 (by decide) ?_
    refine x_sipush 500 dX7_splice_13 (by decide) ?_
    obtain ⟨r2, e3, h⟩ := x_bind h
    refine x_cV (As := [.int x1, .int (2 : Int32), .int (500 : Int32)]) (wc := (WModel G a now kept isKept rows rowLong texts textLong found taken anew hand steps shares choices values latest askedIs above below place partedBy)) (w1 := (WModel G a r2.2.1 kept isKept rows rowLong texts textLong found taken anew hand steps shares choices values latest askedIs above below place r2.2.2)) (pre := []) (post := []) (rest := []) (st1 := [.int r2.1]) (ws1 := (WModel G a r2.2.1 kept isKept rows rowLong texts textLong found taken anew hand steps shares choices values latest askedIs above below place r2.2.2)) (ci := 5) 0 dX7_splice_16 (c_X7_doesAt (a := a) e3) pk_X7_doesAt ml_X7_182 (x_full _) rfl rfl rfl rfl rfl rfl rfl rfl (x_full _).symm ?_
    refine x_istore_n [(2, .int r2.1), (0, .ref (a 0)), (1, .int x1)] dX7_splice_19 rfl (by decide) rfl ?_
    refine x_iload_n dX7_splice_20 0 rfl rfl ?_
    refine x_if_eq 28 dX7_splice_21 (by decide) (fun c4 => ?_) (fun c4 => ?_)
    · have h := x_pos c4 h
      refine x_aload_n dX7_splice_28 1 rfl rfl ?_
      refine x_get (ci := 5) 0 0 dX7_splice_29 fl_X7_7 inX7 rfl (by decide) ⟨rfl, rfl, rfl⟩ rfl rfl ?_
      refine x_bipush 83 dX7_splice_32 (by decide) ?_
      refine x_iald 83 (q0 := 1) dX7_splice_34 (by decide) rfl (by decide) ?_
      obtain ⟨r5, e6, h⟩ := x_bind h
      refine x_cS (As := [.int (r2.2.1 83)]) (wc := ([] : va_W)) (w1 := ([] : va_W)) (pre := []) (post := (WModel G a r2.2.1 kept isKept rows rowLong texts textLong found taken anew hand steps shares choices values latest askedIs above below place r2.2.2)) (rest := []) (st1 := [.int r5]) (ws1 := (WModel G a r2.2.1 kept isKept rows rowLong texts textLong found taken anew hand steps shares choices values latest askedIs above below place r2.2.2)) dX7_splice_35 (c_X7_bits e6) pk_X7_bits ml_X7_171 rfl rfl rfl rfl rfl rfl rfl ?_
      cases h
      exact x_ireturn dX7_splice_38 rfl (x_is.rf _ _)
    · have h := x_neg c4 h
      refine x_iload_n dX7_splice_24 0 rfl rfl ?_
      refine x_goto 38 dX7_splice_25 (by decide) ?_
      cases h
      exact x_ireturn dX7_splice_38 rfl (x_is.rf _ _)
  · have h := x_pos c1 h
    refine x_iconst (-1 : Int32) dX7_splice_8 (by decide) ?_
    cases h
    exact x_ireturn dX7_splice_9 rfl (x_is.rf _ _)
theorem pk_X7_frost : x_pv RX7 yX7_frost cX7_frost 2 (some .int) 1 := ⟨⟨co_X7_frost, ni_X7, by decide, by decide +kernel⟩, im_X7_frost, se_X7_frost⟩
def M_X7_frost (now : (Nat → Int32)) (partedBy : Int32) (x1 : Int32) : Option (Int32 × (Nat → Int32) × Int32) :=
  if (M_X7_in x1.toInt64 (0 : Int64) (1 : Int64)) = 0 then
  (some ((-1 : Int32), now, partedBy))
  else
  (if (now 0) = 0 then
  (some ((-4 : Int32), now, partedBy))
  else
  (if (now 84) = x1 then
  (some ((-4 : Int32), now, partedBy))
  else
  (if (now 35) = (40 : Int32) then
  (some ((-2 : Int32), now, partedBy))
  else
  ((M_X7_does now partedBy ((600 : Int32) + x1)).bind fun r5 =>
  some (x1, r5.1, r5.2)))))
set_option maxHeartbeats 4000000 in
set_option maxRecDepth 100000 in
theorem c_X7_frost {G : x_G} {l : Launch} {a : Nat → Nat} {kept : (Nat → Int32)} {isKept : (Nat → Int32)} {rows : (Nat → Int32)} {rowLong : (Nat → Int32)} {texts : (Nat → Int32)} {textLong : (Nat → Int32)} {found : (Nat → Int32)} {taken : (Nat → Int32)} {anew : (Nat → Int32)} {hand : (Nat → Int32)} {steps : (Nat → Int32)} {shares : (Nat → Int32)} {choices : (Nat → Int32)} {values : (Nat → Int32)} {latest : Int32} {askedIs : Int32} {above : Int64} {below : Int64} {place : Int32} {now : (Nat → Int32)} {partedBy : Int32} {x1 : Int32} {res : Int32 × (Nat → Int32) × Int32} (h : M_X7_frost now partedBy x1 = some res) : x_M G l yX7_frost cX7_frost 2 (some .int) (5) 0 0 [.ref (a 0), .int x1] (WModel G a now kept isKept rows rowLong texts textLong found taken anew hand steps shares choices values latest askedIs above below place partedBy) (x_is (some (.int res.1)) (WModel G a res.2.1 kept isKept rows rowLong texts textLong found taken anew hand steps shares choices values latest askedIs above below place res.2.2)) := by
  unfold M_X7_frost at h
  refine x_enter (ini := false) (by decide) rfl (by decide) rfl (Nat.le_of_ble_eq_true rfl) ?_
  refine x_iload_n dX7_frost_0 1 rfl rfl ?_
  refine x_i2l dX7_frost_1 ?_
  refine x_lconst 0 dX7_frost_2 (by decide) ?_
  refine x_lconst 1 dX7_frost_3 (by decide) ?_
  refine x_cS (As := [.long x1.toInt64, .long (0 : Int64), .long (1 : Int64)]) (wc := ([] : va_W)) (w1 := ([] : va_W)) (pre := []) (post := (WModel G a now kept isKept rows rowLong texts textLong found taken anew hand steps shares choices values latest askedIs above below place partedBy)) (rest := []) (st1 := [.int (M_X7_in x1.toInt64 (0 : Int64) (1 : Int64))]) (ws1 := (WModel G a now kept isKept rows rowLong texts textLong found taken anew hand steps shares choices values latest askedIs above below place partedBy)) dX7_frost_4 (c_X7_in rfl) pk_X7_in ml_X7_69 rfl rfl rfl rfl rfl rfl rfl ?_
  refine x_if_ne 12 dX7_frost_7 (by decide) (fun c1 => ?_) (fun c1 => ?_)
  · have h := x_neg c1 h
    refine x_aload_n dX7_frost_12 0 rfl rfl ?_
    refine x_get (ci := 5) 0 0 dX7_frost_13 fl_X7_7 inX7 rfl (by decide) ⟨rfl, rfl, rfl⟩ rfl rfl ?_
    refine x_iconst 0 dX7_frost_16 (by decide) ?_
    refine x_iald 0 (q0 := 1) dX7_frost_17 (by decide) rfl (by decide) ?_
    refine x_if_eq 32 dX7_frost_18 (by decide) (fun c2 => ?_) (fun c2 => ?_)
    · have h := x_pos c2 h
      refine x_bipush (-4 : Int32) dX7_frost_32 (by decide) ?_
      cases h
      exact x_ireturn dX7_frost_34 rfl (x_is.rf _ _)
    · have h := x_neg c2 h
      refine x_aload_n dX7_frost_21 0 rfl rfl ?_
      refine x_get (ci := 5) 0 0 dX7_frost_22 fl_X7_7 inX7 rfl (by decide) ⟨rfl, rfl, rfl⟩ rfl rfl ?_
      refine x_bipush 84 dX7_frost_25 (by decide) ?_
      refine x_iald 84 (q0 := 1) dX7_frost_27 (by decide) rfl (by decide) ?_
      refine x_iload_n dX7_frost_28 1 rfl rfl ?_
      refine x_icmp_ne 35 dX7_frost_29 (by decide) (fun c3 => ?_) (fun c3 => ?_)
      · have h := x_neg c3 h
        refine x_aload_n dX7_frost_35 0 rfl rfl ?_
        refine x_get (ci := 5) 0 0 dX7_frost_36 fl_X7_7 inX7 rfl (by decide) ⟨rfl, rfl, rfl⟩ rfl rfl ?_
        refine x_bipush 35 dX7_frost_39 (by decide) ?_
        refine x_iald 35 (q0 := 1) dX7_frost_41 (by decide) rfl (by decide) ?_
        refine x_bipush 40 dX7_frost_42 (by decide) ?_
        refine x_icmp_ne 50 dX7_frost_44 (by decide) (fun c4 => ?_) (fun c4 => ?_)
        · have h := x_neg c4 h
          refine x_aload_n dX7_frost_50 0 rfl rfl ?_
          refine x_sipush 600 dX7_frost_51 (by decide) ?_
          refine x_iload_n dX7_frost_54 1 rfl rfl ?_
          refine x_iadd dX7_frost_55 ?_
          obtain ⟨r5, e6, h⟩ := x_bind h
          refine x_cV (As := [.int ((600 : Int32) + x1)]) (wc := (WModel G a now kept isKept rows rowLong texts textLong found taken anew hand steps shares choices values latest askedIs above below place partedBy)) (w1 := (WModel G a r5.1 kept isKept rows rowLong texts textLong found taken anew hand steps shares choices values latest askedIs above below place r5.2)) (pre := []) (post := []) (rest := []) (st1 := []) (ws1 := (WModel G a r5.1 kept isKept rows rowLong texts textLong found taken anew hand steps shares choices values latest askedIs above below place r5.2)) (ci := 5) 0 dX7_frost_56 (c_X7_does (a := a) e6) pk_X7_does ml_X7_177 (x_full _) rfl rfl rfl rfl rfl rfl rfl rfl (x_full _).symm ?_
          refine x_iload_n dX7_frost_59 1 rfl rfl ?_
          cases h
          exact x_ireturn dX7_frost_60 rfl (x_is.rf _ _)
        · have h := x_pos c4 h
          refine x_bipush (-2 : Int32) dX7_frost_47 (by decide) ?_
          cases h
          exact x_ireturn dX7_frost_49 rfl (x_is.rf _ _)
      · have h := x_pos c3 h
        refine x_bipush (-4 : Int32) dX7_frost_32 (by decide) ?_
        cases h
        exact x_ireturn dX7_frost_34 rfl (x_is.rf _ _)
  · have h := x_pos c1 h
    refine x_iconst (-1 : Int32) dX7_frost_10 (by decide) ?_
    cases h
    exact x_ireturn dX7_frost_11 rfl (x_is.rf _ _)
theorem pk_X7_undo : x_pv RX7 yX7_undo cX7_undo 4 (some .int) 1 := ⟨⟨co_X7_undo, ni_X7, by decide, by decide +kernel⟩, im_X7_undo, se_X7_undo⟩
def M_X7_undo_b38 : Nat → (Nat → Int32) → Int32 → Int32 → Int32 → Int32 → Option (Int32 × (Nat → Int32) × Int32)
  | 0, _, _, _, _, _ => none
  | n + 1, now, partedBy, x1, x2, x3 =>
    if x1 ≤ x3 then
    (some (x2, (upd now 35 x1), partedBy))
    else
    (if inb ((36 : Int32) + x3) 85 then
    (M_X7_goDeed_now now partedBy (now ((36 : Int32) + x3).toNatClampNeg)).bind fun r3 =>
    M_X7_undo_b38 n r3.1 r3.2 x1 x2 (x3 + (1 : Int32))
    else none)
set_option maxHeartbeats 4000000 in
set_option maxRecDepth 100000 in
theorem w_X7_undo_b38 {G : x_G} {l : Launch} {a : Nat → Nat} {kept : (Nat → Int32)} {isKept : (Nat → Int32)} {rows : (Nat → Int32)} {rowLong : (Nat → Int32)} {texts : (Nat → Int32)} {textLong : (Nat → Int32)} {found : (Nat → Int32)} {taken : (Nat → Int32)} {anew : (Nat → Int32)} {hand : (Nat → Int32)} {steps : (Nat → Int32)} {shares : (Nat → Int32)} {choices : (Nat → Int32)} {values : (Nat → Int32)} {latest : Int32} {askedIs : Int32} {above : Int64} {below : Int64} {place : Int32} {res : Int32 × (Nat → Int32) × Int32} : ∀ (n : Nat) (now : (Nat → Int32)) (partedBy : Int32) (x1 : Int32) (x2 : Int32) (x3 : Int32), M_X7_undo_b38 n now partedBy x1 x2 x3 = some res → X G l RX7 cX7_undo 4 (x_R 4 0 0) (x_Cm G (some .int) false (x_is (some (.int res.1)) (WModel G a res.2.1 kept isKept rows rowLong texts textLong found taken anew hand steps shares choices values latest askedIs above below place res.2.2)) 0 0) 0 0 38 [(0, .ref (a 0)), (1, .int x1), (2, .int x2), (3, .int x3)] [] (WModel G a now kept isKept rows rowLong texts textLong found taken anew hand steps shares choices values latest askedIs above below place partedBy) := by
  intro n
  induction n with
  | zero =>
    intro _ _ _ _ _ h
    cases h
  | succ n ih =>
    intro now partedBy x1 x2 x3 h
    rw [M_X7_undo_b38] at h
    refine x_iload_n dX7_undo_38 3 rfl rfl ?_
    refine x_iload_n dX7_undo_39 1 rfl rfl ?_
    refine x_icmp_ge 66 dX7_undo_40 (by decide) (fun c1 => ?_) (fun c1 => ?_)
    · have h := x_pos c1 h
      refine x_aload_n dX7_undo_66 0 rfl rfl ?_
      refine x_get (ci := 5) 0 0 dX7_undo_67 fl_X7_7 inX7 rfl (by decide) ⟨rfl, rfl, rfl⟩ rfl rfl ?_
      refine x_bipush 35 dX7_undo_70 (by decide) ?_
      refine x_iload_n dX7_undo_72 1 rfl rfl ?_
      refine x_iast 35 (q0 := 1) (WModel G a ((upd now 35 x1)) kept isKept rows rowLong texts textLong found taken anew hand steps shares choices values latest askedIs above below place partedBy) dX7_undo_73 (by decide) rfl (by decide) rfl ?_
      refine x_iload_n dX7_undo_74 2 rfl rfl ?_
      cases h
      exact x_ireturn dX7_undo_75 rfl (x_is.rf _ _)
    · have h := x_neg c1 h
      refine x_aload_n dX7_undo_43 0 rfl rfl ?_
      refine x_aload_n dX7_undo_44 0 rfl rfl ?_
      refine x_get (ci := 5) 0 0 dX7_undo_45 fl_X7_7 inX7 rfl (by decide) ⟨rfl, rfl, rfl⟩ rfl rfl ?_
      refine x_aload_n dX7_undo_48 0 rfl rfl ?_
      refine x_get (ci := 5) 0 0 dX7_undo_49 fl_X7_7 inX7 rfl (by decide) ⟨rfl, rfl, rfl⟩ rfl rfl ?_
      refine x_bipush 36 dX7_undo_52 (by decide) ?_
      refine x_iload_n dX7_undo_54 3 rfl rfl ?_
      refine x_iadd dX7_undo_55 ?_
      obtain ⟨b2, h⟩ := x_guard h
      refine x_iald ((36 : Int32) + x3).toNatClampNeg (q0 := 1) dX7_undo_56 rfl rfl b2 ?_
      obtain ⟨r3, e4, h⟩ := x_bind h
      refine x_cV (As := [.ref (a 1), .int (now ((36 : Int32) + x3).toNatClampNeg)]) (wc := (WModel G a now kept isKept rows rowLong texts textLong found taken anew hand steps shares choices values latest askedIs above below place partedBy)) (w1 := (WModel G a r3.1 kept isKept rows rowLong texts textLong found taken anew hand steps shares choices values latest askedIs above below place r3.2)) (pre := []) (post := []) (rest := []) (st1 := []) (ws1 := (WModel G a r3.1 kept isKept rows rowLong texts textLong found taken anew hand steps shares choices values latest askedIs above below place r3.2)) (ci := 5) 0 dX7_undo_57 (c_X7_goDeed_now (a := a) e4) pk_X7_goDeed ml_X7_151 (x_full _) rfl rfl rfl rfl rfl rfl rfl rfl (x_full _).symm ?_
      refine x_iinc (j := 3) (1 : Int32) [(3, .int (x3 + (1 : Int32))), (0, .ref (a 0)), (1, .int x1), (2, .int x2)] dX7_undo_60 (by decide) rfl (by decide) rfl ?_
      refine x_goto 38 dX7_undo_63 (by decide) ?_
      refine x_lv [1, 2, 3, 0] rfl ?_
      exact ih _ _ _ _ _ h
def M_X7_undo (now : (Nat → Int32)) (partedBy : Int32) (x1 : Int32) : Option (Int32 × (Nat → Int32) × Int32) :=
  if (M_X7_in x1.toInt64 (0 : Int64) ((now 35).toInt64)) = 0 then
  (some ((-1 : Int32), now, partedBy))
  else
  ((M_X7_begin_85 now).bind fun r6 =>
  M_X7_undo_b38 x_fuel r6 partedBy x1 ((now 35) - x1) (0 : Int32))
set_option maxHeartbeats 4000000 in
set_option maxRecDepth 100000 in
theorem c_X7_undo {G : x_G} {l : Launch} {a : Nat → Nat} {kept : (Nat → Int32)} {isKept : (Nat → Int32)} {rows : (Nat → Int32)} {rowLong : (Nat → Int32)} {texts : (Nat → Int32)} {textLong : (Nat → Int32)} {found : (Nat → Int32)} {taken : (Nat → Int32)} {anew : (Nat → Int32)} {hand : (Nat → Int32)} {steps : (Nat → Int32)} {shares : (Nat → Int32)} {choices : (Nat → Int32)} {values : (Nat → Int32)} {latest : Int32} {askedIs : Int32} {above : Int64} {below : Int64} {place : Int32} {now : (Nat → Int32)} {partedBy : Int32} {x1 : Int32} {res : Int32 × (Nat → Int32) × Int32} (h : M_X7_undo now partedBy x1 = some res) : x_M G l yX7_undo cX7_undo 4 (some .int) (4) 0 0 [.ref (a 0), .int x1] (WModel G a now kept isKept rows rowLong texts textLong found taken anew hand steps shares choices values latest askedIs above below place partedBy) (x_is (some (.int res.1)) (WModel G a res.2.1 kept isKept rows rowLong texts textLong found taken anew hand steps shares choices values latest askedIs above below place res.2.2)) := by
  unfold M_X7_undo at h
  refine x_enter (ini := false) (by decide) rfl (by decide) rfl (Nat.le_of_ble_eq_true rfl) ?_
  refine x_iload_n dX7_undo_0 1 rfl rfl ?_
  refine x_i2l dX7_undo_1 ?_
  refine x_lconst 0 dX7_undo_2 (by decide) ?_
  refine x_aload_n dX7_undo_3 0 rfl rfl ?_
  refine x_get (ci := 5) 0 0 dX7_undo_4 fl_X7_7 inX7 rfl (by decide) ⟨rfl, rfl, rfl⟩ rfl rfl ?_
  refine x_bipush 35 dX7_undo_7 (by decide) ?_
  refine x_iald 35 (q0 := 1) dX7_undo_9 (by decide) rfl (by decide) ?_
  refine x_i2l dX7_undo_10 ?_
  refine x_cS (As := [.long x1.toInt64, .long (0 : Int64), .long ((now 35).toInt64)]) (wc := ([] : va_W)) (w1 := ([] : va_W)) (pre := []) (post := (WModel G a now kept isKept rows rowLong texts textLong found taken anew hand steps shares choices values latest askedIs above below place partedBy)) (rest := []) (st1 := [.int (M_X7_in x1.toInt64 (0 : Int64) ((now 35).toInt64))]) (ws1 := (WModel G a now kept isKept rows rowLong texts textLong found taken anew hand steps shares choices values latest askedIs above below place partedBy)) dX7_undo_11 (c_X7_in rfl) pk_X7_in ml_X7_69 rfl rfl rfl rfl rfl rfl rfl ?_
  refine x_if_ne 19 dX7_undo_14 (by decide) (fun c5 => ?_) (fun c5 => ?_)
  · have h := x_neg c5 h
    refine x_aload_n dX7_undo_19 0 rfl rfl ?_
    refine x_get (ci := 5) 0 0 dX7_undo_20 fl_X7_7 inX7 rfl (by decide) ⟨rfl, rfl, rfl⟩ rfl rfl ?_
    refine x_bipush 35 dX7_undo_23 (by decide) ?_
    refine x_iald 35 (q0 := 1) dX7_undo_25 (by decide) rfl (by decide) ?_
    refine x_iload_n dX7_undo_26 1 rfl rfl ?_
    refine x_isub dX7_undo_27 ?_
    refine x_istore_n [(2, .int ((now 35) - x1)), (0, .ref (a 0)), (1, .int x1)] dX7_undo_28 rfl (by decide) rfl ?_
    refine x_aload_n dX7_undo_29 1 rfl rfl ?_
    refine x_get (ci := 5) 0 0 dX7_undo_30 fl_X7_7 inX7 rfl (by decide) ⟨rfl, rfl, rfl⟩ rfl rfl ?_
    obtain ⟨r6, e7, h⟩ := x_bind h
    refine x_cS (As := [.ref (a 1)]) (wc := (WArr G (fun k => a (1 + k)) 85 now)) (w1 := (WArr G (fun k => a (1 + k)) 85 r6)) (pre := ((WModel G a now kept isKept rows rowLong texts textLong found taken anew hand steps shares choices values latest askedIs above below place partedBy).take 1)) (post := ((WModel G a now kept isKept rows rowLong texts textLong found taken anew hand steps shares choices values latest askedIs above below place partedBy).drop 2)) (rest := []) (st1 := []) (ws1 := (WModel G a r6 kept isKept rows rowLong texts textLong found taken anew hand steps shares choices values latest askedIs above below place partedBy)) dX7_undo_33 (c_X7_begin_85 (aq := (fun k => a (1 + k))) e7) pk_X7_begin ml_X7_126 rfl rfl rfl rfl rfl rfl rfl ?_
    refine x_iconst 0 dX7_undo_36 (by decide) ?_
    refine x_istore_n [(3, .int (0 : Int32)), (2, .int ((now 35) - x1)), (0, .ref (a 0)), (1, .int x1)] dX7_undo_37 rfl (by decide) rfl ?_
    refine x_lv [2, 3, 1, 0] rfl ?_
    exact w_X7_undo_b38  _ _ _ _ _ _ h
  · have h := x_pos c5 h
    refine x_iconst (-1 : Int32) dX7_undo_17 (by decide) ?_
    cases h
    exact x_ireturn dX7_undo_18 rfl (x_is.rf _ _)
theorem pk_X7_isShelf : x_ps yX7_isShelf cX7_isShelf 1 (some .boolean) 1 := ⟨⟨co_X7_isShelf, ni_X7, by decide, by decide +kernel⟩, sm_X7_isShelf⟩
def M_X7_isShelf (x0 : Int32) : Int32 :=
  (M_X7_in x0.toInt64 (0 : Int64) (2 : Int64))
theorem M_X7_isShelf_b {x0 : Int32} : narrow .boolean (.int (M_X7_isShelf x0)) = .int (M_X7_isShelf x0) := by
  simp only [M_X7_isShelf]
  repeat' split
  all_goals first | rfl | exact M_X7_in_b
set_option maxHeartbeats 4000000 in
set_option maxRecDepth 100000 in
theorem c_X7_isShelf {G : x_G} {l : Launch} {x0 : Int32} {res : Int32} (h : M_X7_isShelf x0 = res) : x_M G l yX7_isShelf cX7_isShelf 1 (some .boolean) (1) 0 0 [.int x0] ([] : va_W) (x_is (some (.int res)) ([] : va_W)) := by
  unfold M_X7_isShelf at h
  refine x_enter (ini := false) (by decide) rfl (by decide) rfl (Nat.le_of_ble_eq_true rfl) ?_
  refine x_iload_n dX7_isShelf_0 0 rfl rfl ?_
  refine x_i2l dX7_isShelf_1 ?_
  refine x_lconst 0 dX7_isShelf_2 (by decide) ?_
  refine x_ldc2 dX7_isShelf_3 kl_X7_186 ?_
  refine x_cS (As := [.long x0.toInt64, .long (0 : Int64), .long (2 : Int64)]) (wc := ([] : va_W)) (w1 := ([] : va_W)) (pre := []) (post := ([] : va_W)) (rest := []) (st1 := [.int (M_X7_in x0.toInt64 (0 : Int64) (2 : Int64))]) (ws1 := ([] : va_W)) dX7_isShelf_6 (c_X7_in rfl) pk_X7_in ml_X7_69 rfl rfl rfl rfl rfl rfl rfl ?_
  subst h
  exact x_ireturn dX7_isShelf_9 M_X7_in_b (x_is.rf _ _)
theorem pk_X7_keep : x_pv RX7 yX7_keep cX7_keep 3 (some .int) 1 := ⟨⟨co_X7_keep, ni_X7, by decide, by decide +kernel⟩, im_X7_keep, se_X7_keep⟩
def M_X7_keep_b23 (now : (Nat → Int32)) : Nat → (Nat → Int32) → (Nat → Int32) → Int32 → Int32 → Option (Int32 × (Nat → Int32) × (Nat → Int32))
  | 0, _, _, _, _ => none
  | n + 1, kept, isKept, x1, x2 =>
    if (85 : Int32) ≤ x2 then
    (if inb x1 3 then
    some ((now 35), kept, (upd isKept x1.toNatClampNeg (vp_nar .boolean (1 : Int32))))
    else none)
    else
    (if inb x2 85 then
    if inb (((85 : Int32) * x1) + x2) 255 then
    M_X7_keep_b23 now n (upd kept (((85 : Int32) * x1) + x2).toNatClampNeg (now x2.toNatClampNeg)) isKept x1 (x2 + (1 : Int32))
    else none
    else none)
set_option maxHeartbeats 4000000 in
set_option maxRecDepth 100000 in
theorem w_X7_keep_b23 {G : x_G} {l : Launch} {a : Nat → Nat} {now : (Nat → Int32)} {rows : (Nat → Int32)} {rowLong : (Nat → Int32)} {texts : (Nat → Int32)} {textLong : (Nat → Int32)} {found : (Nat → Int32)} {taken : (Nat → Int32)} {anew : (Nat → Int32)} {hand : (Nat → Int32)} {steps : (Nat → Int32)} {shares : (Nat → Int32)} {choices : (Nat → Int32)} {values : (Nat → Int32)} {latest : Int32} {askedIs : Int32} {above : Int64} {below : Int64} {place : Int32} {partedBy : Int32} {res : Int32 × (Nat → Int32) × (Nat → Int32)} : ∀ (n : Nat) (kept : (Nat → Int32)) (isKept : (Nat → Int32)) (x1 : Int32) (x2 : Int32), M_X7_keep_b23 now n kept isKept x1 x2 = some res → X G l RX7 cX7_keep 3 (x_R 2 0 0) (x_Cm G (some .int) false (x_is (some (.int res.1)) (WModel G a now res.2.1 res.2.2 rows rowLong texts textLong found taken anew hand steps shares choices values latest askedIs above below place partedBy)) 0 0) 0 0 23 [(0, .ref (a 0)), (1, .int x1), (2, .int x2)] [] (WModel G a now kept isKept rows rowLong texts textLong found taken anew hand steps shares choices values latest askedIs above below place partedBy) := by
  intro n
  induction n with
  | zero =>
    intro _ _ _ _ h
    cases h
  | succ n ih =>
    intro kept isKept x1 x2 h
    rw [M_X7_keep_b23] at h
    refine x_iload_n dX7_keep_23 2 rfl rfl ?_
    refine x_bipush 85 dX7_keep_24 (by decide) ?_
    refine x_icmp_ge 52 dX7_keep_26 (by decide) (fun c1 => ?_) (fun c1 => ?_)
    · have h := x_pos c1 h
      refine x_aload_n dX7_keep_52 0 rfl rfl ?_
      refine x_get (ci := 5) 2 0 dX7_keep_53 fl_X7_16 inX7 rfl (by decide) ⟨rfl, rfl, rfl⟩ rfl rfl ?_
      refine x_iload_n dX7_keep_56 1 rfl rfl ?_
      refine x_iconst 1 dX7_keep_57 (by decide) ?_
      obtain ⟨b2, h⟩ := x_guard h
      refine x_zast x1.toNatClampNeg (q0 := 3) (WModel G a now kept ((upd isKept x1.toNatClampNeg (vp_nar .boolean (1 : Int32)))) rows rowLong texts textLong found taken anew hand steps shares choices values latest askedIs above below place partedBy) dX7_keep_58 rfl rfl b2 rfl ?_
      refine x_aload_n dX7_keep_59 0 rfl rfl ?_
      refine x_get (ci := 5) 0 0 dX7_keep_60 fl_X7_7 inX7 rfl (by decide) ⟨rfl, rfl, rfl⟩ rfl rfl ?_
      refine x_bipush 35 dX7_keep_63 (by decide) ?_
      refine x_iald 35 (q0 := 1) dX7_keep_65 (by decide) rfl (by decide) ?_
      cases h
      exact x_ireturn dX7_keep_66 rfl (x_is.rf _ _)
    · have h := x_neg c1 h
      refine x_aload_n dX7_keep_29 0 rfl rfl ?_
      refine x_get (ci := 5) 1 0 dX7_keep_30 fl_X7_13 inX7 rfl (by decide) ⟨rfl, rfl, rfl⟩ rfl rfl ?_
      refine x_bipush 85 dX7_keep_33 (by decide) ?_
      refine x_iload_n dX7_keep_35 1 rfl rfl ?_
      refine x_imul dX7_keep_36 ?_
      refine x_iload_n dX7_keep_37 2 rfl rfl ?_
      refine x_iadd dX7_keep_38 ?_
      refine x_aload_n dX7_keep_39 0 rfl rfl ?_
      refine x_get (ci := 5) 0 0 dX7_keep_40 fl_X7_7 inX7 rfl (by decide) ⟨rfl, rfl, rfl⟩ rfl rfl ?_
      refine x_iload_n dX7_keep_43 2 rfl rfl ?_
      obtain ⟨b3, h⟩ := x_guard h
      refine x_iald x2.toNatClampNeg (q0 := 1) dX7_keep_44 rfl rfl b3 ?_
      obtain ⟨b4, h⟩ := x_guard h
      refine x_iast (((85 : Int32) * x1) + x2).toNatClampNeg (q0 := 2) (WModel G a now ((upd kept (((85 : Int32) * x1) + x2).toNatClampNeg (now x2.toNatClampNeg))) isKept rows rowLong texts textLong found taken anew hand steps shares choices values latest askedIs above below place partedBy) dX7_keep_45 rfl rfl b4 rfl ?_
      refine x_iinc (j := 2) (1 : Int32) [(2, .int (x2 + (1 : Int32))), (0, .ref (a 0)), (1, .int x1)] dX7_keep_46 (by decide) rfl (by decide) rfl ?_
      refine x_goto 23 dX7_keep_49 (by decide) ?_
      refine x_lv [1, 2, 0] rfl ?_
      exact ih _ _ _ _ h
def M_X7_keep (now : (Nat → Int32)) (kept : (Nat → Int32)) (isKept : (Nat → Int32)) (x1 : Int32) : Option (Int32 × (Nat → Int32) × (Nat → Int32)) :=
  if (M_X7_isShelf x1) = 0 then
  (some ((-1 : Int32), kept, isKept))
  else
  (if (now 0) = 0 then
  (some ((-4 : Int32), kept, isKept))
  else
  (M_X7_keep_b23 now x_fuel kept isKept x1 (0 : Int32)))
set_option maxHeartbeats 4000000 in
set_option maxRecDepth 100000 in
theorem c_X7_keep {G : x_G} {l : Launch} {a : Nat → Nat} {now : (Nat → Int32)} {rows : (Nat → Int32)} {rowLong : (Nat → Int32)} {texts : (Nat → Int32)} {textLong : (Nat → Int32)} {found : (Nat → Int32)} {taken : (Nat → Int32)} {anew : (Nat → Int32)} {hand : (Nat → Int32)} {steps : (Nat → Int32)} {shares : (Nat → Int32)} {choices : (Nat → Int32)} {values : (Nat → Int32)} {latest : Int32} {askedIs : Int32} {above : Int64} {below : Int64} {place : Int32} {partedBy : Int32} {kept : (Nat → Int32)} {isKept : (Nat → Int32)} {x1 : Int32} {res : Int32 × (Nat → Int32) × (Nat → Int32)} (h : M_X7_keep now kept isKept x1 = some res) : x_M G l yX7_keep cX7_keep 3 (some .int) (2) 0 0 [.ref (a 0), .int x1] (WModel G a now kept isKept rows rowLong texts textLong found taken anew hand steps shares choices values latest askedIs above below place partedBy) (x_is (some (.int res.1)) (WModel G a now res.2.1 res.2.2 rows rowLong texts textLong found taken anew hand steps shares choices values latest askedIs above below place partedBy)) := by
  unfold M_X7_keep at h
  refine x_enter (ini := false) (by decide) rfl (by decide) rfl (Nat.le_of_ble_eq_true rfl) ?_
  refine x_iload_n dX7_keep_0 1 rfl rfl ?_
  refine x_cS (As := [.int x1]) (wc := ([] : va_W)) (w1 := ([] : va_W)) (pre := []) (post := (WModel G a now kept isKept rows rowLong texts textLong found taken anew hand steps shares choices values latest askedIs above below place partedBy)) (rest := []) (st1 := [.int (M_X7_isShelf x1)]) (ws1 := (WModel G a now kept isKept rows rowLong texts textLong found taken anew hand steps shares choices values latest askedIs above below place partedBy)) dX7_keep_1 (c_X7_isShelf rfl) pk_X7_isShelf ml_X7_188 rfl rfl rfl rfl rfl rfl rfl ?_
  refine x_if_ne 9 dX7_keep_4 (by decide) (fun c5 => ?_) (fun c5 => ?_)
  · have h := x_neg c5 h
    refine x_aload_n dX7_keep_9 0 rfl rfl ?_
    refine x_get (ci := 5) 0 0 dX7_keep_10 fl_X7_7 inX7 rfl (by decide) ⟨rfl, rfl, rfl⟩ rfl rfl ?_
    refine x_iconst 0 dX7_keep_13 (by decide) ?_
    refine x_iald 0 (q0 := 1) dX7_keep_14 (by decide) rfl (by decide) ?_
    refine x_if_ne 21 dX7_keep_15 (by decide) (fun c6 => ?_) (fun c6 => ?_)
    · have h := x_neg c6 h
      refine x_iconst 0 dX7_keep_21 (by decide) ?_
      refine x_istore_n [(2, .int (0 : Int32)), (0, .ref (a 0)), (1, .int x1)] dX7_keep_22 rfl (by decide) rfl ?_
      refine x_lv [1, 2, 0] rfl ?_
      exact w_X7_keep_b23  _ _ _ _ _ h
    · have h := x_pos c6 h
      refine x_bipush (-4 : Int32) dX7_keep_18 (by decide) ?_
      cases h
      exact x_ireturn dX7_keep_20 rfl (x_is.rf _ _)
  · have h := x_pos c5 h
    refine x_iconst (-1 : Int32) dX7_keep_7 (by decide) ?_
    cases h
    exact x_ireturn dX7_keep_8 rfl (x_is.rf _ _)
theorem pk_X7_on : x_pv RX7 yX7_on cX7_on 3 (some .int) 1 := ⟨⟨co_X7_on, ni_X7, by decide, by decide +kernel⟩, im_X7_on, se_X7_on⟩
def M_X7_on_b26 (kept : (Nat → Int32)) (isKept : (Nat → Int32)) : Nat → (Nat → Int32) → (Nat → Int32) → Int32 → Int32 → Int32 → Option (Int32 × (Nat → Int32) × (Nat → Int32) × Int32)
  | 0, _, _, _, _, _ => none
  | n + 1, now, found, latest, x1, x2 =>
    if (85 : Int32) ≤ x2 then
    (some ((now 35), now, found, latest))
    else
    (if inb (((85 : Int32) * x1) + x2) 255 then
    if inb x2 85 then
    M_X7_on_b26 kept isKept n (upd now x2.toNatClampNeg (kept (((85 : Int32) * x1) + x2).toNatClampNeg)) found latest x1 (x2 + (1 : Int32))
    else none
    else none)
set_option maxHeartbeats 4000000 in
set_option maxRecDepth 100000 in
theorem w_X7_on_b26 {G : x_G} {l : Launch} {a : Nat → Nat} {kept : (Nat → Int32)} {isKept : (Nat → Int32)} {rows : (Nat → Int32)} {rowLong : (Nat → Int32)} {texts : (Nat → Int32)} {textLong : (Nat → Int32)} {taken : (Nat → Int32)} {anew : (Nat → Int32)} {hand : (Nat → Int32)} {steps : (Nat → Int32)} {shares : (Nat → Int32)} {choices : (Nat → Int32)} {values : (Nat → Int32)} {askedIs : Int32} {above : Int64} {below : Int64} {place : Int32} {partedBy : Int32} {res : Int32 × (Nat → Int32) × (Nat → Int32) × Int32} : ∀ (n : Nat) (now : (Nat → Int32)) (found : (Nat → Int32)) (latest : Int32) (x1 : Int32) (x2 : Int32), M_X7_on_b26 kept isKept n now found latest x1 x2 = some res → X G l RX7 cX7_on 3 (x_R 2 0 0) (x_Cm G (some .int) false (x_is (some (.int res.1)) (WModel G a res.2.1 kept isKept rows rowLong texts textLong res.2.2.1 taken anew hand steps shares choices values res.2.2.2 askedIs above below place partedBy)) 0 0) 0 0 26 [(0, .ref (a 0)), (1, .int x1), (2, .int x2)] [] (WModel G a now kept isKept rows rowLong texts textLong found taken anew hand steps shares choices values latest askedIs above below place partedBy) := by
  intro n
  induction n with
  | zero =>
    intro _ _ _ _ _ h
    cases h
  | succ n ih =>
    intro now found latest x1 x2 h
    rw [M_X7_on_b26] at h
    refine x_iload_n dX7_on_26 2 rfl rfl ?_
    refine x_bipush 85 dX7_on_27 (by decide) ?_
    refine x_icmp_ge 55 dX7_on_29 (by decide) (fun c1 => ?_) (fun c1 => ?_)
    · have h := x_pos c1 h
      refine x_aload_n dX7_on_55 0 rfl rfl ?_
      refine x_get (ci := 5) 0 0 dX7_on_56 fl_X7_7 inX7 rfl (by decide) ⟨rfl, rfl, rfl⟩ rfl rfl ?_
      refine x_bipush 35 dX7_on_59 (by decide) ?_
      refine x_iald 35 (q0 := 1) dX7_on_61 (by decide) rfl (by decide) ?_
      cases h
      exact x_ireturn dX7_on_62 rfl (x_is.rf _ _)
    · have h := x_neg c1 h
      refine x_aload_n dX7_on_32 0 rfl rfl ?_
      refine x_get (ci := 5) 0 0 dX7_on_33 fl_X7_7 inX7 rfl (by decide) ⟨rfl, rfl, rfl⟩ rfl rfl ?_
      refine x_iload_n dX7_on_36 2 rfl rfl ?_
      refine x_aload_n dX7_on_37 0 rfl rfl ?_
      refine x_get (ci := 5) 1 0 dX7_on_38 fl_X7_13 inX7 rfl (by decide) ⟨rfl, rfl, rfl⟩ rfl rfl ?_
      refine x_bipush 85 dX7_on_41 (by decide) ?_
      refine x_iload_n dX7_on_43 1 rfl rfl ?_
      refine x_imul dX7_on_44 ?_
      refine x_iload_n dX7_on_45 2 rfl rfl ?_
      refine x_iadd dX7_on_46 ?_
      obtain ⟨b2, h⟩ := x_guard h
      refine x_iald (((85 : Int32) * x1) + x2).toNatClampNeg (q0 := 2) dX7_on_47 rfl rfl b2 ?_
      obtain ⟨b3, h⟩ := x_guard h
      refine x_iast x2.toNatClampNeg (q0 := 1) (WModel G a ((upd now x2.toNatClampNeg (kept (((85 : Int32) * x1) + x2).toNatClampNeg))) kept isKept rows rowLong texts textLong found taken anew hand steps shares choices values latest askedIs above below place partedBy) dX7_on_48 rfl rfl b3 rfl ?_
      refine x_iinc (j := 2) (1 : Int32) [(2, .int (x2 + (1 : Int32))), (0, .ref (a 0)), (1, .int x1)] dX7_on_49 (by decide) rfl (by decide) rfl ?_
      refine x_goto 26 dX7_on_52 (by decide) ?_
      refine x_lv [1, 2, 0] rfl ?_
      exact ih _ _ _ _ _ h
def M_X7_on (kept : (Nat → Int32)) (isKept : (Nat → Int32)) (now : (Nat → Int32)) (found : (Nat → Int32)) (latest : Int32) (x1 : Int32) : Option (Int32 × (Nat → Int32) × (Nat → Int32) × Int32) :=
  if (M_X7_isShelf x1) = 0 then
  (some ((-1 : Int32), now, found, latest))
  else
  (if inb x1 3 then
  if (isKept x1.toNatClampNeg) = 0 then
  ((M_X7_finds found latest (1 : Int32)).bind fun r7 =>
  some (r7.1, now, r7.2.1, r7.2.2))
  else
  (M_X7_on_b26 kept isKept x_fuel now found latest x1 (0 : Int32))
  else none)
set_option maxHeartbeats 4000000 in
set_option maxRecDepth 100000 in
theorem c_X7_on {G : x_G} {l : Launch} {a : Nat → Nat} {kept : (Nat → Int32)} {isKept : (Nat → Int32)} {rows : (Nat → Int32)} {rowLong : (Nat → Int32)} {texts : (Nat → Int32)} {textLong : (Nat → Int32)} {taken : (Nat → Int32)} {anew : (Nat → Int32)} {hand : (Nat → Int32)} {steps : (Nat → Int32)} {shares : (Nat → Int32)} {choices : (Nat → Int32)} {values : (Nat → Int32)} {askedIs : Int32} {above : Int64} {below : Int64} {place : Int32} {partedBy : Int32} {now : (Nat → Int32)} {found : (Nat → Int32)} {latest : Int32} {x1 : Int32} {res : Int32 × (Nat → Int32) × (Nat → Int32) × Int32} (h : M_X7_on kept isKept now found latest x1 = some res) : x_M G l yX7_on cX7_on 3 (some .int) (2) 0 0 [.ref (a 0), .int x1] (WModel G a now kept isKept rows rowLong texts textLong found taken anew hand steps shares choices values latest askedIs above below place partedBy) (x_is (some (.int res.1)) (WModel G a res.2.1 kept isKept rows rowLong texts textLong res.2.2.1 taken anew hand steps shares choices values res.2.2.2 askedIs above below place partedBy)) := by
  unfold M_X7_on at h
  refine x_enter (ini := false) (by decide) rfl (by decide) rfl (Nat.le_of_ble_eq_true rfl) ?_
  refine x_iload_n dX7_on_0 1 rfl rfl ?_
  refine x_cS (As := [.int x1]) (wc := ([] : va_W)) (w1 := ([] : va_W)) (pre := []) (post := (WModel G a now kept isKept rows rowLong texts textLong found taken anew hand steps shares choices values latest askedIs above below place partedBy)) (rest := []) (st1 := [.int (M_X7_isShelf x1)]) (ws1 := (WModel G a now kept isKept rows rowLong texts textLong found taken anew hand steps shares choices values latest askedIs above below place partedBy)) dX7_on_1 (c_X7_isShelf rfl) pk_X7_isShelf ml_X7_188 rfl rfl rfl rfl rfl rfl rfl ?_
  refine x_if_ne 9 dX7_on_4 (by decide) (fun c4 => ?_) (fun c4 => ?_)
  · have h := x_neg c4 h
    refine x_aload_n dX7_on_9 0 rfl rfl ?_
    refine x_get (ci := 5) 2 0 dX7_on_10 fl_X7_16 inX7 rfl (by decide) ⟨rfl, rfl, rfl⟩ rfl rfl ?_
    refine x_iload_n dX7_on_13 1 rfl rfl ?_
    obtain ⟨b5, h⟩ := x_guard h
    refine x_zald x1.toNatClampNeg (q0 := 3) dX7_on_14 rfl rfl b5 ?_
    refine x_if_ne 24 dX7_on_15 (by decide) (fun c6 => ?_) (fun c6 => ?_)
    · have h := x_neg c6 h
      refine x_iconst 0 dX7_on_24 (by decide) ?_
      refine x_istore_n [(2, .int (0 : Int32)), (0, .ref (a 0)), (1, .int x1)] dX7_on_25 rfl (by decide) rfl ?_
      refine x_lv [1, 2, 0] rfl ?_
      exact w_X7_on_b26  _ _ _ _ _ _ h
    · have h := x_pos c6 h
      refine x_aload_n dX7_on_18 0 rfl rfl ?_
      refine x_iconst 1 dX7_on_19 (by decide) ?_
      obtain ⟨r7, e8, h⟩ := x_bind h
      refine x_cV (As := [.int (1 : Int32)]) (wc := (WModel G a now kept isKept rows rowLong texts textLong found taken anew hand steps shares choices values latest askedIs above below place partedBy)) (w1 := (WModel G a now kept isKept rows rowLong texts textLong r7.2.1 taken anew hand steps shares choices values r7.2.2 askedIs above below place partedBy)) (pre := []) (post := []) (rest := []) (st1 := [.int r7.1]) (ws1 := (WModel G a now kept isKept rows rowLong texts textLong r7.2.1 taken anew hand steps shares choices values r7.2.2 askedIs above below place partedBy)) (ci := 5) 0 dX7_on_20 (c_X7_finds (a := a) e8) pk_X7_finds ml_X7_79 (x_full _) rfl rfl rfl rfl rfl rfl rfl rfl (x_full _).symm ?_
      cases h
      exact x_ireturn dX7_on_23 rfl (x_is.rf _ _)
  · have h := x_pos c4 h
    refine x_iconst (-1 : Int32) dX7_on_7 (by decide) ?_
    cases h
    exact x_ireturn dX7_on_8 rfl (x_is.rf _ _)
theorem pk_X7_passes : x_pv RX7 yX7_passes cX7_passes 3 (some .int) 2 := ⟨⟨co_X7_passes, ni_X7, by decide, by decide +kernel⟩, im_X7_passes, se_X7_passes⟩
def M_X7_passes (now : (Nat → Int32)) (x1 : Int32) (x2 : Int32) : Option (Int32) :=
  if (M_X7_isRope now x1) = 0 then
  (some (-1 : Int32))
  else
  (if (M_X7_in x2.toInt64 (0 : Int64) (99 : Int64)) = 0 then
  (some (-1 : Int32))
  else
  (if inb ((2 : Int32) + x1) 85 then
  some (M_X7_passesAs (now ((2 : Int32) + x1).toNatClampNeg) x2)
  else none))
set_option maxHeartbeats 4000000 in
set_option maxRecDepth 100000 in
theorem c_X7_passes {G : x_G} {l : Launch} {a : Nat → Nat} {now : (Nat → Int32)} {kept : (Nat → Int32)} {isKept : (Nat → Int32)} {rows : (Nat → Int32)} {rowLong : (Nat → Int32)} {texts : (Nat → Int32)} {textLong : (Nat → Int32)} {found : (Nat → Int32)} {taken : (Nat → Int32)} {anew : (Nat → Int32)} {hand : (Nat → Int32)} {steps : (Nat → Int32)} {shares : (Nat → Int32)} {choices : (Nat → Int32)} {values : (Nat → Int32)} {latest : Int32} {askedIs : Int32} {above : Int64} {below : Int64} {place : Int32} {partedBy : Int32} {x1 : Int32} {x2 : Int32} {res : Int32} (h : M_X7_passes now x1 x2 = some res) : x_M G l yX7_passes cX7_passes 3 (some .int) (2) 0 0 [.ref (a 0), .int x1, .int x2] (WModel G a now kept isKept rows rowLong texts textLong found taken anew hand steps shares choices values latest askedIs above below place partedBy) (x_is (some (.int res)) (WModel G a now kept isKept rows rowLong texts textLong found taken anew hand steps shares choices values latest askedIs above below place partedBy)) := by
  unfold M_X7_passes at h
  refine x_enter (ini := false) (by decide) rfl (by decide) rfl (Nat.le_of_ble_eq_true rfl) ?_
  refine x_aload_n dX7_passes_0 0 rfl rfl ?_
  refine x_iload_n dX7_passes_1 1 rfl rfl ?_
  refine x_cV (As := [.int x1]) (wc := (WModel G a now kept isKept rows rowLong texts textLong found taken anew hand steps shares choices values latest askedIs above below place partedBy)) (w1 := (WModel G a now kept isKept rows rowLong texts textLong found taken anew hand steps shares choices values latest askedIs above below place partedBy)) (pre := []) (post := []) (rest := []) (st1 := [.int (M_X7_isRope now x1)]) (ws1 := (WModel G a now kept isKept rows rowLong texts textLong found taken anew hand steps shares choices values latest askedIs above below place partedBy)) (ci := 5) 0 dX7_passes_2 (c_X7_isRope (a := a) rfl) pk_X7_isRope ml_X7_155 (x_full _) rfl rfl rfl rfl rfl rfl rfl rfl (x_full _).symm ?_
  refine x_if_eq 35 dX7_passes_5 (by decide) (fun c1 => ?_) (fun c1 => ?_)
  · have h := x_pos c1 h
    refine x_iconst (-1 : Int32) dX7_passes_35 (by decide) ?_
    cases h
    exact x_ireturn dX7_passes_36 rfl (x_is.rf _ _)
  · have h := x_neg c1 h
    refine x_iload_n dX7_passes_8 2 rfl rfl ?_
    refine x_i2l dX7_passes_9 ?_
    refine x_lconst 0 dX7_passes_10 (by decide) ?_
    refine x_ldc2 dX7_passes_11 kl_X7_191 ?_
    refine x_cS (As := [.long x2.toInt64, .long (0 : Int64), .long (99 : Int64)]) (wc := ([] : va_W)) (w1 := ([] : va_W)) (pre := []) (post := (WModel G a now kept isKept rows rowLong texts textLong found taken anew hand steps shares choices values latest askedIs above below place partedBy)) (rest := []) (st1 := [.int (M_X7_in x2.toInt64 (0 : Int64) (99 : Int64))]) (ws1 := (WModel G a now kept isKept rows rowLong texts textLong found taken anew hand steps shares choices values latest askedIs above below place partedBy)) dX7_passes_14 (c_X7_in rfl) pk_X7_in ml_X7_69 rfl rfl rfl rfl rfl rfl rfl ?_
    refine x_if_eq 35 dX7_passes_17 (by decide) (fun c2 => ?_) (fun c2 => ?_)
    · have h := x_pos c2 h
      refine x_iconst (-1 : Int32) dX7_passes_35 (by decide) ?_
      cases h
      exact x_ireturn dX7_passes_36 rfl (x_is.rf _ _)
    · have h := x_neg c2 h
      refine x_aload_n dX7_passes_20 0 rfl rfl ?_
      refine x_get (ci := 5) 0 0 dX7_passes_21 fl_X7_7 inX7 rfl (by decide) ⟨rfl, rfl, rfl⟩ rfl rfl ?_
      refine x_iconst 2 dX7_passes_24 (by decide) ?_
      refine x_iload_n dX7_passes_25 1 rfl rfl ?_
      refine x_iadd dX7_passes_26 ?_
      obtain ⟨b3, h⟩ := x_guard h
      refine x_iald ((2 : Int32) + x1).toNatClampNeg (q0 := 1) dX7_passes_27 rfl rfl b3 ?_
      refine x_iload_n dX7_passes_28 2 rfl rfl ?_
      refine x_cS (As := [.int (now ((2 : Int32) + x1).toNatClampNeg), .int x2]) (wc := ([] : va_W)) (w1 := ([] : va_W)) (pre := []) (post := (WModel G a now kept isKept rows rowLong texts textLong found taken anew hand steps shares choices values latest askedIs above below place partedBy)) (rest := []) (st1 := [.int (M_X7_passesAs (now ((2 : Int32) + x1).toNatClampNeg) x2)]) (ws1 := (WModel G a now kept isKept rows rowLong texts textLong found taken anew hand steps shares choices values latest askedIs above below place partedBy)) dX7_passes_29 (c_X7_passesAs rfl) pk_X7_passesAs ml_X7_140 rfl rfl rfl rfl rfl rfl rfl ?_
      refine x_goto 36 dX7_passes_32 (by decide) ?_
      cases h
      exact x_ireturn dX7_passes_36 rfl (x_is.rf _ _)
theorem pk_X7_layHand : x_pv RX7 yX7_layHand cX7_layHand 2 none 0 := ⟨⟨co_X7_layHand, ni_X7, by decide, by decide +kernel⟩, im_X7_layHand, se_X7_layHand⟩
def M_X7_layHand_b2 (now : (Nat → Int32)) : Nat → (Nat → Int32) → Int32 → Option ((Nat → Int32))
  | 0, _, _ => none
  | n + 1, hand, x1 =>
    if (85 : Int32) ≤ x1 then
    (some (hand))
    else
    (if inb x1 85 then
    M_X7_layHand_b2 now n (upd hand x1.toNatClampNeg (now x1.toNatClampNeg)) (x1 + (1 : Int32))
    else none)
set_option maxHeartbeats 4000000 in
set_option maxRecDepth 100000 in
theorem w_X7_layHand_b2 {G : x_G} {l : Launch} {a : Nat → Nat} {now : (Nat → Int32)} {kept : (Nat → Int32)} {isKept : (Nat → Int32)} {rows : (Nat → Int32)} {rowLong : (Nat → Int32)} {texts : (Nat → Int32)} {textLong : (Nat → Int32)} {found : (Nat → Int32)} {taken : (Nat → Int32)} {anew : (Nat → Int32)} {steps : (Nat → Int32)} {shares : (Nat → Int32)} {choices : (Nat → Int32)} {values : (Nat → Int32)} {latest : Int32} {askedIs : Int32} {above : Int64} {below : Int64} {place : Int32} {partedBy : Int32} {res : (Nat → Int32)} : ∀ (n : Nat) (hand : (Nat → Int32)) (x1 : Int32), M_X7_layHand_b2 now n hand x1 = some res → X G l RX7 cX7_layHand 2 (x_R 0 0 0) (x_Cm G none false (x_is none (WModel G a now kept isKept rows rowLong texts textLong found taken anew res steps shares choices values latest askedIs above below place partedBy)) 0 0) 0 0 2 [(0, .ref (a 0)), (1, .int x1)] [] (WModel G a now kept isKept rows rowLong texts textLong found taken anew hand steps shares choices values latest askedIs above below place partedBy) := by
  intro n
  induction n with
  | zero =>
    intro _ _ h
    cases h
  | succ n ih =>
    intro hand x1 h
    rw [M_X7_layHand_b2] at h
    refine x_iload_n dX7_layHand_2 1 rfl rfl ?_
    refine x_bipush 85 dX7_layHand_3 (by decide) ?_
    refine x_icmp_ge 26 dX7_layHand_5 (by decide) (fun c1 => ?_) (fun c1 => ?_)
    · have h := x_pos c1 h
      cases h
      exact x_return dX7_layHand_26 (x_is.rf _ _)
    · have h := x_neg c1 h
      refine x_aload_n dX7_layHand_8 0 rfl rfl ?_
      refine x_get (ci := 5) 16 0 dX7_layHand_9 fl_X7_45 inX7 rfl (by decide) ⟨rfl, rfl, rfl⟩ rfl rfl ?_
      refine x_iload_n dX7_layHand_12 1 rfl rfl ?_
      refine x_aload_n dX7_layHand_13 0 rfl rfl ?_
      refine x_get (ci := 5) 0 0 dX7_layHand_14 fl_X7_7 inX7 rfl (by decide) ⟨rfl, rfl, rfl⟩ rfl rfl ?_
      refine x_iload_n dX7_layHand_17 1 rfl rfl ?_
      obtain ⟨b2, h⟩ := x_guard h
      refine x_iald x1.toNatClampNeg (q0 := 1) dX7_layHand_18 rfl rfl b2 ?_
      refine x_iast x1.toNatClampNeg (q0 := 11) (WModel G a now kept isKept rows rowLong texts textLong found taken anew ((upd hand x1.toNatClampNeg (now x1.toNatClampNeg))) steps shares choices values latest askedIs above below place partedBy) dX7_layHand_19 rfl rfl b2 rfl ?_
      refine x_iinc (j := 1) (1 : Int32) [(1, .int (x1 + (1 : Int32))), (0, .ref (a 0))] dX7_layHand_20 (by decide) rfl (by decide) rfl ?_
      refine x_goto 2 dX7_layHand_23 (by decide) ?_
      refine x_lv [1, 0] rfl ?_
      exact ih _ _ h
def M_X7_layHand (now : (Nat → Int32)) (hand : (Nat → Int32)) : Option ((Nat → Int32)) :=
  M_X7_layHand_b2 now x_fuel hand (0 : Int32)
set_option maxHeartbeats 4000000 in
set_option maxRecDepth 100000 in
theorem c_X7_layHand {G : x_G} {l : Launch} {a : Nat → Nat} {now : (Nat → Int32)} {kept : (Nat → Int32)} {isKept : (Nat → Int32)} {rows : (Nat → Int32)} {rowLong : (Nat → Int32)} {texts : (Nat → Int32)} {textLong : (Nat → Int32)} {found : (Nat → Int32)} {taken : (Nat → Int32)} {anew : (Nat → Int32)} {steps : (Nat → Int32)} {shares : (Nat → Int32)} {choices : (Nat → Int32)} {values : (Nat → Int32)} {latest : Int32} {askedIs : Int32} {above : Int64} {below : Int64} {place : Int32} {partedBy : Int32} {hand : (Nat → Int32)} {res : (Nat → Int32)} (h : M_X7_layHand now hand = some res) : x_M G l yX7_layHand cX7_layHand 2 none (0) 0 0 [.ref (a 0)] (WModel G a now kept isKept rows rowLong texts textLong found taken anew hand steps shares choices values latest askedIs above below place partedBy) (x_is none (WModel G a now kept isKept rows rowLong texts textLong found taken anew res steps shares choices values latest askedIs above below place partedBy)) := by
  unfold M_X7_layHand at h
  refine x_enter (ini := false) (by decide) rfl (by decide) rfl (Nat.le_of_ble_eq_true rfl) ?_
  refine x_iconst 0 dX7_layHand_0 (by decide) ?_
  refine x_istore_n [(1, .int (0 : Int32)), (0, .ref (a 0))] dX7_layHand_1 rfl (by decide) rfl ?_
  refine x_lv [1, 0] rfl ?_
  exact w_X7_layHand_b2  _ _ _ h
def M_X7_goHaul_hand_b172 (k39 : (Nat → Int32) → Int32 → Int32 → Int32 → Int32 → Option (Int32 × (Nat → Int32) × Int32)) (hand : (Nat → Int32)) (partedBy : Int32) (x5 : Int32) (x6 : Int32) (s0 : Int32) : Option (Int32 × (Nat → Int32) × Int32) :=
  k39 hand partedBy s0 x5 x6
set_option maxHeartbeats 4000000 in
set_option maxRecDepth 100000 in
theorem w_X7_goHaul_hand_b172 {G : x_G} {l : Launch} {a : Nat → Nat} {now : (Nat → Int32)} {kept : (Nat → Int32)} {isKept : (Nat → Int32)} {rows : (Nat → Int32)} {rowLong : (Nat → Int32)} {texts : (Nat → Int32)} {textLong : (Nat → Int32)} {found : (Nat → Int32)} {taken : (Nat → Int32)} {anew : (Nat → Int32)} {steps : (Nat → Int32)} {shares : (Nat → Int32)} {choices : (Nat → Int32)} {values : (Nat → Int32)} {latest : Int32} {askedIs : Int32} {above : Int64} {below : Int64} {place : Int32} {k39 : (Nat → Int32) → Int32 → Int32 → Int32 → Int32 → Option (Int32 × (Nat → Int32) × Int32)} {res : Int32 × (Nat → Int32) × Int32} (hk39 : ∀ (hand : (Nat → Int32)) (partedBy : Int32) (x4 : Int32) (x5 : Int32) (x6 : Int32), k39 hand partedBy x4 x5 x6 = some res → X G l RX7 cX7_goHaul 8 (x_R 2 0 0) (x_Cm G (some .int) false (x_is (some (.int res.1)) (WModel G a now kept isKept rows rowLong texts textLong found taken anew res.2.1 steps shares choices values latest askedIs above below place res.2.2)) 0 0) 0 0 39 [(0, .ref (a 0)), (1, .ref (a 11)), (4, .int x4), (5, .int x5), (6, .int x6)] [] (WModel G a now kept isKept rows rowLong texts textLong found taken anew hand steps shares choices values latest askedIs above below place partedBy)) (hand : (Nat → Int32)) (partedBy : Int32) (x5 : Int32) (x6 : Int32) (s0 : Int32) (h : M_X7_goHaul_hand_b172 k39 hand partedBy x5 x6 s0 = some res) : X G l RX7 cX7_goHaul 8 (x_R 2 0 0) (x_Cm G (some .int) false (x_is (some (.int res.1)) (WModel G a now kept isKept rows rowLong texts textLong found taken anew res.2.1 steps shares choices values latest askedIs above below place res.2.2)) 0 0) 0 0 172 [(0, .ref (a 0)), (1, .ref (a 11)), (5, .int x5), (6, .int x6)] [.int s0] (WModel G a now kept isKept rows rowLong texts textLong found taken anew hand steps shares choices values latest askedIs above below place partedBy) := by
  unfold M_X7_goHaul_hand_b172 at h
  refine x_istore [(4, .int s0), (0, .ref (a 0)), (1, .ref (a 11)), (5, .int x5), (6, .int x6)] dX7_goHaul_172 (by decide) rfl ?_
  refine x_goto 39 dX7_goHaul_174 (by decide) ?_
  refine x_lv [1, 2, 0, 3, 4] rfl ?_
  exact hk39 _ _ _ _ _ h
def M_X7_goHaul_hand_b170 (k39 : (Nat → Int32) → Int32 → Int32 → Int32 → Int32 → Option (Int32 × (Nat → Int32) × Int32)) (hand : (Nat → Int32)) (partedBy : Int32) (x5 : Int32) (x6 : Int32) : Option (Int32 × (Nat → Int32) × Int32) :=
  M_X7_goHaul_hand_b172 k39 hand partedBy x5 x6 (-9 : Int32)
set_option maxHeartbeats 4000000 in
set_option maxRecDepth 100000 in
theorem w_X7_goHaul_hand_b170 {G : x_G} {l : Launch} {a : Nat → Nat} {now : (Nat → Int32)} {kept : (Nat → Int32)} {isKept : (Nat → Int32)} {rows : (Nat → Int32)} {rowLong : (Nat → Int32)} {texts : (Nat → Int32)} {textLong : (Nat → Int32)} {found : (Nat → Int32)} {taken : (Nat → Int32)} {anew : (Nat → Int32)} {steps : (Nat → Int32)} {shares : (Nat → Int32)} {choices : (Nat → Int32)} {values : (Nat → Int32)} {latest : Int32} {askedIs : Int32} {above : Int64} {below : Int64} {place : Int32} {k39 : (Nat → Int32) → Int32 → Int32 → Int32 → Int32 → Option (Int32 × (Nat → Int32) × Int32)} {res : Int32 × (Nat → Int32) × Int32} (hk39 : ∀ (hand : (Nat → Int32)) (partedBy : Int32) (x4 : Int32) (x5 : Int32) (x6 : Int32), k39 hand partedBy x4 x5 x6 = some res → X G l RX7 cX7_goHaul 8 (x_R 2 0 0) (x_Cm G (some .int) false (x_is (some (.int res.1)) (WModel G a now kept isKept rows rowLong texts textLong found taken anew res.2.1 steps shares choices values latest askedIs above below place res.2.2)) 0 0) 0 0 39 [(0, .ref (a 0)), (1, .ref (a 11)), (4, .int x4), (5, .int x5), (6, .int x6)] [] (WModel G a now kept isKept rows rowLong texts textLong found taken anew hand steps shares choices values latest askedIs above below place partedBy)) (hand : (Nat → Int32)) (partedBy : Int32) (x5 : Int32) (x6 : Int32) (h : M_X7_goHaul_hand_b170 k39 hand partedBy x5 x6 = some res) : X G l RX7 cX7_goHaul 8 (x_R 2 0 0) (x_Cm G (some .int) false (x_is (some (.int res.1)) (WModel G a now kept isKept rows rowLong texts textLong found taken anew res.2.1 steps shares choices values latest askedIs above below place res.2.2)) 0 0) 0 0 170 [(0, .ref (a 0)), (1, .ref (a 11)), (5, .int x5), (6, .int x6)] [] (WModel G a now kept isKept rows rowLong texts textLong found taken anew hand steps shares choices values latest askedIs above below place partedBy) := by
  unfold M_X7_goHaul_hand_b170 at h
  refine x_bipush (-9 : Int32) dX7_goHaul_170 (by decide) ?_
  exact w_X7_goHaul_hand_b172 hk39 _ _ _ _ _ h
def M_X7_goHaul_hand_b121 (k39 : (Nat → Int32) → Int32 → Int32 → Int32 → Int32 → Option (Int32 × (Nat → Int32) × Int32)) (hand : (Nat → Int32)) (partedBy : Int32) (x4 : Int32) (x5 : Int32) (x6 : Int32) (x7 : Int32) : Option (Int32 × (Nat → Int32) × Int32) :=
  if inb ((2 : Int32) + x4) 85 then
  if x7 = (-9 : Int32) then
  (M_X7_goHaul_hand_b170 k39 hand partedBy (M_X7_passesAs (hand ((2 : Int32) + x4).toNatClampNeg) x5) x6)
  else
  (if (M_X7_passesAs (hand ((2 : Int32) + x4).toNatClampNeg) x5) ≤ 0 then
  (M_X7_goHaul_hand_b170 k39 hand partedBy (M_X7_passesAs (hand ((2 : Int32) + x4).toNatClampNeg) x5) x6)
  else
  (if (M_X7_isFast_85 hand x7) = 0 then
  (M_X7_goHaul_hand_b170 k39 hand partedBy (M_X7_passesAs (hand ((2 : Int32) + x4).toNatClampNeg) x5) x6)
  else
  (if (M_X7_has x6 x7) = 0 then
  (M_X7_goHaul_hand_b172 k39 hand partedBy (M_X7_passesAs (hand ((2 : Int32) + x4).toNatClampNeg) x5) x6 x7)
  else
  (M_X7_goHaul_hand_b170 k39 hand partedBy (M_X7_passesAs (hand ((2 : Int32) + x4).toNatClampNeg) x5) x6))))
  else none
set_option maxHeartbeats 4000000 in
set_option maxRecDepth 100000 in
theorem w_X7_goHaul_hand_b121 {G : x_G} {l : Launch} {a : Nat → Nat} {now : (Nat → Int32)} {kept : (Nat → Int32)} {isKept : (Nat → Int32)} {rows : (Nat → Int32)} {rowLong : (Nat → Int32)} {texts : (Nat → Int32)} {textLong : (Nat → Int32)} {found : (Nat → Int32)} {taken : (Nat → Int32)} {anew : (Nat → Int32)} {steps : (Nat → Int32)} {shares : (Nat → Int32)} {choices : (Nat → Int32)} {values : (Nat → Int32)} {latest : Int32} {askedIs : Int32} {above : Int64} {below : Int64} {place : Int32} {k39 : (Nat → Int32) → Int32 → Int32 → Int32 → Int32 → Option (Int32 × (Nat → Int32) × Int32)} {res : Int32 × (Nat → Int32) × Int32} (hk39 : ∀ (hand : (Nat → Int32)) (partedBy : Int32) (x4 : Int32) (x5 : Int32) (x6 : Int32), k39 hand partedBy x4 x5 x6 = some res → X G l RX7 cX7_goHaul 8 (x_R 2 0 0) (x_Cm G (some .int) false (x_is (some (.int res.1)) (WModel G a now kept isKept rows rowLong texts textLong found taken anew res.2.1 steps shares choices values latest askedIs above below place res.2.2)) 0 0) 0 0 39 [(0, .ref (a 0)), (1, .ref (a 11)), (4, .int x4), (5, .int x5), (6, .int x6)] [] (WModel G a now kept isKept rows rowLong texts textLong found taken anew hand steps shares choices values latest askedIs above below place partedBy)) (hand : (Nat → Int32)) (partedBy : Int32) (x4 : Int32) (x5 : Int32) (x6 : Int32) (x7 : Int32) (h : M_X7_goHaul_hand_b121 k39 hand partedBy x4 x5 x6 x7 = some res) : X G l RX7 cX7_goHaul 8 (x_R 2 0 0) (x_Cm G (some .int) false (x_is (some (.int res.1)) (WModel G a now kept isKept rows rowLong texts textLong found taken anew res.2.1 steps shares choices values latest askedIs above below place res.2.2)) 0 0) 0 0 121 [(0, .ref (a 0)), (1, .ref (a 11)), (4, .int x4), (5, .int x5), (6, .int x6), (7, .int x7)] [] (WModel G a now kept isKept rows rowLong texts textLong found taken anew hand steps shares choices values latest askedIs above below place partedBy) := by
  unfold M_X7_goHaul_hand_b121 at h
  refine x_aload_n dX7_goHaul_121 1 rfl rfl ?_
  refine x_iconst 2 dX7_goHaul_122 (by decide) ?_
  refine x_iload dX7_goHaul_123 2 rfl ?_
  refine x_iadd dX7_goHaul_125 ?_
  obtain ⟨b8, h⟩ := x_guard h
  refine x_iald ((2 : Int32) + x4).toNatClampNeg (q0 := 11) dX7_goHaul_126 rfl rfl b8 ?_
  refine x_iload dX7_goHaul_127 3 rfl ?_
  refine x_cS (As := [.int (hand ((2 : Int32) + x4).toNatClampNeg), .int x5]) (wc := ([] : va_W)) (w1 := ([] : va_W)) (pre := []) (post := (WModel G a now kept isKept rows rowLong texts textLong found taken anew hand steps shares choices values latest askedIs above below place partedBy)) (rest := []) (st1 := [.int (M_X7_passesAs (hand ((2 : Int32) + x4).toNatClampNeg) x5)]) (ws1 := (WModel G a now kept isKept rows rowLong texts textLong found taken anew hand steps shares choices values latest askedIs above below place partedBy)) dX7_goHaul_129 (c_X7_passesAs rfl) pk_X7_passesAs ml_X7_140 rfl rfl rfl rfl rfl rfl rfl ?_
  refine x_istore [(5, .int (M_X7_passesAs (hand ((2 : Int32) + x4).toNatClampNeg) x5)), (0, .ref (a 0)), (1, .ref (a 11)), (4, .int x4), (6, .int x6), (7, .int x7)] dX7_goHaul_132 (by decide) rfl ?_
  refine x_iload dX7_goHaul_134 5 rfl ?_
  refine x_bipush (-9 : Int32) dX7_goHaul_136 (by decide) ?_
  refine x_icmp_eq 170 dX7_goHaul_138 (by decide) (fun c9 => ?_) (fun c9 => ?_)
  · have h := x_pos c9 h
    refine x_lv [1, 2, 0, 4] rfl ?_
    exact w_X7_goHaul_hand_b170 hk39 _ _ _ _ h
  · have h := x_neg c9 h
    refine x_iload dX7_goHaul_141 0 rfl ?_
    refine x_if_le 170 dX7_goHaul_143 (by decide) (fun c10 => ?_) (fun c10 => ?_)
    · have h := x_pos c10 h
      refine x_lv [1, 2, 0, 4] rfl ?_
      exact w_X7_goHaul_hand_b170 hk39 _ _ _ _ h
    · have h := x_neg c10 h
      refine x_aload_n dX7_goHaul_146 2 rfl rfl ?_
      refine x_iload dX7_goHaul_147 5 rfl ?_
      refine x_cS (As := [.ref (a 11), .int x7]) (wc := (WArr G (fun k => a (11 + k)) 85 hand)) (w1 := (WArr G (fun k => a (11 + k)) 85 hand)) (pre := ((WModel G a now kept isKept rows rowLong texts textLong found taken anew hand steps shares choices values latest askedIs above below place partedBy).take 11)) (post := ((WModel G a now kept isKept rows rowLong texts textLong found taken anew hand steps shares choices values latest askedIs above below place partedBy).drop 12)) (rest := []) (st1 := [.int (M_X7_isFast_85 hand x7)]) (ws1 := (WModel G a now kept isKept rows rowLong texts textLong found taken anew hand steps shares choices values latest askedIs above below place partedBy)) dX7_goHaul_149 (c_X7_isFast_85 (aq := (fun k => a (11 + k))) rfl) pk_X7_isFast ml_X7_143 rfl rfl rfl rfl rfl rfl rfl ?_
      refine x_if_eq 170 dX7_goHaul_152 (by decide) (fun c11 => ?_) (fun c11 => ?_)
      · have h := x_pos c11 h
        refine x_lv [1, 2, 0, 4] rfl ?_
        exact w_X7_goHaul_hand_b170 hk39 _ _ _ _ h
      · have h := x_neg c11 h
        refine x_iload dX7_goHaul_155 4 rfl ?_
        refine x_iload dX7_goHaul_157 5 rfl ?_
        refine x_cS (As := [.int x6, .int x7]) (wc := ([] : va_W)) (w1 := ([] : va_W)) (pre := []) (post := (WModel G a now kept isKept rows rowLong texts textLong found taken anew hand steps shares choices values latest askedIs above below place partedBy)) (rest := []) (st1 := [.int (M_X7_has x6 x7)]) (ws1 := (WModel G a now kept isKept rows rowLong texts textLong found taken anew hand steps shares choices values latest askedIs above below place partedBy)) dX7_goHaul_159 (c_X7_has rfl) pk_X7_has ml_X7_130 rfl rfl rfl rfl rfl rfl rfl ?_
        refine x_if_ne 170 dX7_goHaul_162 (by decide) (fun c12 => ?_) (fun c12 => ?_)
        · have h := x_neg c12 h
          refine x_lv [1, 2, 0, 4] rfl ?_
          exact w_X7_goHaul_hand_b170 hk39 _ _ _ _ h
        · have h := x_pos c12 h
          refine x_iload dX7_goHaul_165 5 rfl ?_
          refine x_goto 172 dX7_goHaul_167 (by decide) ?_
          refine x_lv [1, 2, 0, 4] rfl ?_
          exact w_X7_goHaul_hand_b172 hk39 _ _ _ _ _ h
def M_X7_goHaul_hand_b76 (k39 : (Nat → Int32) → Int32 → Int32 → Int32 → Int32 → Option (Int32 × (Nat → Int32) × Int32)) (hand : (Nat → Int32)) (partedBy : Int32) (x4 : Int32) (x5 : Int32) (x6 : Int32) (x7 : Int32) : Option (Int32 × (Nat → Int32) × Int32) :=
  if inb ((76 : Int32) + x4) 85 then
  (M_X7_holdsOf_85 hand x4).bind fun r5 =>
  if (hand ((76 : Int32) + x4).toNatClampNeg) ≤ r5 then
  (M_X7_goHaul_hand_b121 k39 hand partedBy x4 x5 x6 x7)
  else
  (M_X7_goHaul_hand_b121 k39 (upd (upd hand ((76 : Int32) + x4).toNatClampNeg (0 : Int32)) 83 (((upd hand ((76 : Int32) + x4).toNatClampNeg (0 : Int32)) 83) ||| ((1 : Int32) <<< (x4 &&& (31 : Int32))))) x4 x4 x5 x6 (-9 : Int32))
  else none
set_option maxHeartbeats 4000000 in
set_option maxRecDepth 100000 in
theorem w_X7_goHaul_hand_b76 {G : x_G} {l : Launch} {a : Nat → Nat} {now : (Nat → Int32)} {kept : (Nat → Int32)} {isKept : (Nat → Int32)} {rows : (Nat → Int32)} {rowLong : (Nat → Int32)} {texts : (Nat → Int32)} {textLong : (Nat → Int32)} {found : (Nat → Int32)} {taken : (Nat → Int32)} {anew : (Nat → Int32)} {steps : (Nat → Int32)} {shares : (Nat → Int32)} {choices : (Nat → Int32)} {values : (Nat → Int32)} {latest : Int32} {askedIs : Int32} {above : Int64} {below : Int64} {place : Int32} {k39 : (Nat → Int32) → Int32 → Int32 → Int32 → Int32 → Option (Int32 × (Nat → Int32) × Int32)} {res : Int32 × (Nat → Int32) × Int32} (hk39 : ∀ (hand : (Nat → Int32)) (partedBy : Int32) (x4 : Int32) (x5 : Int32) (x6 : Int32), k39 hand partedBy x4 x5 x6 = some res → X G l RX7 cX7_goHaul 8 (x_R 2 0 0) (x_Cm G (some .int) false (x_is (some (.int res.1)) (WModel G a now kept isKept rows rowLong texts textLong found taken anew res.2.1 steps shares choices values latest askedIs above below place res.2.2)) 0 0) 0 0 39 [(0, .ref (a 0)), (1, .ref (a 11)), (4, .int x4), (5, .int x5), (6, .int x6)] [] (WModel G a now kept isKept rows rowLong texts textLong found taken anew hand steps shares choices values latest askedIs above below place partedBy)) (hand : (Nat → Int32)) (partedBy : Int32) (x4 : Int32) (x5 : Int32) (x6 : Int32) (x7 : Int32) (h : M_X7_goHaul_hand_b76 k39 hand partedBy x4 x5 x6 x7 = some res) : X G l RX7 cX7_goHaul 8 (x_R 2 0 0) (x_Cm G (some .int) false (x_is (some (.int res.1)) (WModel G a now kept isKept rows rowLong texts textLong found taken anew res.2.1 steps shares choices values latest askedIs above below place res.2.2)) 0 0) 0 0 76 [(0, .ref (a 0)), (1, .ref (a 11)), (4, .int x4), (5, .int x5), (6, .int x6), (7, .int x7)] [] (WModel G a now kept isKept rows rowLong texts textLong found taken anew hand steps shares choices values latest askedIs above below place partedBy) := by
  unfold M_X7_goHaul_hand_b76 at h
  refine x_aload_n dX7_goHaul_76 1 rfl rfl ?_
  refine x_bipush 76 dX7_goHaul_77 (by decide) ?_
  refine x_iload dX7_goHaul_79 2 rfl ?_
  refine x_iadd dX7_goHaul_81 ?_
  obtain ⟨b4, h⟩ := x_guard h
  refine x_iald ((76 : Int32) + x4).toNatClampNeg (q0 := 11) dX7_goHaul_82 rfl rfl b4 ?_
  refine x_aload_n dX7_goHaul_83 1 rfl rfl ?_
  refine x_iload dX7_goHaul_84 2 rfl ?_
  obtain ⟨r5, e6, h⟩ := x_bind h
  refine x_cS (As := [.ref (a 11), .int x4]) (wc := (WArr G (fun k => a (11 + k)) 85 hand)) (w1 := (WArr G (fun k => a (11 + k)) 85 hand)) (pre := ((WModel G a now kept isKept rows rowLong texts textLong found taken anew hand steps shares choices values latest askedIs above below place partedBy).take 11)) (post := ((WModel G a now kept isKept rows rowLong texts textLong found taken anew hand steps shares choices values latest askedIs above below place partedBy).drop 12)) (rest := [.int (hand ((76 : Int32) + x4).toNatClampNeg)]) (st1 := [.int r5, .int (hand ((76 : Int32) + x4).toNatClampNeg)]) (ws1 := (WModel G a now kept isKept rows rowLong texts textLong found taken anew hand steps shares choices values latest askedIs above below place partedBy)) dX7_goHaul_86 (c_X7_holdsOf_85 (aq := (fun k => a (11 + k))) e6) pk_X7_holdsOf ml_X7_136 rfl rfl rfl rfl rfl rfl rfl ?_
  refine x_icmp_le 121 dX7_goHaul_89 (by decide) (fun c7 => ?_) (fun c7 => ?_)
  · have h := x_pos c7 h
    exact w_X7_goHaul_hand_b121 hk39 _ _ _ _ _ _ h
  · have h := x_neg c7 h
    refine x_aload_n dX7_goHaul_92 1 rfl rfl ?_
    refine x_bipush 76 dX7_goHaul_93 (by decide) ?_
    refine x_iload dX7_goHaul_95 2 rfl ?_
    refine x_iadd dX7_goHaul_97 ?_
    refine x_iconst 0 dX7_goHaul_98 (by decide) ?_
    refine x_iast ((76 : Int32) + x4).toNatClampNeg (q0 := 11) (WModel G a now kept isKept rows rowLong texts textLong found taken anew ((upd hand ((76 : Int32) + x4).toNatClampNeg (0 : Int32))) steps shares choices values latest askedIs above below place partedBy) dX7_goHaul_99 rfl rfl b4 rfl ?_
    refine x_aload_n dX7_goHaul_100 1 rfl rfl ?_
    refine x_bipush 83 dX7_goHaul_101 (by decide) ?_
    refine x_dup2 dX7_goHaul_103 rfl rfl ?_
    refine x_iald 83 (q0 := 11) dX7_goHaul_104 (by decide) rfl (by decide) ?_
    refine x_iconst 1 dX7_goHaul_105 (by decide) ?_
    refine x_iload dX7_goHaul_106 2 rfl ?_
    refine x_ishl dX7_goHaul_108 ?_
    refine x_ior dX7_goHaul_109 ?_
    refine x_iast 83 (q0 := 11) (WModel G a now kept isKept rows rowLong texts textLong found taken anew ((upd (upd hand ((76 : Int32) + x4).toNatClampNeg (0 : Int32)) 83 (((upd hand ((76 : Int32) + x4).toNatClampNeg (0 : Int32)) 83) ||| ((1 : Int32) <<< (x4 &&& (31 : Int32)))))) steps shares choices values latest askedIs above below place partedBy) dX7_goHaul_110 (by decide) rfl (by decide) rfl ?_
    refine x_aload_n dX7_goHaul_111 0 rfl rfl ?_
    refine x_iload dX7_goHaul_112 2 rfl ?_
    refine x_put (ci := 5) (ty := .int) 15 0 (WModel G a now kept isKept rows rowLong texts textLong found taken anew ((upd (upd hand ((76 : Int32) + x4).toNatClampNeg (0 : Int32)) 83 (((upd hand ((76 : Int32) + x4).toNatClampNeg (0 : Int32)) 83) ||| ((1 : Int32) <<< (x4 &&& (31 : Int32)))))) steps shares choices values latest askedIs above below place x4) dX7_goHaul_114 fl_X7_133 inX7 tyX7_ok nmX7 rfl (by decide) ⟨rfl, rfl, rfl, rfl, rfl⟩ rfl rfl rfl rfl rfl ?_
    refine x_bipush (-9 : Int32) dX7_goHaul_117 (by decide) ?_
    refine x_istore [(7, .int (-9 : Int32)), (0, .ref (a 0)), (1, .ref (a 11)), (4, .int x4), (5, .int x5), (6, .int x6)] dX7_goHaul_119 (by decide) rfl ?_
    refine x_lv [1, 2, 3, 4, 5, 0] rfl ?_
    exact w_X7_goHaul_hand_b121 hk39 _ _ _ _ _ _ h
def M_X7_goHaul_hand_b39 : Nat → (Nat → Int32) → Int32 → Int32 → Int32 → Int32 → Option (Int32 × (Nat → Int32) × Int32)
  | 0, _, _, _, _, _ => none
  | n + 1, hand, partedBy, x4, x5, x6 =>
    if x4 = (-9 : Int32) then
    (some (x6, hand, partedBy))
    else
    (if inb ((76 : Int32) + x4) 85 then
    if inb ((14 : Int32) + x4) 85 then
    M_X7_goHaul_hand_b76 (fun (hand' : (Nat → Int32)) (partedBy' : Int32) (x4' : Int32) (x5' : Int32) (x6' : Int32) => M_X7_goHaul_hand_b39 n hand' partedBy' x4' x5' x6') (upd hand ((76 : Int32) + x4).toNatClampNeg ((hand ((76 : Int32) + x4).toNatClampNeg) + x5)) partedBy x4 x5 (x6 ||| ((1 : Int32) <<< (x4 &&& (31 : Int32)))) ((upd hand ((76 : Int32) + x4).toNatClampNeg ((hand ((76 : Int32) + x4).toNatClampNeg) + x5)) ((14 : Int32) + x4).toNatClampNeg)
    else none
    else none)
set_option maxHeartbeats 4000000 in
set_option maxRecDepth 100000 in
theorem w_X7_goHaul_hand_b39 {G : x_G} {l : Launch} {a : Nat → Nat} {now : (Nat → Int32)} {kept : (Nat → Int32)} {isKept : (Nat → Int32)} {rows : (Nat → Int32)} {rowLong : (Nat → Int32)} {texts : (Nat → Int32)} {textLong : (Nat → Int32)} {found : (Nat → Int32)} {taken : (Nat → Int32)} {anew : (Nat → Int32)} {steps : (Nat → Int32)} {shares : (Nat → Int32)} {choices : (Nat → Int32)} {values : (Nat → Int32)} {latest : Int32} {askedIs : Int32} {above : Int64} {below : Int64} {place : Int32} {res : Int32 × (Nat → Int32) × Int32} : ∀ (n : Nat) (hand : (Nat → Int32)) (partedBy : Int32) (x4 : Int32) (x5 : Int32) (x6 : Int32), M_X7_goHaul_hand_b39 n hand partedBy x4 x5 x6 = some res → X G l RX7 cX7_goHaul 8 (x_R 2 0 0) (x_Cm G (some .int) false (x_is (some (.int res.1)) (WModel G a now kept isKept rows rowLong texts textLong found taken anew res.2.1 steps shares choices values latest askedIs above below place res.2.2)) 0 0) 0 0 39 [(0, .ref (a 0)), (1, .ref (a 11)), (4, .int x4), (5, .int x5), (6, .int x6)] [] (WModel G a now kept isKept rows rowLong texts textLong found taken anew hand steps shares choices values latest askedIs above below place partedBy) := by
  intro n
  induction n with
  | zero =>
    intro _ _ _ _ _ h
    cases h
  | succ n ih =>
    intro hand partedBy x4 x5 x6 h
    rw [M_X7_goHaul_hand_b39] at h
    refine x_iload dX7_goHaul_39 2 rfl ?_
    refine x_bipush (-9 : Int32) dX7_goHaul_41 (by decide) ?_
    refine x_icmp_eq 177 dX7_goHaul_43 (by decide) (fun c1 => ?_) (fun c1 => ?_)
    · have h := x_pos c1 h
      refine x_iload dX7_goHaul_177 4 rfl ?_
      cases h
      exact x_ireturn dX7_goHaul_179 rfl (x_is.rf _ _)
    · have h := x_neg c1 h
      refine x_iload dX7_goHaul_46 4 rfl ?_
      refine x_iconst 1 dX7_goHaul_48 (by decide) ?_
      refine x_iload dX7_goHaul_49 2 rfl ?_
      refine x_ishl dX7_goHaul_51 ?_
      refine x_ior dX7_goHaul_52 ?_
      refine x_istore [(6, .int (x6 ||| ((1 : Int32) <<< (x4 &&& (31 : Int32))))), (0, .ref (a 0)), (1, .ref (a 11)), (4, .int x4), (5, .int x5)] dX7_goHaul_53 (by decide) rfl ?_
      refine x_aload_n dX7_goHaul_55 2 rfl rfl ?_
      refine x_bipush 76 dX7_goHaul_56 (by decide) ?_
      refine x_iload dX7_goHaul_58 3 rfl ?_
      refine x_iadd dX7_goHaul_60 ?_
      refine x_dup2 dX7_goHaul_61 rfl rfl ?_
      obtain ⟨b2, h⟩ := x_guard h
      refine x_iald ((76 : Int32) + x4).toNatClampNeg (q0 := 11) dX7_goHaul_62 rfl rfl b2 ?_
      refine x_iload dX7_goHaul_63 4 rfl ?_
      refine x_iadd dX7_goHaul_65 ?_
      refine x_iast ((76 : Int32) + x4).toNatClampNeg (q0 := 11) (WModel G a now kept isKept rows rowLong texts textLong found taken anew ((upd hand ((76 : Int32) + x4).toNatClampNeg ((hand ((76 : Int32) + x4).toNatClampNeg) + x5))) steps shares choices values latest askedIs above below place partedBy) dX7_goHaul_66 rfl rfl b2 rfl ?_
      refine x_aload_n dX7_goHaul_67 2 rfl rfl ?_
      refine x_bipush 14 dX7_goHaul_68 (by decide) ?_
      refine x_iload dX7_goHaul_70 3 rfl ?_
      refine x_iadd dX7_goHaul_72 ?_
      obtain ⟨b3, h⟩ := x_guard h
      refine x_iald ((14 : Int32) + x4).toNatClampNeg (q0 := 11) dX7_goHaul_73 rfl rfl b3 ?_
      refine x_istore [(7, .int ((upd hand ((76 : Int32) + x4).toNatClampNeg ((hand ((76 : Int32) + x4).toNatClampNeg) + x5)) ((14 : Int32) + x4).toNatClampNeg)), (6, .int (x6 ||| ((1 : Int32) <<< (x4 &&& (31 : Int32))))), (0, .ref (a 0)), (1, .ref (a 11)), (4, .int x4), (5, .int x5)] dX7_goHaul_74 (by decide) rfl ?_
      refine x_lv [2, 3, 4, 5, 1, 0] rfl ?_
      exact w_X7_goHaul_hand_b76 (fun hand' partedBy' x4' x5' x6' h => ih hand' partedBy' x4' x5' x6' h) _ _ _ _ _ _ h
def M_X7_goHaul_hand_b27 (hand : (Nat → Int32)) (partedBy : Int32) (x4 : Int32) (s0 : Int32) (s1 : Int32) : Option (Int32 × (Nat → Int32) × Int32) :=
  M_X7_goHaul_hand_b39 x_fuel hand (-9 : Int32) x4 (s0 + s1) (0 : Int32)
set_option maxHeartbeats 4000000 in
set_option maxRecDepth 100000 in
theorem w_X7_goHaul_hand_b27 {G : x_G} {l : Launch} {a : Nat → Nat} {now : (Nat → Int32)} {kept : (Nat → Int32)} {isKept : (Nat → Int32)} {rows : (Nat → Int32)} {rowLong : (Nat → Int32)} {texts : (Nat → Int32)} {textLong : (Nat → Int32)} {found : (Nat → Int32)} {taken : (Nat → Int32)} {anew : (Nat → Int32)} {steps : (Nat → Int32)} {shares : (Nat → Int32)} {choices : (Nat → Int32)} {values : (Nat → Int32)} {latest : Int32} {askedIs : Int32} {above : Int64} {below : Int64} {place : Int32} {res : Int32 × (Nat → Int32) × Int32} (hand : (Nat → Int32)) (partedBy : Int32) (x4 : Int32) (s0 : Int32) (s1 : Int32) (h : M_X7_goHaul_hand_b27 hand partedBy x4 s0 s1 = some res) : X G l RX7 cX7_goHaul 8 (x_R 2 0 0) (x_Cm G (some .int) false (x_is (some (.int res.1)) (WModel G a now kept isKept rows rowLong texts textLong found taken anew res.2.1 steps shares choices values latest askedIs above below place res.2.2)) 0 0) 0 0 27 [(0, .ref (a 0)), (1, .ref (a 11)), (4, .int x4)] [.int s1, .int s0] (WModel G a now kept isKept rows rowLong texts textLong found taken anew hand steps shares choices values latest askedIs above below place partedBy) := by
  unfold M_X7_goHaul_hand_b27 at h
  refine x_iadd dX7_goHaul_27 ?_
  refine x_istore [(5, .int (s0 + s1)), (0, .ref (a 0)), (1, .ref (a 11)), (4, .int x4)] dX7_goHaul_28 (by decide) rfl ?_
  refine x_iconst 0 dX7_goHaul_30 (by decide) ?_
  refine x_istore [(6, .int (0 : Int32)), (5, .int (s0 + s1)), (0, .ref (a 0)), (1, .ref (a 11)), (4, .int x4)] dX7_goHaul_31 (by decide) rfl ?_
  refine x_aload_n dX7_goHaul_33 2 rfl rfl ?_
  refine x_bipush (-9 : Int32) dX7_goHaul_34 (by decide) ?_
  refine x_put (ci := 5) (ty := .int) 15 0 (WModel G a now kept isKept rows rowLong texts textLong found taken anew hand steps shares choices values latest askedIs above below place ((-9 : Int32))) dX7_goHaul_36 fl_X7_133 inX7 tyX7_ok nmX7 rfl (by decide) ⟨rfl, rfl, rfl, rfl, rfl⟩ rfl rfl rfl rfl rfl ?_
  refine x_lv [2, 3, 4, 1, 0] rfl ?_
  exact w_X7_goHaul_hand_b39  _ _ _ _ _ _ h
def M_X7_goHaul_hand_b26 (hand : (Nat → Int32)) (partedBy : Int32) (x4 : Int32) (s0 : Int32) : Option (Int32 × (Nat → Int32) × Int32) :=
  M_X7_goHaul_hand_b27 hand partedBy x4 s0 (0 : Int32)
set_option maxHeartbeats 4000000 in
set_option maxRecDepth 100000 in
theorem w_X7_goHaul_hand_b26 {G : x_G} {l : Launch} {a : Nat → Nat} {now : (Nat → Int32)} {kept : (Nat → Int32)} {isKept : (Nat → Int32)} {rows : (Nat → Int32)} {rowLong : (Nat → Int32)} {texts : (Nat → Int32)} {textLong : (Nat → Int32)} {found : (Nat → Int32)} {taken : (Nat → Int32)} {anew : (Nat → Int32)} {steps : (Nat → Int32)} {shares : (Nat → Int32)} {choices : (Nat → Int32)} {values : (Nat → Int32)} {latest : Int32} {askedIs : Int32} {above : Int64} {below : Int64} {place : Int32} {res : Int32 × (Nat → Int32) × Int32} (hand : (Nat → Int32)) (partedBy : Int32) (x4 : Int32) (s0 : Int32) (h : M_X7_goHaul_hand_b26 hand partedBy x4 s0 = some res) : X G l RX7 cX7_goHaul 8 (x_R 2 0 0) (x_Cm G (some .int) false (x_is (some (.int res.1)) (WModel G a now kept isKept rows rowLong texts textLong found taken anew res.2.1 steps shares choices values latest askedIs above below place res.2.2)) 0 0) 0 0 26 [(0, .ref (a 0)), (1, .ref (a 11)), (4, .int x4)] [.int s0] (WModel G a now kept isKept rows rowLong texts textLong found taken anew hand steps shares choices values latest askedIs above below place partedBy) := by
  unfold M_X7_goHaul_hand_b26 at h
  refine x_iconst 0 dX7_goHaul_26 (by decide) ?_
  exact w_X7_goHaul_hand_b27  _ _ _ _ _ h
def M_X7_goHaul_hand (hand : (Nat → Int32)) (partedBy : Int32) (x2 : Int32) (x3 : Int32) : Option (Int32 × (Nat → Int32) × Int32) :=
  if (hand 84) = (1 : Int32) then
  (if inb ((2 : Int32) + x2) 85 then
  if (hand ((2 : Int32) + x2).toNatClampNeg) = (4 : Int32) then
  (M_X7_goHaul_hand_b26 hand partedBy x2 x3)
  else
  (M_X7_goHaul_hand_b27 hand partedBy x2 x3 (1 : Int32))
  else none)
  else
  (M_X7_goHaul_hand_b26 hand partedBy x2 x3)
set_option maxHeartbeats 4000000 in
set_option maxRecDepth 100000 in
theorem c_X7_goHaul_hand {G : x_G} {l : Launch} {a : Nat → Nat} {now : (Nat → Int32)} {kept : (Nat → Int32)} {isKept : (Nat → Int32)} {rows : (Nat → Int32)} {rowLong : (Nat → Int32)} {texts : (Nat → Int32)} {textLong : (Nat → Int32)} {found : (Nat → Int32)} {taken : (Nat → Int32)} {anew : (Nat → Int32)} {steps : (Nat → Int32)} {shares : (Nat → Int32)} {choices : (Nat → Int32)} {values : (Nat → Int32)} {latest : Int32} {askedIs : Int32} {above : Int64} {below : Int64} {place : Int32} {hand : (Nat → Int32)} {partedBy : Int32} {x2 : Int32} {x3 : Int32} {res : Int32 × (Nat → Int32) × Int32} (h : M_X7_goHaul_hand hand partedBy x2 x3 = some res) : x_M G l yX7_goHaul cX7_goHaul 8 (some .int) (2) 0 0 [.ref (a 0), .ref (a 11), .int x2, .int x3] (WModel G a now kept isKept rows rowLong texts textLong found taken anew hand steps shares choices values latest askedIs above below place partedBy) (x_is (some (.int res.1)) (WModel G a now kept isKept rows rowLong texts textLong found taken anew res.2.1 steps shares choices values latest askedIs above below place res.2.2)) := by
  unfold M_X7_goHaul_hand at h
  refine x_enter (ini := false) (by decide) rfl (by decide) rfl (Nat.le_of_ble_eq_true rfl) ?_
  refine x_iload_n dX7_goHaul_0 2 rfl rfl ?_
  refine x_istore [(4, .int x2), (0, .ref (a 0)), (1, .ref (a 11)), (2, .int x2), (3, .int x3)] dX7_goHaul_1 (by decide) rfl ?_
  refine x_iload_n dX7_goHaul_3 4 rfl rfl ?_
  refine x_aload_n dX7_goHaul_4 2 rfl rfl ?_
  refine x_bipush 84 dX7_goHaul_5 (by decide) ?_
  refine x_iald 84 (q0 := 11) dX7_goHaul_7 (by decide) rfl (by decide) ?_
  refine x_iconst 1 dX7_goHaul_8 (by decide) ?_
  refine x_icmp_ne 26 dX7_goHaul_9 (by decide) (fun c13 => ?_) (fun c13 => ?_)
  · have h := x_neg c13 h
    refine x_lv [1, 2, 0] rfl ?_
    exact w_X7_goHaul_hand_b26  _ _ _ _ h
  · have h := x_pos c13 h
    refine x_aload_n dX7_goHaul_12 2 rfl rfl ?_
    refine x_iconst 2 dX7_goHaul_13 (by decide) ?_
    refine x_iload dX7_goHaul_14 0 rfl ?_
    refine x_iadd dX7_goHaul_16 ?_
    obtain ⟨b14, h⟩ := x_guard h
    refine x_iald ((2 : Int32) + x2).toNatClampNeg (q0 := 11) dX7_goHaul_17 rfl rfl b14 ?_
    refine x_iconst 4 dX7_goHaul_18 (by decide) ?_
    refine x_icmp_eq 26 dX7_goHaul_19 (by decide) (fun c15 => ?_) (fun c15 => ?_)
    · have h := x_pos c15 h
      refine x_lv [1, 2, 0] rfl ?_
      exact w_X7_goHaul_hand_b26  _ _ _ _ h
    · have h := x_neg c15 h
      refine x_iconst 1 dX7_goHaul_22 (by decide) ?_
      refine x_goto 27 dX7_goHaul_23 (by decide) ?_
      refine x_lv [1, 2, 0] rfl ?_
      exact w_X7_goHaul_hand_b27  _ _ _ _ _ h
theorem pk_X7_moves : x_pv RX7 yX7_moves cX7_moves 5 (some .int) 2 := ⟨⟨co_X7_moves, ni_X7, by decide, by decide +kernel⟩, im_X7_moves, se_X7_moves⟩
def M_X7_moves (now : (Nat → Int32)) (hand : (Nat → Int32)) (askedIs : Int32) (partedBy : Int32) (x1 : Int32) (x2 : Int32) : Option (Int32 × (Nat → Int32) × Int32 × Int32) :=
  if (M_X7_isRope now x1) = 0 then
  (some ((-1 : Int32), hand, askedIs, partedBy))
  else
  (if (M_X7_in x2.toInt64 (1 : Int64) (9 : Int64)) = 0 then
  (some ((-1 : Int32), hand, askedIs, partedBy))
  else
  (if (M_X7_isFast_85 now x1) = 0 then
  (some ((-4 : Int32), hand, askedIs, partedBy))
  else
  ((M_X7_layHand now hand).bind fun r4 =>
  (M_X7_goHaul_hand r4 partedBy x1 x2).bind fun r6 =>
  some (r6.1, r6.2.1, (M_X7_asks askedIs r6.2.2).2, r6.2.2))))
set_option maxHeartbeats 4000000 in
set_option maxRecDepth 100000 in
theorem c_X7_moves {G : x_G} {l : Launch} {a : Nat → Nat} {now : (Nat → Int32)} {kept : (Nat → Int32)} {isKept : (Nat → Int32)} {rows : (Nat → Int32)} {rowLong : (Nat → Int32)} {texts : (Nat → Int32)} {textLong : (Nat → Int32)} {found : (Nat → Int32)} {taken : (Nat → Int32)} {anew : (Nat → Int32)} {steps : (Nat → Int32)} {shares : (Nat → Int32)} {choices : (Nat → Int32)} {values : (Nat → Int32)} {latest : Int32} {above : Int64} {below : Int64} {place : Int32} {hand : (Nat → Int32)} {askedIs : Int32} {partedBy : Int32} {x1 : Int32} {x2 : Int32} {res : Int32 × (Nat → Int32) × Int32 × Int32} (h : M_X7_moves now hand askedIs partedBy x1 x2 = some res) : x_M G l yX7_moves cX7_moves 5 (some .int) (3) 0 0 [.ref (a 0), .int x1, .int x2] (WModel G a now kept isKept rows rowLong texts textLong found taken anew hand steps shares choices values latest askedIs above below place partedBy) (x_is (some (.int res.1)) (WModel G a now kept isKept rows rowLong texts textLong found taken anew res.2.1 steps shares choices values latest res.2.2.1 above below place res.2.2.2)) := by
  unfold M_X7_moves at h
  refine x_enter (ini := false) (by decide) rfl (by decide) rfl (Nat.le_of_ble_eq_true rfl) ?_
  refine x_aload_n dX7_moves_0 0 rfl rfl ?_
  refine x_iload_n dX7_moves_1 1 rfl rfl ?_
  refine x_cV (As := [.int x1]) (wc := (WModel G a now kept isKept rows rowLong texts textLong found taken anew hand steps shares choices values latest askedIs above below place partedBy)) (w1 := (WModel G a now kept isKept rows rowLong texts textLong found taken anew hand steps shares choices values latest askedIs above below place partedBy)) (pre := []) (post := []) (rest := []) (st1 := [.int (M_X7_isRope now x1)]) (ws1 := (WModel G a now kept isKept rows rowLong texts textLong found taken anew hand steps shares choices values latest askedIs above below place partedBy)) (ci := 5) 0 dX7_moves_2 (c_X7_isRope (a := a) rfl) pk_X7_isRope ml_X7_155 (x_full _) rfl rfl rfl rfl rfl rfl rfl rfl (x_full _).symm ?_
  refine x_if_eq 20 dX7_moves_5 (by decide) (fun c1 => ?_) (fun c1 => ?_)
  · have h := x_pos c1 h
    refine x_iconst (-1 : Int32) dX7_moves_20 (by decide) ?_
    cases h
    exact x_ireturn dX7_moves_21 rfl (x_is.rf _ _)
  · have h := x_neg c1 h
    refine x_iload_n dX7_moves_8 2 rfl rfl ?_
    refine x_i2l dX7_moves_9 ?_
    refine x_lconst 1 dX7_moves_10 (by decide) ?_
    refine x_ldc2 dX7_moves_11 kl_X7_180 ?_
    refine x_cS (As := [.long x2.toInt64, .long (1 : Int64), .long (9 : Int64)]) (wc := ([] : va_W)) (w1 := ([] : va_W)) (pre := []) (post := (WModel G a now kept isKept rows rowLong texts textLong found taken anew hand steps shares choices values latest askedIs above below place partedBy)) (rest := []) (st1 := [.int (M_X7_in x2.toInt64 (1 : Int64) (9 : Int64))]) (ws1 := (WModel G a now kept isKept rows rowLong texts textLong found taken anew hand steps shares choices values latest askedIs above below place partedBy)) dX7_moves_14 (c_X7_in rfl) pk_X7_in ml_X7_69 rfl rfl rfl rfl rfl rfl rfl ?_
    refine x_if_ne 22 dX7_moves_17 (by decide) (fun c2 => ?_) (fun c2 => ?_)
    · have h := x_neg c2 h
      refine x_aload_n dX7_moves_22 0 rfl rfl ?_
      refine x_get (ci := 5) 0 0 dX7_moves_23 fl_X7_7 inX7 rfl (by decide) ⟨rfl, rfl, rfl⟩ rfl rfl ?_
      refine x_iload_n dX7_moves_26 1 rfl rfl ?_
      refine x_cS (As := [.ref (a 1), .int x1]) (wc := (WArr G (fun k => a (1 + k)) 85 now)) (w1 := (WArr G (fun k => a (1 + k)) 85 now)) (pre := ((WModel G a now kept isKept rows rowLong texts textLong found taken anew hand steps shares choices values latest askedIs above below place partedBy).take 1)) (post := ((WModel G a now kept isKept rows rowLong texts textLong found taken anew hand steps shares choices values latest askedIs above below place partedBy).drop 2)) (rest := []) (st1 := [.int (M_X7_isFast_85 now x1)]) (ws1 := (WModel G a now kept isKept rows rowLong texts textLong found taken anew hand steps shares choices values latest askedIs above below place partedBy)) dX7_moves_27 (c_X7_isFast_85 (aq := (fun k => a (1 + k))) rfl) pk_X7_isFast ml_X7_143 rfl rfl rfl rfl rfl rfl rfl ?_
      refine x_if_ne 36 dX7_moves_30 (by decide) (fun c3 => ?_) (fun c3 => ?_)
      · have h := x_neg c3 h
        refine x_aload_n dX7_moves_36 0 rfl rfl ?_
        obtain ⟨r4, e5, h⟩ := x_bind h
        refine x_cV (As := []) (wc := (WModel G a now kept isKept rows rowLong texts textLong found taken anew hand steps shares choices values latest askedIs above below place partedBy)) (w1 := (WModel G a now kept isKept rows rowLong texts textLong found taken anew r4 steps shares choices values latest askedIs above below place partedBy)) (pre := []) (post := []) (rest := []) (st1 := []) (ws1 := (WModel G a now kept isKept rows rowLong texts textLong found taken anew r4 steps shares choices values latest askedIs above below place partedBy)) (ci := 5) 0 dX7_moves_37 (c_X7_layHand (a := a) e5) pk_X7_layHand ml_X7_193 (x_full _) rfl rfl rfl rfl rfl rfl rfl rfl (x_full _).symm ?_
        refine x_aload_n dX7_moves_40 0 rfl rfl ?_
        refine x_aload_n dX7_moves_41 0 rfl rfl ?_
        refine x_get (ci := 5) 16 0 dX7_moves_42 fl_X7_45 inX7 rfl (by decide) ⟨rfl, rfl, rfl⟩ rfl rfl ?_
        refine x_iload_n dX7_moves_45 1 rfl rfl ?_
        refine x_iload_n dX7_moves_46 2 rfl rfl ?_
        obtain ⟨r6, e7, h⟩ := x_bind h
        refine x_cV (As := [.ref (a 11), .int x1, .int x2]) (wc := (WModel G a now kept isKept rows rowLong texts textLong found taken anew r4 steps shares choices values latest askedIs above below place partedBy)) (w1 := (WModel G a now kept isKept rows rowLong texts textLong found taken anew r6.2.1 steps shares choices values latest askedIs above below place r6.2.2)) (pre := []) (post := []) (rest := []) (st1 := [.int r6.1]) (ws1 := (WModel G a now kept isKept rows rowLong texts textLong found taken anew r6.2.1 steps shares choices values latest askedIs above below place r6.2.2)) (ci := 5) 0 dX7_moves_47 (c_X7_goHaul_hand (a := a) e7) pk_X7_goHaul ml_X7_147 (x_full _) rfl rfl rfl rfl rfl rfl rfl rfl (x_full _).symm ?_
        refine x_istore_n [(3, .int r6.1), (0, .ref (a 0)), (1, .int x1), (2, .int x2)] dX7_moves_50 rfl (by decide) rfl ?_
        refine x_aload_n dX7_moves_51 1 rfl rfl ?_
        refine x_aload_n dX7_moves_52 1 rfl rfl ?_
        refine x_get (ci := 5) 15 0 dX7_moves_53 fl_X7_133 inX7 rfl (by decide) ⟨rfl, rfl, rfl⟩ rfl rfl ?_
        refine x_cV (As := [.int r6.2.2]) (wc := (WModel G a now kept isKept rows rowLong texts textLong found taken anew r6.2.1 steps shares choices values latest askedIs above below place r6.2.2)) (w1 := (WModel G a now kept isKept rows rowLong texts textLong found taken anew r6.2.1 steps shares choices values latest ((M_X7_asks askedIs r6.2.2).2) above below place r6.2.2)) (pre := []) (post := []) (rest := []) (st1 := [.int ((M_X7_asks askedIs r6.2.2).1)]) (ws1 := (WModel G a now kept isKept rows rowLong texts textLong found taken anew r6.2.1 steps shares choices values latest ((M_X7_asks askedIs r6.2.2).2) above below place r6.2.2)) (ci := 5) 0 dX7_moves_56 (c_X7_asks (a := a) rfl) pk_X7_asks ml_X7_87 (x_full _) rfl rfl rfl rfl rfl rfl rfl rfl (x_full _).symm ?_
        refine x_istore [(4, .int ((M_X7_asks askedIs r6.2.2).1)), (3, .int r6.1), (0, .ref (a 0)), (1, .int x1), (2, .int x2)] dX7_moves_59 (by decide) rfl ?_
        refine x_iload_n dX7_moves_61 1 rfl rfl ?_
        cases h
        exact x_ireturn dX7_moves_62 rfl (x_is.rf _ _)
      · have h := x_pos c3 h
        refine x_bipush (-4 : Int32) dX7_moves_33 (by decide) ?_
        cases h
        exact x_ireturn dX7_moves_35 rfl (x_is.rf _ _)
    · have h := x_pos c2 h
      refine x_iconst (-1 : Int32) dX7_moves_20 (by decide) ?_
      cases h
      exact x_ireturn dX7_moves_21 rfl (x_is.rf _ _)
theorem pk_X7_parts : x_pv RX7 yX7_parts cX7_parts 5 (some .int) 1 := ⟨⟨co_X7_parts, ni_X7, by decide, by decide +kernel⟩, im_X7_parts, se_X7_parts⟩
def M_X7_parts_b26 (now : (Nat → Int32)) : Nat → (Nat → Int32) → Int32 → Int32 → Int32 → Int32 → Option (Int32 × (Nat → Int32) × Int32 × Int32)
  | 0, _, _, _, _, _ => none
  | n + 1, hand, askedIs, partedBy, x1, x2 =>
    if (20 : Int32) < x2 then
    (some ((-9 : Int32), hand, askedIs, partedBy))
    else
    ((M_X7_layHand now hand).bind fun r2 =>
    (M_X7_goHaul_hand r2 partedBy x1 x2).bind fun r4 =>
    if r4.2.2 = (-9 : Int32) then
    (M_X7_parts_b26 now n r4.2.1 askedIs r4.2.2 x1 (x2 + (1 : Int32)))
    else
    (some (x2, r4.2.1, (M_X7_asks askedIs r4.2.2).2, r4.2.2)))
set_option maxHeartbeats 4000000 in
set_option maxRecDepth 100000 in
theorem w_X7_parts_b26 {G : x_G} {l : Launch} {a : Nat → Nat} {now : (Nat → Int32)} {kept : (Nat → Int32)} {isKept : (Nat → Int32)} {rows : (Nat → Int32)} {rowLong : (Nat → Int32)} {texts : (Nat → Int32)} {textLong : (Nat → Int32)} {found : (Nat → Int32)} {taken : (Nat → Int32)} {anew : (Nat → Int32)} {steps : (Nat → Int32)} {shares : (Nat → Int32)} {choices : (Nat → Int32)} {values : (Nat → Int32)} {latest : Int32} {above : Int64} {below : Int64} {place : Int32} {res : Int32 × (Nat → Int32) × Int32 × Int32} : ∀ (n : Nat) (hand : (Nat → Int32)) (askedIs : Int32) (partedBy : Int32) (x1 : Int32) (x2 : Int32), M_X7_parts_b26 now n hand askedIs partedBy x1 x2 = some res → X G l RX7 cX7_parts 5 (x_R 3 0 0) (x_Cm G (some .int) false (x_is (some (.int res.1)) (WModel G a now kept isKept rows rowLong texts textLong found taken anew res.2.1 steps shares choices values latest res.2.2.1 above below place res.2.2.2)) 0 0) 0 0 26 [(0, .ref (a 0)), (1, .int x1), (2, .int x2)] [] (WModel G a now kept isKept rows rowLong texts textLong found taken anew hand steps shares choices values latest askedIs above below place partedBy) := by
  intro n
  induction n with
  | zero =>
    intro _ _ _ _ _ h
    cases h
  | succ n ih =>
    intro hand askedIs partedBy x1 x2 h
    rw [M_X7_parts_b26] at h
    refine x_iload_n dX7_parts_26 2 rfl rfl ?_
    refine x_bipush 20 dX7_parts_27 (by decide) ?_
    refine x_icmp_gt 74 dX7_parts_29 (by decide) (fun c1 => ?_) (fun c1 => ?_)
    · have h := x_pos c1 h
      refine x_bipush (-9 : Int32) dX7_parts_74 (by decide) ?_
      cases h
      exact x_ireturn dX7_parts_76 rfl (x_is.rf _ _)
    · have h := x_neg c1 h
      refine x_aload_n dX7_parts_32 0 rfl rfl ?_
      obtain ⟨r2, e3, h⟩ := x_bind h
      refine x_cV (As := []) (wc := (WModel G a now kept isKept rows rowLong texts textLong found taken anew hand steps shares choices values latest askedIs above below place partedBy)) (w1 := (WModel G a now kept isKept rows rowLong texts textLong found taken anew r2 steps shares choices values latest askedIs above below place partedBy)) (pre := []) (post := []) (rest := []) (st1 := []) (ws1 := (WModel G a now kept isKept rows rowLong texts textLong found taken anew r2 steps shares choices values latest askedIs above below place partedBy)) (ci := 5) 0 dX7_parts_33 (c_X7_layHand (a := a) e3) pk_X7_layHand ml_X7_193 (x_full _) rfl rfl rfl rfl rfl rfl rfl rfl (x_full _).symm ?_
      refine x_aload_n dX7_parts_36 0 rfl rfl ?_
      refine x_aload_n dX7_parts_37 0 rfl rfl ?_
      refine x_get (ci := 5) 16 0 dX7_parts_38 fl_X7_45 inX7 rfl (by decide) ⟨rfl, rfl, rfl⟩ rfl rfl ?_
      refine x_iload_n dX7_parts_41 1 rfl rfl ?_
      refine x_iload_n dX7_parts_42 2 rfl rfl ?_
      obtain ⟨r4, e5, h⟩ := x_bind h
      refine x_cV (As := [.ref (a 11), .int x1, .int x2]) (wc := (WModel G a now kept isKept rows rowLong texts textLong found taken anew r2 steps shares choices values latest askedIs above below place partedBy)) (w1 := (WModel G a now kept isKept rows rowLong texts textLong found taken anew r4.2.1 steps shares choices values latest askedIs above below place r4.2.2)) (pre := []) (post := []) (rest := []) (st1 := [.int r4.1]) (ws1 := (WModel G a now kept isKept rows rowLong texts textLong found taken anew r4.2.1 steps shares choices values latest askedIs above below place r4.2.2)) (ci := 5) 0 dX7_parts_43 (c_X7_goHaul_hand (a := a) e5) pk_X7_goHaul ml_X7_147 (x_full _) rfl rfl rfl rfl rfl rfl rfl rfl (x_full _).symm ?_
      refine x_istore_n [(3, .int r4.1), (0, .ref (a 0)), (1, .int x1), (2, .int x2)] dX7_parts_46 rfl (by decide) rfl ?_
      refine x_aload_n dX7_parts_47 1 rfl rfl ?_
      refine x_get (ci := 5) 15 0 dX7_parts_48 fl_X7_133 inX7 rfl (by decide) ⟨rfl, rfl, rfl⟩ rfl rfl ?_
      refine x_bipush (-9 : Int32) dX7_parts_51 (by decide) ?_
      refine x_icmp_eq 68 dX7_parts_53 (by decide) (fun c6 => ?_) (fun c6 => ?_)
      · have h := x_pos c6 h
        refine x_iinc (j := 3) (1 : Int32) [(2, .int (x2 + (1 : Int32))), (3, .int r4.1), (0, .ref (a 0)), (1, .int x1)] dX7_parts_68 (by decide) rfl (by decide) rfl ?_
        refine x_goto 26 dX7_parts_71 (by decide) ?_
        refine x_lv [2, 3, 0] rfl ?_
        exact ih _ _ _ _ _ h
      · have h := x_neg c6 h
        refine x_aload_n dX7_parts_56 1 rfl rfl ?_
        refine x_aload_n dX7_parts_57 1 rfl rfl ?_
        refine x_get (ci := 5) 15 0 dX7_parts_58 fl_X7_133 inX7 rfl (by decide) ⟨rfl, rfl, rfl⟩ rfl rfl ?_
        refine x_cV (As := [.int r4.2.2]) (wc := (WModel G a now kept isKept rows rowLong texts textLong found taken anew r4.2.1 steps shares choices values latest askedIs above below place r4.2.2)) (w1 := (WModel G a now kept isKept rows rowLong texts textLong found taken anew r4.2.1 steps shares choices values latest ((M_X7_asks askedIs r4.2.2).2) above below place r4.2.2)) (pre := []) (post := []) (rest := []) (st1 := [.int ((M_X7_asks askedIs r4.2.2).1)]) (ws1 := (WModel G a now kept isKept rows rowLong texts textLong found taken anew r4.2.1 steps shares choices values latest ((M_X7_asks askedIs r4.2.2).2) above below place r4.2.2)) (ci := 5) 0 dX7_parts_61 (c_X7_asks (a := a) rfl) pk_X7_asks ml_X7_87 (x_full _) rfl rfl rfl rfl rfl rfl rfl rfl (x_full _).symm ?_
        refine x_istore [(4, .int ((M_X7_asks askedIs r4.2.2).1)), (3, .int r4.1), (0, .ref (a 0)), (1, .int x1), (2, .int x2)] dX7_parts_64 (by decide) rfl ?_
        refine x_iload_n dX7_parts_66 4 rfl rfl ?_
        cases h
        exact x_ireturn dX7_parts_67 rfl (x_is.rf _ _)
def M_X7_parts (now : (Nat → Int32)) (hand : (Nat → Int32)) (askedIs : Int32) (partedBy : Int32) (x1 : Int32) : Option (Int32 × (Nat → Int32) × Int32 × Int32) :=
  if (M_X7_isRope now x1) = 0 then
  (some ((-1 : Int32), hand, askedIs, partedBy))
  else
  (if (M_X7_isFast_85 now x1) = 0 then
  (some ((-4 : Int32), hand, askedIs, partedBy))
  else
  (M_X7_parts_b26 now x_fuel hand askedIs partedBy x1 (1 : Int32)))
set_option maxHeartbeats 4000000 in
set_option maxRecDepth 100000 in
theorem c_X7_parts {G : x_G} {l : Launch} {a : Nat → Nat} {now : (Nat → Int32)} {kept : (Nat → Int32)} {isKept : (Nat → Int32)} {rows : (Nat → Int32)} {rowLong : (Nat → Int32)} {texts : (Nat → Int32)} {textLong : (Nat → Int32)} {found : (Nat → Int32)} {taken : (Nat → Int32)} {anew : (Nat → Int32)} {steps : (Nat → Int32)} {shares : (Nat → Int32)} {choices : (Nat → Int32)} {values : (Nat → Int32)} {latest : Int32} {above : Int64} {below : Int64} {place : Int32} {hand : (Nat → Int32)} {askedIs : Int32} {partedBy : Int32} {x1 : Int32} {res : Int32 × (Nat → Int32) × Int32 × Int32} (h : M_X7_parts now hand askedIs partedBy x1 = some res) : x_M G l yX7_parts cX7_parts 5 (some .int) (3) 0 0 [.ref (a 0), .int x1] (WModel G a now kept isKept rows rowLong texts textLong found taken anew hand steps shares choices values latest askedIs above below place partedBy) (x_is (some (.int res.1)) (WModel G a now kept isKept rows rowLong texts textLong found taken anew res.2.1 steps shares choices values latest res.2.2.1 above below place res.2.2.2)) := by
  unfold M_X7_parts at h
  refine x_enter (ini := false) (by decide) rfl (by decide) rfl (Nat.le_of_ble_eq_true rfl) ?_
  refine x_aload_n dX7_parts_0 0 rfl rfl ?_
  refine x_iload_n dX7_parts_1 1 rfl rfl ?_
  refine x_cV (As := [.int x1]) (wc := (WModel G a now kept isKept rows rowLong texts textLong found taken anew hand steps shares choices values latest askedIs above below place partedBy)) (w1 := (WModel G a now kept isKept rows rowLong texts textLong found taken anew hand steps shares choices values latest askedIs above below place partedBy)) (pre := []) (post := []) (rest := []) (st1 := [.int (M_X7_isRope now x1)]) (ws1 := (WModel G a now kept isKept rows rowLong texts textLong found taken anew hand steps shares choices values latest askedIs above below place partedBy)) (ci := 5) 0 dX7_parts_2 (c_X7_isRope (a := a) rfl) pk_X7_isRope ml_X7_155 (x_full _) rfl rfl rfl rfl rfl rfl rfl rfl (x_full _).symm ?_
  refine x_if_ne 10 dX7_parts_5 (by decide) (fun c7 => ?_) (fun c7 => ?_)
  · have h := x_neg c7 h
    refine x_aload_n dX7_parts_10 0 rfl rfl ?_
    refine x_get (ci := 5) 0 0 dX7_parts_11 fl_X7_7 inX7 rfl (by decide) ⟨rfl, rfl, rfl⟩ rfl rfl ?_
    refine x_iload_n dX7_parts_14 1 rfl rfl ?_
    refine x_cS (As := [.ref (a 1), .int x1]) (wc := (WArr G (fun k => a (1 + k)) 85 now)) (w1 := (WArr G (fun k => a (1 + k)) 85 now)) (pre := ((WModel G a now kept isKept rows rowLong texts textLong found taken anew hand steps shares choices values latest askedIs above below place partedBy).take 1)) (post := ((WModel G a now kept isKept rows rowLong texts textLong found taken anew hand steps shares choices values latest askedIs above below place partedBy).drop 2)) (rest := []) (st1 := [.int (M_X7_isFast_85 now x1)]) (ws1 := (WModel G a now kept isKept rows rowLong texts textLong found taken anew hand steps shares choices values latest askedIs above below place partedBy)) dX7_parts_15 (c_X7_isFast_85 (aq := (fun k => a (1 + k))) rfl) pk_X7_isFast ml_X7_143 rfl rfl rfl rfl rfl rfl rfl ?_
    refine x_if_ne 24 dX7_parts_18 (by decide) (fun c8 => ?_) (fun c8 => ?_)
    · have h := x_neg c8 h
      refine x_iconst 1 dX7_parts_24 (by decide) ?_
      refine x_istore_n [(2, .int (1 : Int32)), (0, .ref (a 0)), (1, .int x1)] dX7_parts_25 rfl (by decide) rfl ?_
      refine x_lv [1, 2, 0] rfl ?_
      exact w_X7_parts_b26  _ _ _ _ _ _ h
    · have h := x_pos c8 h
      refine x_bipush (-4 : Int32) dX7_parts_21 (by decide) ?_
      cases h
      exact x_ireturn dX7_parts_23 rfl (x_is.rf _ _)
  · have h := x_pos c7 h
    refine x_iconst (-1 : Int32) dX7_parts_8 (by decide) ?_
    cases h
    exact x_ireturn dX7_parts_9 rfl (x_is.rf _ _)
theorem pk_X7_isLawful : x_ps yX7_isLawful cX7_isLawful 5 (some .boolean) 3 := ⟨⟨co_X7_isLawful, ni_X7, by decide, by decide +kernel⟩, sm_X7_isLawful⟩
def M_X7_isLawful_85_b18 (c : (Nat → Int32)) (x1 : Int32) (x2 : Int32) (x4 : Int32) : Option (Int32) :=
  if (x4 &&& (x2 ^^^ (-1 : Int32))) = 0 then
  (if inb ((31 : Int32) + x1) 85 then
  if ((c ((31 : Int32) + x1).toNatClampNeg) &&& x2) = 0 then
  (some (1 : Int32))
  else
  (some (0 : Int32))
  else none)
  else
  (some (0 : Int32))
set_option maxHeartbeats 4000000 in
set_option maxRecDepth 100000 in
theorem w_X7_isLawful_85_b18 {G : x_G} {l : Launch} {aq : Nat → Nat} {c : (Nat → Int32)} {res : Int32} (x1 : Int32) (x2 : Int32) (x4 : Int32) (h : M_X7_isLawful_85_b18 c x1 x2 x4 = some res) : X G l RX7 cX7_isLawful 5 (x_R 0 0 0) (x_Cm G (some .boolean) false (x_is (some (.int res)) (WArr G aq 85 c)) 0 0) 0 0 18 [(0, .ref (aq 0)), (1, .int x1), (2, .int x2), (4, .int x4)] [] (WArr G aq 85 c) := by
  unfold M_X7_isLawful_85_b18 at h
  refine x_iload dX7_isLawful_18 3 rfl ?_
  refine x_iload_n dX7_isLawful_20 2 rfl rfl ?_
  refine x_iconst (-1 : Int32) dX7_isLawful_21 (by decide) ?_
  refine x_ixor dX7_isLawful_22 ?_
  refine x_iand dX7_isLawful_23 ?_
  refine x_if_ne 42 dX7_isLawful_24 (by decide) (fun c1 => ?_) (fun c1 => ?_)
  · have h := x_neg c1 h
    refine x_iconst 0 dX7_isLawful_42 (by decide) ?_
    cases h
    exact x_ireturn dX7_isLawful_43 rfl (x_is.rf _ _)
  · have h := x_pos c1 h
    refine x_aload_n dX7_isLawful_27 0 rfl rfl ?_
    refine x_bipush 31 dX7_isLawful_28 (by decide) ?_
    refine x_iload_n dX7_isLawful_30 1 rfl rfl ?_
    refine x_iadd dX7_isLawful_31 ?_
    obtain ⟨b2, h⟩ := x_guard h
    refine x_iald ((31 : Int32) + x1).toNatClampNeg (q0 := 0) dX7_isLawful_32 rfl rfl b2 ?_
    refine x_iload_n dX7_isLawful_33 2 rfl rfl ?_
    refine x_iand dX7_isLawful_34 ?_
    refine x_if_ne 42 dX7_isLawful_35 (by decide) (fun c3 => ?_) (fun c3 => ?_)
    · have h := x_neg c3 h
      refine x_iconst 0 dX7_isLawful_42 (by decide) ?_
      cases h
      exact x_ireturn dX7_isLawful_43 rfl (x_is.rf _ _)
    · have h := x_pos c3 h
      refine x_iconst 1 dX7_isLawful_38 (by decide) ?_
      refine x_goto 43 dX7_isLawful_39 (by decide) ?_
      cases h
      exact x_ireturn dX7_isLawful_43 rfl (x_is.rf _ _)
def M_X7_isLawful_85 (c : (Nat → Int32)) (x1 : Int32) (x2 : Int32) : Option (Int32) :=
  if inb ((27 : Int32) + x1) 85 then
  M_X7_isLawful_85_b18 c x1 x2 ((c ((27 : Int32) + x1).toNatClampNeg) &&& (((1 : Int32) <<< ((c 0) &&& (31 : Int32))) - (1 : Int32)))
  else none
set_option maxHeartbeats 4000000 in
set_option maxRecDepth 100000 in
theorem c_X7_isLawful_85 {G : x_G} {l : Launch} {aq : Nat → Nat} {c : (Nat → Int32)} {x1 : Int32} {x2 : Int32} {res : Int32} (h : M_X7_isLawful_85 c x1 x2 = some res) : x_M G l yX7_isLawful cX7_isLawful 5 (some .boolean) (0) 0 0 [.ref (aq 0), .int x1, .int x2] (WArr G aq 85 c) (x_is (some (.int res)) (WArr G aq 85 c)) := by
  unfold M_X7_isLawful_85 at h
  refine x_enter (ini := false) (by decide) rfl (by decide) rfl (Nat.le_of_ble_eq_true rfl) ?_
  refine x_iconst 1 dX7_isLawful_0 (by decide) ?_
  refine x_aload_n dX7_isLawful_1 0 rfl rfl ?_
  refine x_iconst 0 dX7_isLawful_2 (by decide) ?_
  refine x_iald 0 (q0 := 0) dX7_isLawful_3 (by decide) rfl (by decide) ?_
  refine x_ishl dX7_isLawful_4 ?_
  refine x_iconst 1 dX7_isLawful_5 (by decide) ?_
  refine x_isub dX7_isLawful_6 ?_
  refine x_istore_n [(3, .int (((1 : Int32) <<< ((c 0) &&& (31 : Int32))) - (1 : Int32))), (0, .ref (aq 0)), (1, .int x1), (2, .int x2)] dX7_isLawful_7 rfl (by decide) rfl ?_
  refine x_aload_n dX7_isLawful_8 1 rfl rfl ?_
  refine x_bipush 27 dX7_isLawful_9 (by decide) ?_
  refine x_iload_n dX7_isLawful_11 2 rfl rfl ?_
  refine x_iadd dX7_isLawful_12 ?_
  obtain ⟨b4, h⟩ := x_guard h
  refine x_iald ((27 : Int32) + x1).toNatClampNeg (q0 := 0) dX7_isLawful_13 rfl rfl b4 ?_
  refine x_iload_n dX7_isLawful_14 0 rfl rfl ?_
  refine x_iand dX7_isLawful_15 ?_
  refine x_istore [(4, .int ((c ((27 : Int32) + x1).toNatClampNeg) &&& (((1 : Int32) <<< ((c 0) &&& (31 : Int32))) - (1 : Int32)))), (3, .int (((1 : Int32) <<< ((c 0) &&& (31 : Int32))) - (1 : Int32))), (0, .ref (aq 0)), (1, .int x1), (2, .int x2)] dX7_isLawful_16 (by decide) rfl ?_
  refine x_lv [2, 3, 4, 0] rfl ?_
  exact w_X7_isLawful_85_b18  _ _ _ h
theorem pk_X7_lawfulBy : x_ps yX7_lawfulBy cX7_lawfulBy 4 (some .int) 2 := ⟨⟨co_X7_lawfulBy, ni_X7, by decide, by decide +kernel⟩, sm_X7_lawfulBy⟩
def M_X7_lawfulBy_85_b28 (c : (Nat → Int32)) (k4 : Int32 → Int32 → Int32 → Option (Int32)) (x1 : Int32) (x3 : Int32) (s0 : Int32) (s1 : Int32) : Option (Int32) :=
  k4 x1 (s0 ||| s1) (x3 + (1 : Int32))
set_option maxHeartbeats 4000000 in
set_option maxRecDepth 100000 in
theorem w_X7_lawfulBy_85_b28 {G : x_G} {l : Launch} {aq : Nat → Nat} {c : (Nat → Int32)} {k4 : Int32 → Int32 → Int32 → Option (Int32)} {res : Int32} (hk4 : ∀ (x1 : Int32) (x2 : Int32) (x3 : Int32), k4 x1 x2 x3 = some res → X G l RX7 cX7_lawfulBy 4 (x_R 1 0 0) (x_Cm G (some .int) false (x_is (some (.int res)) (WArr G aq 85 c)) 0 0) 0 0 4 [(0, .ref (aq 0)), (1, .int x1), (2, .int x2), (3, .int x3)] [] (WArr G aq 85 c)) (x1 : Int32) (x3 : Int32) (s0 : Int32) (s1 : Int32) (h : M_X7_lawfulBy_85_b28 c k4 x1 x3 s0 s1 = some res) : X G l RX7 cX7_lawfulBy 4 (x_R 1 0 0) (x_Cm G (some .int) false (x_is (some (.int res)) (WArr G aq 85 c)) 0 0) 0 0 28 [(0, .ref (aq 0)), (1, .int x1), (3, .int x3)] [.int s1, .int s0] (WArr G aq 85 c) := by
  unfold M_X7_lawfulBy_85_b28 at h
  refine x_ior dX7_lawfulBy_28 ?_
  refine x_istore_n [(2, .int (s0 ||| s1)), (0, .ref (aq 0)), (1, .int x1), (3, .int x3)] dX7_lawfulBy_29 rfl (by decide) rfl ?_
  refine x_iinc (j := 3) (1 : Int32) [(3, .int (x3 + (1 : Int32))), (2, .int (s0 ||| s1)), (0, .ref (aq 0)), (1, .int x1)] dX7_lawfulBy_30 (by decide) rfl (by decide) rfl ?_
  refine x_goto 4 dX7_lawfulBy_33 (by decide) ?_
  refine x_lv [2, 3, 1, 0] rfl ?_
  exact hk4 _ _ _ h
def M_X7_lawfulBy_85_b4 (c : (Nat → Int32)) : Nat → Int32 → Int32 → Int32 → Option (Int32)
  | 0, _, _, _ => none
  | n + 1, x1, x2, x3 =>
    if (c 1) ≤ x3 then
    (some (x2))
    else
    ((M_X7_isLawful_85 c x3 x1).bind fun r2 =>
    if r2 = 0 then
    (M_X7_lawfulBy_85_b28 c (fun (x1' : Int32) (x2' : Int32) (x3' : Int32) => M_X7_lawfulBy_85_b4 c n x1' x2' x3') x1 x3 x2 (0 : Int32))
    else
    (M_X7_lawfulBy_85_b28 c (fun (x1' : Int32) (x2' : Int32) (x3' : Int32) => M_X7_lawfulBy_85_b4 c n x1' x2' x3') x1 x3 x2 ((1 : Int32) <<< (x3 &&& (31 : Int32)))))
set_option maxHeartbeats 4000000 in
set_option maxRecDepth 100000 in
theorem w_X7_lawfulBy_85_b4 {G : x_G} {l : Launch} {aq : Nat → Nat} {c : (Nat → Int32)} {res : Int32} : ∀ (n : Nat) (x1 : Int32) (x2 : Int32) (x3 : Int32), M_X7_lawfulBy_85_b4 c n x1 x2 x3 = some res → X G l RX7 cX7_lawfulBy 4 (x_R 1 0 0) (x_Cm G (some .int) false (x_is (some (.int res)) (WArr G aq 85 c)) 0 0) 0 0 4 [(0, .ref (aq 0)), (1, .int x1), (2, .int x2), (3, .int x3)] [] (WArr G aq 85 c) := by
  intro n
  induction n with
  | zero =>
    intro _ _ _ h
    cases h
  | succ n ih =>
    intro x1 x2 x3 h
    rw [M_X7_lawfulBy_85_b4] at h
    refine x_iload_n dX7_lawfulBy_4 3 rfl rfl ?_
    refine x_aload_n dX7_lawfulBy_5 0 rfl rfl ?_
    refine x_iconst 1 dX7_lawfulBy_6 (by decide) ?_
    refine x_iald 1 (q0 := 0) dX7_lawfulBy_7 (by decide) rfl (by decide) ?_
    refine x_icmp_ge 36 dX7_lawfulBy_8 (by decide) (fun c1 => ?_) (fun c1 => ?_)
    · have h := x_pos c1 h
      refine x_iload_n dX7_lawfulBy_36 2 rfl rfl ?_
      cases h
      exact x_ireturn dX7_lawfulBy_37 rfl (x_is.rf _ _)
    · have h := x_neg c1 h
      refine x_iload_n dX7_lawfulBy_11 2 rfl rfl ?_
      refine x_aload_n dX7_lawfulBy_12 0 rfl rfl ?_
      refine x_iload_n dX7_lawfulBy_13 3 rfl rfl ?_
      refine x_iload_n dX7_lawfulBy_14 1 rfl rfl ?_
      obtain ⟨r2, e3, h⟩ := x_bind h
      refine x_cS (As := [.ref (aq 0), .int x3, .int x1]) (wc := (WArr G aq 85 c)) (w1 := (WArr G aq 85 c)) (pre := []) (post := []) (rest := [.int x2]) (st1 := [.int r2, .int x2]) (ws1 := (WArr G aq 85 c)) dX7_lawfulBy_15 (c_X7_isLawful_85 (aq := aq) e3) pk_X7_isLawful ml_X7_196 (x_full _) rfl rfl rfl rfl rfl (x_full _).symm ?_
      refine x_if_eq 27 dX7_lawfulBy_18 (by decide) (fun c4 => ?_) (fun c4 => ?_)
      · have h := x_pos c4 h
        refine x_iconst 0 dX7_lawfulBy_27 (by decide) ?_
        refine x_lv [0, 1, 3] rfl ?_
        exact w_X7_lawfulBy_85_b28 (fun x1' x2' x3' h => ih x1' x2' x3' h) _ _ _ _ h
      · have h := x_neg c4 h
        refine x_iconst 1 dX7_lawfulBy_21 (by decide) ?_
        refine x_iload_n dX7_lawfulBy_22 3 rfl rfl ?_
        refine x_ishl dX7_lawfulBy_23 ?_
        refine x_goto 28 dX7_lawfulBy_24 (by decide) ?_
        refine x_lv [0, 1, 3] rfl ?_
        exact w_X7_lawfulBy_85_b28 (fun x1' x2' x3' h => ih x1' x2' x3' h) _ _ _ _ h
def M_X7_lawfulBy_85 (c : (Nat → Int32)) (x1 : Int32) : Option (Int32) :=
  M_X7_lawfulBy_85_b4 c x_fuel x1 (0 : Int32) (0 : Int32)
set_option maxHeartbeats 4000000 in
set_option maxRecDepth 100000 in
theorem c_X7_lawfulBy_85 {G : x_G} {l : Launch} {aq : Nat → Nat} {c : (Nat → Int32)} {x1 : Int32} {res : Int32} (h : M_X7_lawfulBy_85 c x1 = some res) : x_M G l yX7_lawfulBy cX7_lawfulBy 4 (some .int) (1) 0 0 [.ref (aq 0), .int x1] (WArr G aq 85 c) (x_is (some (.int res)) (WArr G aq 85 c)) := by
  unfold M_X7_lawfulBy_85 at h
  refine x_enter (ini := false) (by decide) rfl (by decide) rfl (Nat.le_of_ble_eq_true rfl) ?_
  refine x_iconst 0 dX7_lawfulBy_0 (by decide) ?_
  refine x_istore_n [(2, .int (0 : Int32)), (0, .ref (aq 0)), (1, .int x1)] dX7_lawfulBy_1 rfl (by decide) rfl ?_
  refine x_iconst 0 dX7_lawfulBy_2 (by decide) ?_
  refine x_istore_n [(3, .int (0 : Int32)), (2, .int (0 : Int32)), (0, .ref (aq 0)), (1, .int x1)] dX7_lawfulBy_3 rfl (by decide) rfl ?_
  refine x_lv [2, 3, 1, 0] rfl ?_
  exact w_X7_lawfulBy_85_b4  _ _ _ _ h
theorem pk_X7_lawful : x_pv RX7 yX7_lawful cX7_lawful 1 (some .int) 0 := ⟨⟨co_X7_lawful, ni_X7, by decide, by decide +kernel⟩, im_X7_lawful, se_X7_lawful⟩
def M_X7_lawful (now : (Nat → Int32)) : Option (Int32) :=
  if (now 0) = 0 then
  (some (-4 : Int32))
  else
  ((M_X7_taut_85 now).bind fun r2 =>
  (M_X7_lawfulBy_85 now r2).bind fun r4 =>
  some (r4))
set_option maxHeartbeats 4000000 in
set_option maxRecDepth 100000 in
theorem c_X7_lawful {G : x_G} {l : Launch} {a : Nat → Nat} {now : (Nat → Int32)} {kept : (Nat → Int32)} {isKept : (Nat → Int32)} {rows : (Nat → Int32)} {rowLong : (Nat → Int32)} {texts : (Nat → Int32)} {textLong : (Nat → Int32)} {found : (Nat → Int32)} {taken : (Nat → Int32)} {anew : (Nat → Int32)} {hand : (Nat → Int32)} {steps : (Nat → Int32)} {shares : (Nat → Int32)} {choices : (Nat → Int32)} {values : (Nat → Int32)} {latest : Int32} {askedIs : Int32} {above : Int64} {below : Int64} {place : Int32} {partedBy : Int32} {res : Int32} (h : M_X7_lawful now = some res) : x_M G l yX7_lawful cX7_lawful 1 (some .int) (2) 0 0 [.ref (a 0)] (WModel G a now kept isKept rows rowLong texts textLong found taken anew hand steps shares choices values latest askedIs above below place partedBy) (x_is (some (.int res)) (WModel G a now kept isKept rows rowLong texts textLong found taken anew hand steps shares choices values latest askedIs above below place partedBy)) := by
  unfold M_X7_lawful at h
  refine x_enter (ini := false) (by decide) rfl (by decide) rfl (Nat.le_of_ble_eq_true rfl) ?_
  refine x_aload_n dX7_lawful_0 0 rfl rfl ?_
  refine x_get (ci := 5) 0 0 dX7_lawful_1 fl_X7_7 inX7 rfl (by decide) ⟨rfl, rfl, rfl⟩ rfl rfl ?_
  refine x_iconst 0 dX7_lawful_4 (by decide) ?_
  refine x_iald 0 (q0 := 1) dX7_lawful_5 (by decide) rfl (by decide) ?_
  refine x_if_ne 14 dX7_lawful_6 (by decide) (fun c1 => ?_) (fun c1 => ?_)
  · have h := x_neg c1 h
    refine x_aload_n dX7_lawful_14 0 rfl rfl ?_
    refine x_get (ci := 5) 0 0 dX7_lawful_15 fl_X7_7 inX7 rfl (by decide) ⟨rfl, rfl, rfl⟩ rfl rfl ?_
    refine x_aload_n dX7_lawful_18 0 rfl rfl ?_
    refine x_get (ci := 5) 0 0 dX7_lawful_19 fl_X7_7 inX7 rfl (by decide) ⟨rfl, rfl, rfl⟩ rfl rfl ?_
    obtain ⟨r2, e3, h⟩ := x_bind h
    refine x_cS (As := [.ref (a 1)]) (wc := (WArr G (fun k => a (1 + k)) 85 now)) (w1 := (WArr G (fun k => a (1 + k)) 85 now)) (pre := ((WModel G a now kept isKept rows rowLong texts textLong found taken anew hand steps shares choices values latest askedIs above below place partedBy).take 1)) (post := ((WModel G a now kept isKept rows rowLong texts textLong found taken anew hand steps shares choices values latest askedIs above below place partedBy).drop 2)) (rest := [.ref (a 1)]) (st1 := [.int r2, .ref (a 1)]) (ws1 := (WModel G a now kept isKept rows rowLong texts textLong found taken anew hand steps shares choices values latest askedIs above below place partedBy)) dX7_lawful_22 (c_X7_taut_85 (aq := (fun k => a (1 + k))) e3) pk_X7_taut ml_X7_167 rfl rfl rfl rfl rfl rfl rfl ?_
    obtain ⟨r4, e5, h⟩ := x_bind h
    refine x_cS (As := [.ref (a 1), .int r2]) (wc := (WArr G (fun k => a (1 + k)) 85 now)) (w1 := (WArr G (fun k => a (1 + k)) 85 now)) (pre := ((WModel G a now kept isKept rows rowLong texts textLong found taken anew hand steps shares choices values latest askedIs above below place partedBy).take 1)) (post := ((WModel G a now kept isKept rows rowLong texts textLong found taken anew hand steps shares choices values latest askedIs above below place partedBy).drop 2)) (rest := []) (st1 := [.int r4]) (ws1 := (WModel G a now kept isKept rows rowLong texts textLong found taken anew hand steps shares choices values latest askedIs above below place partedBy)) dX7_lawful_25 (c_X7_lawfulBy_85 (aq := (fun k => a (1 + k))) e5) pk_X7_lawfulBy ml_X7_200 rfl rfl rfl rfl rfl rfl rfl ?_
    cases h
    exact x_ireturn dX7_lawful_28 rfl (x_is.rf _ _)
  · have h := x_pos c1 h
    refine x_bipush (-4 : Int32) dX7_lawful_9 (by decide) ?_
    refine x_goto 28 dX7_lawful_11 (by decide) ?_
    cases h
    exact x_ireturn dX7_lawful_28 rfl (x_is.rf _ _)
def M_X7_goDeed_hand (hand : (Nat → Int32)) (partedBy : Int32) (x2 : Int32) : Option ((Nat → Int32) × Int32) :=
  if x2 < (600 : Int32) then
  (if x2 < (500 : Int32) then
  (if x2 < (400 : Int32) then
  (if x2 < (300 : Int32) then
  (if x2 < (200 : Int32) then
  (if x2 < (100 : Int32) then
  (some (hand, partedBy))
  else
  ((M_X7_goHaul_hand hand partedBy (x2 - x2 / (10 : Int32) * (10 : Int32)) ((x2 / (10 : Int32)) - (x2 / (10 : Int32)) / (10 : Int32) * (10 : Int32))).bind fun r7 =>
  some (r7.2.1, r7.2.2)))
  else
  (if inb ((76 : Int32) + (x2 - x2 / (10 : Int32) * (10 : Int32))) 85 then
  some ((upd (upd hand 82 ((hand 82) ||| ((1 : Int32) <<< ((x2 - x2 / (10 : Int32) * (10 : Int32)) &&& (31 : Int32))))) ((76 : Int32) + (x2 - x2 / (10 : Int32) * (10 : Int32))).toNatClampNeg (0 : Int32)), partedBy)
  else none))
  else
  (some ((upd hand 82 ((hand 82) &&& (((1 : Int32) <<< ((x2 - x2 / (10 : Int32) * (10 : Int32)) &&& (31 : Int32))) ^^^ (-1 : Int32)))), partedBy)))
  else
  (if inb ((76 : Int32) + (x2 - x2 / (10 : Int32) * (10 : Int32))) 85 then
  some ((upd (upd hand 83 ((hand 83) ||| ((1 : Int32) <<< ((x2 - x2 / (10 : Int32) * (10 : Int32)) &&& (31 : Int32))))) ((76 : Int32) + (x2 - x2 / (10 : Int32) * (10 : Int32))).toNatClampNeg (0 : Int32)), partedBy)
  else none))
  else
  (if inb ((76 : Int32) + (x2 - x2 / (10 : Int32) * (10 : Int32))) 85 then
  some ((upd (upd (upd hand 83 ((hand 83) &&& (((1 : Int32) <<< ((x2 - x2 / (10 : Int32) * (10 : Int32)) &&& (31 : Int32))) ^^^ (-1 : Int32)))) 82 (((upd hand 83 ((hand 83) &&& (((1 : Int32) <<< ((x2 - x2 / (10 : Int32) * (10 : Int32)) &&& (31 : Int32))) ^^^ (-1 : Int32)))) 82) &&& (((1 : Int32) <<< ((x2 - x2 / (10 : Int32) * (10 : Int32)) &&& (31 : Int32))) ^^^ (-1 : Int32)))) ((76 : Int32) + (x2 - x2 / (10 : Int32) * (10 : Int32))).toNatClampNeg (0 : Int32)), partedBy)
  else none))
  else
  (some ((upd hand 84 (x2 - x2 / (10 : Int32) * (10 : Int32))), partedBy))
set_option maxHeartbeats 4000000 in
set_option maxRecDepth 100000 in
theorem c_X7_goDeed_hand {G : x_G} {l : Launch} {a : Nat → Nat} {now : (Nat → Int32)} {kept : (Nat → Int32)} {isKept : (Nat → Int32)} {rows : (Nat → Int32)} {rowLong : (Nat → Int32)} {texts : (Nat → Int32)} {textLong : (Nat → Int32)} {found : (Nat → Int32)} {taken : (Nat → Int32)} {anew : (Nat → Int32)} {steps : (Nat → Int32)} {shares : (Nat → Int32)} {choices : (Nat → Int32)} {values : (Nat → Int32)} {latest : Int32} {askedIs : Int32} {above : Int64} {below : Int64} {place : Int32} {hand : (Nat → Int32)} {partedBy : Int32} {x2 : Int32} {res : (Nat → Int32) × Int32} (h : M_X7_goDeed_hand hand partedBy x2 = some res) : x_M G l yX7_goDeed cX7_goDeed 5 none (3) 0 0 [.ref (a 0), .ref (a 11), .int x2] (WModel G a now kept isKept rows rowLong texts textLong found taken anew hand steps shares choices values latest askedIs above below place partedBy) (x_is none (WModel G a now kept isKept rows rowLong texts textLong found taken anew res.1 steps shares choices values latest askedIs above below place res.2)) := by
  unfold M_X7_goDeed_hand at h
  refine x_enter (ini := false) (by decide) rfl (by decide) rfl (Nat.le_of_ble_eq_true rfl) ?_
  refine x_iload_n dX7_goDeed_0 2 rfl rfl ?_
  refine x_bipush 10 dX7_goDeed_1 (by decide) ?_
  refine x_irem dX7_goDeed_3 (by decide) ?_
  refine x_istore_n [(3, .int (x2 - x2 / (10 : Int32) * (10 : Int32))), (0, .ref (a 0)), (1, .ref (a 11)), (2, .int x2)] dX7_goDeed_4 rfl (by decide) rfl ?_
  refine x_iload_n dX7_goDeed_5 3 rfl rfl ?_
  refine x_sipush 600 dX7_goDeed_6 (by decide) ?_
  refine x_icmp_lt 20 dX7_goDeed_9 (by decide) (fun c1 => ?_) (fun c1 => ?_)
  · have h := x_pos c1 h
    refine x_iload_n dX7_goDeed_20 3 rfl rfl ?_
    refine x_sipush 500 dX7_goDeed_21 (by decide) ?_
    refine x_icmp_lt 61 dX7_goDeed_24 (by decide) (fun c2 => ?_) (fun c2 => ?_)
    · have h := x_pos c2 h
      refine x_iload_n dX7_goDeed_61 3 rfl rfl ?_
      refine x_sipush 400 dX7_goDeed_62 (by decide) ?_
      refine x_icmp_lt 88 dX7_goDeed_65 (by decide) (fun c3 => ?_) (fun c3 => ?_)
      · have h := x_pos c3 h
        refine x_iload_n dX7_goDeed_88 3 rfl rfl ?_
        refine x_sipush 300 dX7_goDeed_89 (by decide) ?_
        refine x_icmp_lt 110 dX7_goDeed_92 (by decide) (fun c4 => ?_) (fun c4 => ?_)
        · have h := x_pos c4 h
          refine x_iload_n dX7_goDeed_110 3 rfl rfl ?_
          refine x_sipush 200 dX7_goDeed_111 (by decide) ?_
          refine x_icmp_lt 137 dX7_goDeed_114 (by decide) (fun c5 => ?_) (fun c5 => ?_)
          · have h := x_pos c5 h
            refine x_iload_n dX7_goDeed_137 3 rfl rfl ?_
            refine x_bipush 100 dX7_goDeed_138 (by decide) ?_
            refine x_icmp_lt 158 dX7_goDeed_140 (by decide) (fun c6 => ?_) (fun c6 => ?_)
            · have h := x_pos c6 h
              cases h
              exact x_return dX7_goDeed_158 (x_is.rf _ _)
            · have h := x_neg c6 h
              refine x_aload_n dX7_goDeed_143 1 rfl rfl ?_
              refine x_aload_n dX7_goDeed_144 2 rfl rfl ?_
              refine x_iload_n dX7_goDeed_145 0 rfl rfl ?_
              refine x_iload_n dX7_goDeed_146 3 rfl rfl ?_
              refine x_bipush 10 dX7_goDeed_147 (by decide) ?_
              refine x_idiv dX7_goDeed_149 (by decide) ?_
              refine x_bipush 10 dX7_goDeed_150 (by decide) ?_
              refine x_irem dX7_goDeed_152 (by decide) ?_
              obtain ⟨r7, e8, h⟩ := x_bind h
              refine x_cV (As := [.ref (a 11), .int (x2 - x2 / (10 : Int32) * (10 : Int32)), .int ((x2 / (10 : Int32)) - (x2 / (10 : Int32)) / (10 : Int32) * (10 : Int32))]) (wc := (WModel G a now kept isKept rows rowLong texts textLong found taken anew hand steps shares choices values latest askedIs above below place partedBy)) (w1 := (WModel G a now kept isKept rows rowLong texts textLong found taken anew r7.2.1 steps shares choices values latest askedIs above below place r7.2.2)) (pre := []) (post := []) (rest := []) (st1 := [.int r7.1]) (ws1 := (WModel G a now kept isKept rows rowLong texts textLong found taken anew r7.2.1 steps shares choices values latest askedIs above below place r7.2.2)) (ci := 5) 0 dX7_goDeed_153 (c_X7_goHaul_hand (a := a) e8) pk_X7_goHaul ml_X7_147 (x_full _) rfl rfl rfl rfl rfl rfl rfl rfl (x_full _).symm ?_
              refine x_istore [(4, .int r7.1), (3, .int (x2 - x2 / (10 : Int32) * (10 : Int32))), (0, .ref (a 0)), (1, .ref (a 11)), (2, .int x2)] dX7_goDeed_156 (by decide) rfl ?_
              cases h
              exact x_return dX7_goDeed_158 (x_is.rf _ _)
          · have h := x_neg c5 h
            refine x_aload_n dX7_goDeed_117 2 rfl rfl ?_
            refine x_bipush 82 dX7_goDeed_118 (by decide) ?_
            refine x_dup2 dX7_goDeed_120 rfl rfl ?_
            refine x_iald 82 (q0 := 11) dX7_goDeed_121 (by decide) rfl (by decide) ?_
            refine x_iconst 1 dX7_goDeed_122 (by decide) ?_
            refine x_iload_n dX7_goDeed_123 0 rfl rfl ?_
            refine x_ishl dX7_goDeed_124 ?_
            refine x_ior dX7_goDeed_125 ?_
            refine x_iast 82 (q0 := 11) (WModel G a now kept isKept rows rowLong texts textLong found taken anew ((upd hand 82 ((hand 82) ||| ((1 : Int32) <<< ((x2 - x2 / (10 : Int32) * (10 : Int32)) &&& (31 : Int32)))))) steps shares choices values latest askedIs above below place partedBy) dX7_goDeed_126 (by decide) rfl (by decide) rfl ?_
            refine x_aload_n dX7_goDeed_127 2 rfl rfl ?_
            refine x_bipush 76 dX7_goDeed_128 (by decide) ?_
            refine x_iload_n dX7_goDeed_130 0 rfl rfl ?_
            refine x_iadd dX7_goDeed_131 ?_
            refine x_iconst 0 dX7_goDeed_132 (by decide) ?_
            obtain ⟨b9, h⟩ := x_guard h
            refine x_iast ((76 : Int32) + (x2 - x2 / (10 : Int32) * (10 : Int32))).toNatClampNeg (q0 := 11) (WModel G a now kept isKept rows rowLong texts textLong found taken anew ((upd (upd hand 82 ((hand 82) ||| ((1 : Int32) <<< ((x2 - x2 / (10 : Int32) * (10 : Int32)) &&& (31 : Int32))))) ((76 : Int32) + (x2 - x2 / (10 : Int32) * (10 : Int32))).toNatClampNeg (0 : Int32))) steps shares choices values latest askedIs above below place partedBy) dX7_goDeed_133 rfl rfl b9 rfl ?_
            refine x_goto 158 dX7_goDeed_134 (by decide) ?_
            cases h
            exact x_return dX7_goDeed_158 (x_is.rf _ _)
        · have h := x_neg c4 h
          refine x_aload_n dX7_goDeed_95 2 rfl rfl ?_
          refine x_bipush 82 dX7_goDeed_96 (by decide) ?_
          refine x_dup2 dX7_goDeed_98 rfl rfl ?_
          refine x_iald 82 (q0 := 11) dX7_goDeed_99 (by decide) rfl (by decide) ?_
          refine x_iconst 1 dX7_goDeed_100 (by decide) ?_
          refine x_iload_n dX7_goDeed_101 0 rfl rfl ?_
          refine x_ishl dX7_goDeed_102 ?_
          refine x_iconst (-1 : Int32) dX7_goDeed_103 (by decide) ?_
          refine x_ixor dX7_goDeed_104 ?_
          refine x_iand dX7_goDeed_105 ?_
          refine x_iast 82 (q0 := 11) (WModel G a now kept isKept rows rowLong texts textLong found taken anew ((upd hand 82 ((hand 82) &&& (((1 : Int32) <<< ((x2 - x2 / (10 : Int32) * (10 : Int32)) &&& (31 : Int32))) ^^^ (-1 : Int32))))) steps shares choices values latest askedIs above below place partedBy) dX7_goDeed_106 (by decide) rfl (by decide) rfl ?_
          refine x_goto 158 dX7_goDeed_107 (by decide) ?_
          cases h
          exact x_return dX7_goDeed_158 (x_is.rf _ _)
      · have h := x_neg c3 h
        refine x_aload_n dX7_goDeed_68 2 rfl rfl ?_
        refine x_bipush 83 dX7_goDeed_69 (by decide) ?_
        refine x_dup2 dX7_goDeed_71 rfl rfl ?_
        refine x_iald 83 (q0 := 11) dX7_goDeed_72 (by decide) rfl (by decide) ?_
        refine x_iconst 1 dX7_goDeed_73 (by decide) ?_
        refine x_iload_n dX7_goDeed_74 0 rfl rfl ?_
        refine x_ishl dX7_goDeed_75 ?_
        refine x_ior dX7_goDeed_76 ?_
        refine x_iast 83 (q0 := 11) (WModel G a now kept isKept rows rowLong texts textLong found taken anew ((upd hand 83 ((hand 83) ||| ((1 : Int32) <<< ((x2 - x2 / (10 : Int32) * (10 : Int32)) &&& (31 : Int32)))))) steps shares choices values latest askedIs above below place partedBy) dX7_goDeed_77 (by decide) rfl (by decide) rfl ?_
        refine x_aload_n dX7_goDeed_78 2 rfl rfl ?_
        refine x_bipush 76 dX7_goDeed_79 (by decide) ?_
        refine x_iload_n dX7_goDeed_81 0 rfl rfl ?_
        refine x_iadd dX7_goDeed_82 ?_
        refine x_iconst 0 dX7_goDeed_83 (by decide) ?_
        obtain ⟨b10, h⟩ := x_guard h
        refine x_iast ((76 : Int32) + (x2 - x2 / (10 : Int32) * (10 : Int32))).toNatClampNeg (q0 := 11) (WModel G a now kept isKept rows rowLong texts textLong found taken anew ((upd (upd hand 83 ((hand 83) ||| ((1 : Int32) <<< ((x2 - x2 / (10 : Int32) * (10 : Int32)) &&& (31 : Int32))))) ((76 : Int32) + (x2 - x2 / (10 : Int32) * (10 : Int32))).toNatClampNeg (0 : Int32))) steps shares choices values latest askedIs above below place partedBy) dX7_goDeed_84 rfl rfl b10 rfl ?_
        refine x_goto 158 dX7_goDeed_85 (by decide) ?_
        cases h
        exact x_return dX7_goDeed_158 (x_is.rf _ _)
    · have h := x_neg c2 h
      refine x_aload_n dX7_goDeed_27 2 rfl rfl ?_
      refine x_bipush 83 dX7_goDeed_28 (by decide) ?_
      refine x_dup2 dX7_goDeed_30 rfl rfl ?_
      refine x_iald 83 (q0 := 11) dX7_goDeed_31 (by decide) rfl (by decide) ?_
      refine x_iconst 1 dX7_goDeed_32 (by decide) ?_
      refine x_iload_n dX7_goDeed_33 0 rfl rfl ?_
      refine x_ishl dX7_goDeed_34 ?_
      refine x_iconst (-1 : Int32) dX7_goDeed_35 (by decide) ?_
      refine x_ixor dX7_goDeed_36 ?_
      refine x_iand dX7_goDeed_37 ?_
      refine x_iast 83 (q0 := 11) (WModel G a now kept isKept rows rowLong texts textLong found taken anew ((upd hand 83 ((hand 83) &&& (((1 : Int32) <<< ((x2 - x2 / (10 : Int32) * (10 : Int32)) &&& (31 : Int32))) ^^^ (-1 : Int32))))) steps shares choices values latest askedIs above below place partedBy) dX7_goDeed_38 (by decide) rfl (by decide) rfl ?_
      refine x_aload_n dX7_goDeed_39 2 rfl rfl ?_
      refine x_bipush 82 dX7_goDeed_40 (by decide) ?_
      refine x_dup2 dX7_goDeed_42 rfl rfl ?_
      refine x_iald 82 (q0 := 11) dX7_goDeed_43 (by decide) rfl (by decide) ?_
      refine x_iconst 1 dX7_goDeed_44 (by decide) ?_
      refine x_iload_n dX7_goDeed_45 0 rfl rfl ?_
      refine x_ishl dX7_goDeed_46 ?_
      refine x_iconst (-1 : Int32) dX7_goDeed_47 (by decide) ?_
      refine x_ixor dX7_goDeed_48 ?_
      refine x_iand dX7_goDeed_49 ?_
      refine x_iast 82 (q0 := 11) (WModel G a now kept isKept rows rowLong texts textLong found taken anew ((upd (upd hand 83 ((hand 83) &&& (((1 : Int32) <<< ((x2 - x2 / (10 : Int32) * (10 : Int32)) &&& (31 : Int32))) ^^^ (-1 : Int32)))) 82 (((upd hand 83 ((hand 83) &&& (((1 : Int32) <<< ((x2 - x2 / (10 : Int32) * (10 : Int32)) &&& (31 : Int32))) ^^^ (-1 : Int32)))) 82) &&& (((1 : Int32) <<< ((x2 - x2 / (10 : Int32) * (10 : Int32)) &&& (31 : Int32))) ^^^ (-1 : Int32))))) steps shares choices values latest askedIs above below place partedBy) dX7_goDeed_50 (by decide) rfl (by decide) rfl ?_
      refine x_aload_n dX7_goDeed_51 2 rfl rfl ?_
      refine x_bipush 76 dX7_goDeed_52 (by decide) ?_
      refine x_iload_n dX7_goDeed_54 0 rfl rfl ?_
      refine x_iadd dX7_goDeed_55 ?_
      refine x_iconst 0 dX7_goDeed_56 (by decide) ?_
      obtain ⟨b11, h⟩ := x_guard h
      refine x_iast ((76 : Int32) + (x2 - x2 / (10 : Int32) * (10 : Int32))).toNatClampNeg (q0 := 11) (WModel G a now kept isKept rows rowLong texts textLong found taken anew ((upd (upd (upd hand 83 ((hand 83) &&& (((1 : Int32) <<< ((x2 - x2 / (10 : Int32) * (10 : Int32)) &&& (31 : Int32))) ^^^ (-1 : Int32)))) 82 (((upd hand 83 ((hand 83) &&& (((1 : Int32) <<< ((x2 - x2 / (10 : Int32) * (10 : Int32)) &&& (31 : Int32))) ^^^ (-1 : Int32)))) 82) &&& (((1 : Int32) <<< ((x2 - x2 / (10 : Int32) * (10 : Int32)) &&& (31 : Int32))) ^^^ (-1 : Int32)))) ((76 : Int32) + (x2 - x2 / (10 : Int32) * (10 : Int32))).toNatClampNeg (0 : Int32))) steps shares choices values latest askedIs above below place partedBy) dX7_goDeed_57 rfl rfl b11 rfl ?_
      refine x_goto 158 dX7_goDeed_58 (by decide) ?_
      cases h
      exact x_return dX7_goDeed_158 (x_is.rf _ _)
  · have h := x_neg c1 h
    refine x_aload_n dX7_goDeed_12 2 rfl rfl ?_
    refine x_bipush 84 dX7_goDeed_13 (by decide) ?_
    refine x_iload_n dX7_goDeed_15 0 rfl rfl ?_
    refine x_iast 84 (q0 := 11) (WModel G a now kept isKept rows rowLong texts textLong found taken anew ((upd hand 84 (x2 - x2 / (10 : Int32) * (10 : Int32)))) steps shares choices values latest askedIs above below place partedBy) dX7_goDeed_16 (by decide) rfl (by decide) rfl ?_
    refine x_goto 158 dX7_goDeed_17 (by decide) ?_
    cases h
    exact x_return dX7_goDeed_158 (x_is.rf _ _)
theorem pk_X7_goes : x_pv RX7 yX7_goes cX7_goes 8 (some .boolean) 3 := ⟨⟨co_X7_goes, ni_X7, by decide, by decide +kernel⟩, im_X7_goes, se_X7_goes⟩
def M_X7_goes_b164 (now : (Nat → Int32)) (k48 : (Nat → Int32) → (Nat → Int32) → Int32 → Int32 → Int32 → Int32 → Int32 → Option (Int32 × (Nat → Int32) × (Nat → Int32) × Int32)) (hand : (Nat → Int32)) (steps : (Nat → Int32)) (partedBy : Int32) (x2 : Int32) (x3 : Int32) (x5 : Int32) (x6 : Int32) : Option (Int32 × (Nat → Int32) × (Nat → Int32) × Int32) :=
  k48 hand steps partedBy x2 x3 x5 (x6 + (1 : Int32))
set_option maxHeartbeats 4000000 in
set_option maxRecDepth 100000 in
theorem w_X7_goes_b164 {G : x_G} {l : Launch} {a : Nat → Nat} {now : (Nat → Int32)} {kept : (Nat → Int32)} {isKept : (Nat → Int32)} {rows : (Nat → Int32)} {rowLong : (Nat → Int32)} {texts : (Nat → Int32)} {textLong : (Nat → Int32)} {found : (Nat → Int32)} {taken : (Nat → Int32)} {anew : (Nat → Int32)} {shares : (Nat → Int32)} {choices : (Nat → Int32)} {values : (Nat → Int32)} {latest : Int32} {askedIs : Int32} {above : Int64} {below : Int64} {place : Int32} {k48 : (Nat → Int32) → (Nat → Int32) → Int32 → Int32 → Int32 → Int32 → Int32 → Option (Int32 × (Nat → Int32) × (Nat → Int32) × Int32)} {res : Int32 × (Nat → Int32) × (Nat → Int32) × Int32} (hk48 : ∀ (hand : (Nat → Int32)) (steps : (Nat → Int32)) (partedBy : Int32) (x2 : Int32) (x3 : Int32) (x5 : Int32) (x6 : Int32), k48 hand steps partedBy x2 x3 x5 x6 = some res → X G l RX7 cX7_goes 8 (x_R 4 0 0) (x_Cm G (some .boolean) false (x_is (some (.int res.1)) (WModel G a now kept isKept rows rowLong texts textLong found taken anew res.2.1 res.2.2.1 shares choices values latest askedIs above below place res.2.2.2)) 0 0) 0 0 48 [(0, .ref (a 0)), (2, .int x2), (3, .int x3), (5, .int x5), (6, .int x6)] [] (WModel G a now kept isKept rows rowLong texts textLong found taken anew hand steps shares choices values latest askedIs above below place partedBy)) (hand : (Nat → Int32)) (steps : (Nat → Int32)) (partedBy : Int32) (x2 : Int32) (x3 : Int32) (x5 : Int32) (x6 : Int32) (h : M_X7_goes_b164 now k48 hand steps partedBy x2 x3 x5 x6 = some res) : X G l RX7 cX7_goes 8 (x_R 4 0 0) (x_Cm G (some .boolean) false (x_is (some (.int res.1)) (WModel G a now kept isKept rows rowLong texts textLong found taken anew res.2.1 res.2.2.1 shares choices values latest askedIs above below place res.2.2.2)) 0 0) 0 0 164 [(0, .ref (a 0)), (2, .int x2), (3, .int x3), (5, .int x5), (6, .int x6)] [] (WModel G a now kept isKept rows rowLong texts textLong found taken anew hand steps shares choices values latest askedIs above below place partedBy) := by
  unfold M_X7_goes_b164 at h
  refine x_iinc (j := 4) (1 : Int32) [(6, .int (x6 + (1 : Int32))), (0, .ref (a 0)), (2, .int x2), (3, .int x3), (5, .int x5)] dX7_goes_164 (by decide) rfl (by decide) rfl ?_
  refine x_goto 48 dX7_goes_167 (by decide) ?_
  refine x_lv [1, 2, 3, 4, 0] rfl ?_
  exact hk48 _ _ _ _ _ _ _ h
def M_X7_goes_b162 (now : (Nat → Int32)) (k48 : (Nat → Int32) → (Nat → Int32) → Int32 → Int32 → Int32 → Int32 → Int32 → Option (Int32 × (Nat → Int32) × (Nat → Int32) × Int32)) (hand : (Nat → Int32)) (steps : (Nat → Int32)) (partedBy : Int32) (x2 : Int32) (x3 : Int32) (x6 : Int32) (s0 : Int32) : Option (Int32 × (Nat → Int32) × (Nat → Int32) × Int32) :=
  M_X7_goes_b164 now k48 hand steps partedBy x2 x3 s0 x6
set_option maxHeartbeats 4000000 in
set_option maxRecDepth 100000 in
theorem w_X7_goes_b162 {G : x_G} {l : Launch} {a : Nat → Nat} {now : (Nat → Int32)} {kept : (Nat → Int32)} {isKept : (Nat → Int32)} {rows : (Nat → Int32)} {rowLong : (Nat → Int32)} {texts : (Nat → Int32)} {textLong : (Nat → Int32)} {found : (Nat → Int32)} {taken : (Nat → Int32)} {anew : (Nat → Int32)} {shares : (Nat → Int32)} {choices : (Nat → Int32)} {values : (Nat → Int32)} {latest : Int32} {askedIs : Int32} {above : Int64} {below : Int64} {place : Int32} {k48 : (Nat → Int32) → (Nat → Int32) → Int32 → Int32 → Int32 → Int32 → Int32 → Option (Int32 × (Nat → Int32) × (Nat → Int32) × Int32)} {res : Int32 × (Nat → Int32) × (Nat → Int32) × Int32} (hk48 : ∀ (hand : (Nat → Int32)) (steps : (Nat → Int32)) (partedBy : Int32) (x2 : Int32) (x3 : Int32) (x5 : Int32) (x6 : Int32), k48 hand steps partedBy x2 x3 x5 x6 = some res → X G l RX7 cX7_goes 8 (x_R 4 0 0) (x_Cm G (some .boolean) false (x_is (some (.int res.1)) (WModel G a now kept isKept rows rowLong texts textLong found taken anew res.2.1 res.2.2.1 shares choices values latest askedIs above below place res.2.2.2)) 0 0) 0 0 48 [(0, .ref (a 0)), (2, .int x2), (3, .int x3), (5, .int x5), (6, .int x6)] [] (WModel G a now kept isKept rows rowLong texts textLong found taken anew hand steps shares choices values latest askedIs above below place partedBy)) (hand : (Nat → Int32)) (steps : (Nat → Int32)) (partedBy : Int32) (x2 : Int32) (x3 : Int32) (x6 : Int32) (s0 : Int32) (h : M_X7_goes_b162 now k48 hand steps partedBy x2 x3 x6 s0 = some res) : X G l RX7 cX7_goes 8 (x_R 4 0 0) (x_Cm G (some .boolean) false (x_is (some (.int res.1)) (WModel G a now kept isKept rows rowLong texts textLong found taken anew res.2.1 res.2.2.1 shares choices values latest askedIs above below place res.2.2.2)) 0 0) 0 0 162 [(0, .ref (a 0)), (2, .int x2), (3, .int x3), (6, .int x6)] [.int s0] (WModel G a now kept isKept rows rowLong texts textLong found taken anew hand steps shares choices values latest askedIs above below place partedBy) := by
  unfold M_X7_goes_b162 at h
  refine x_istore [(5, .int s0), (0, .ref (a 0)), (2, .int x2), (3, .int x3), (6, .int x6)] dX7_goes_162 (by decide) rfl ?_
  refine x_lv [1, 2, 3, 0, 4] rfl ?_
  exact w_X7_goes_b164 hk48 _ _ _ _ _ _ _ h
def M_X7_goes_b137 (now : (Nat → Int32)) (k48 : (Nat → Int32) → (Nat → Int32) → Int32 → Int32 → Int32 → Int32 → Int32 → Option (Int32 × (Nat → Int32) × (Nat → Int32) × Int32)) (hand : (Nat → Int32)) (steps : (Nat → Int32)) (partedBy : Int32) (x2 : Int32) (x3 : Int32) (x6 : Int32) (s2 : Int32) : Option (Int32 × (Nat → Int32) × (Nat → Int32) × Int32) :=
  (M_X7_goDeed_hand hand partedBy s2).bind fun r13 =>
  if (r13.1 83) = (now 83) then
  (M_X7_goes_b162 now k48 r13.1 steps r13.2 x2 x3 x6 (1 : Int32))
  else
  (M_X7_goes_b162 now k48 r13.1 steps r13.2 x2 x3 x6 (0 : Int32))
set_option maxHeartbeats 4000000 in
set_option maxRecDepth 100000 in
theorem w_X7_goes_b137 {G : x_G} {l : Launch} {a : Nat → Nat} {now : (Nat → Int32)} {kept : (Nat → Int32)} {isKept : (Nat → Int32)} {rows : (Nat → Int32)} {rowLong : (Nat → Int32)} {texts : (Nat → Int32)} {textLong : (Nat → Int32)} {found : (Nat → Int32)} {taken : (Nat → Int32)} {anew : (Nat → Int32)} {shares : (Nat → Int32)} {choices : (Nat → Int32)} {values : (Nat → Int32)} {latest : Int32} {askedIs : Int32} {above : Int64} {below : Int64} {place : Int32} {k48 : (Nat → Int32) → (Nat → Int32) → Int32 → Int32 → Int32 → Int32 → Int32 → Option (Int32 × (Nat → Int32) × (Nat → Int32) × Int32)} {res : Int32 × (Nat → Int32) × (Nat → Int32) × Int32} (hk48 : ∀ (hand : (Nat → Int32)) (steps : (Nat → Int32)) (partedBy : Int32) (x2 : Int32) (x3 : Int32) (x5 : Int32) (x6 : Int32), k48 hand steps partedBy x2 x3 x5 x6 = some res → X G l RX7 cX7_goes 8 (x_R 4 0 0) (x_Cm G (some .boolean) false (x_is (some (.int res.1)) (WModel G a now kept isKept rows rowLong texts textLong found taken anew res.2.1 res.2.2.1 shares choices values latest askedIs above below place res.2.2.2)) 0 0) 0 0 48 [(0, .ref (a 0)), (2, .int x2), (3, .int x3), (5, .int x5), (6, .int x6)] [] (WModel G a now kept isKept rows rowLong texts textLong found taken anew hand steps shares choices values latest askedIs above below place partedBy)) (hand : (Nat → Int32)) (steps : (Nat → Int32)) (partedBy : Int32) (x2 : Int32) (x3 : Int32) (x6 : Int32) (s2 : Int32) (h : M_X7_goes_b137 now k48 hand steps partedBy x2 x3 x6 s2 = some res) : X G l RX7 cX7_goes 8 (x_R 4 0 0) (x_Cm G (some .boolean) false (x_is (some (.int res.1)) (WModel G a now kept isKept rows rowLong texts textLong found taken anew res.2.1 res.2.2.1 shares choices values latest askedIs above below place res.2.2.2)) 0 0) 0 0 137 [(0, .ref (a 0)), (2, .int x2), (3, .int x3), (6, .int x6)] [.int s2, .ref (a 11), .ref (a 0)] (WModel G a now kept isKept rows rowLong texts textLong found taken anew hand steps shares choices values latest askedIs above below place partedBy) := by
  unfold M_X7_goes_b137 at h
  obtain ⟨r13, e14, h⟩ := x_bind h
  refine x_cV (As := [.ref (a 11), .int s2]) (wc := (WModel G a now kept isKept rows rowLong texts textLong found taken anew hand steps shares choices values latest askedIs above below place partedBy)) (w1 := (WModel G a now kept isKept rows rowLong texts textLong found taken anew r13.1 steps shares choices values latest askedIs above below place r13.2)) (pre := []) (post := []) (rest := []) (st1 := []) (ws1 := (WModel G a now kept isKept rows rowLong texts textLong found taken anew r13.1 steps shares choices values latest askedIs above below place r13.2)) (ci := 5) 0 dX7_goes_137 (c_X7_goDeed_hand (a := a) e14) pk_X7_goDeed ml_X7_151 (x_full _) rfl rfl rfl rfl rfl rfl rfl rfl (x_full _).symm ?_
  refine x_aload_n dX7_goes_140 0 rfl rfl ?_
  refine x_get (ci := 5) 16 0 dX7_goes_141 fl_X7_45 inX7 rfl (by decide) ⟨rfl, rfl, rfl⟩ rfl rfl ?_
  refine x_bipush 83 dX7_goes_144 (by decide) ?_
  refine x_iald 83 (q0 := 11) dX7_goes_146 (by decide) rfl (by decide) ?_
  refine x_aload_n dX7_goes_147 0 rfl rfl ?_
  refine x_get (ci := 5) 0 0 dX7_goes_148 fl_X7_7 inX7 rfl (by decide) ⟨rfl, rfl, rfl⟩ rfl rfl ?_
  refine x_bipush 83 dX7_goes_151 (by decide) ?_
  refine x_iald 83 (q0 := 1) dX7_goes_153 (by decide) rfl (by decide) ?_
  refine x_icmp_ne 161 dX7_goes_154 (by decide) (fun c15 => ?_) (fun c15 => ?_)
  · have h := x_neg c15 h
    refine x_iconst 0 dX7_goes_161 (by decide) ?_
    exact w_X7_goes_b162 hk48 _ _ _ _ _ _ _ h
  · have h := x_pos c15 h
    refine x_iconst 1 dX7_goes_157 (by decide) ?_
    refine x_goto 162 dX7_goes_158 (by decide) ?_
    exact w_X7_goes_b162 hk48 _ _ _ _ _ _ _ h
def M_X7_goes_b99 (now : (Nat → Int32)) (k48 : (Nat → Int32) → (Nat → Int32) → Int32 → Int32 → Int32 → Int32 → Int32 → Option (Int32 × (Nat → Int32) × (Nat → Int32) × Int32)) (hand : (Nat → Int32)) (steps : (Nat → Int32)) (partedBy : Int32) (x2 : Int32) (x3 : Int32) (x6 : Int32) (x7 : Int32) (s0 : Int32) : Option (Int32 × (Nat → Int32) × (Nat → Int32) × Int32) :=
  if s0 = 0 then
  (M_X7_goes_b164 now k48 hand steps partedBy x2 x3 s0 x6)
  else
  (if inb x6 4 then
  if (6 : Int32) ≤ (steps x6.toNatClampNeg) then
  (M_X7_goes_b137 now k48 hand steps partedBy x2 x3 x6 ((200 : Int32) + x7))
  else
  (M_X7_goes_b137 now k48 hand steps partedBy x2 x3 x6 ((110 : Int32) + x7))
  else none)
set_option maxHeartbeats 4000000 in
set_option maxRecDepth 100000 in
theorem w_X7_goes_b99 {G : x_G} {l : Launch} {a : Nat → Nat} {now : (Nat → Int32)} {kept : (Nat → Int32)} {isKept : (Nat → Int32)} {rows : (Nat → Int32)} {rowLong : (Nat → Int32)} {texts : (Nat → Int32)} {textLong : (Nat → Int32)} {found : (Nat → Int32)} {taken : (Nat → Int32)} {anew : (Nat → Int32)} {shares : (Nat → Int32)} {choices : (Nat → Int32)} {values : (Nat → Int32)} {latest : Int32} {askedIs : Int32} {above : Int64} {below : Int64} {place : Int32} {k48 : (Nat → Int32) → (Nat → Int32) → Int32 → Int32 → Int32 → Int32 → Int32 → Option (Int32 × (Nat → Int32) × (Nat → Int32) × Int32)} {res : Int32 × (Nat → Int32) × (Nat → Int32) × Int32} (hk48 : ∀ (hand : (Nat → Int32)) (steps : (Nat → Int32)) (partedBy : Int32) (x2 : Int32) (x3 : Int32) (x5 : Int32) (x6 : Int32), k48 hand steps partedBy x2 x3 x5 x6 = some res → X G l RX7 cX7_goes 8 (x_R 4 0 0) (x_Cm G (some .boolean) false (x_is (some (.int res.1)) (WModel G a now kept isKept rows rowLong texts textLong found taken anew res.2.1 res.2.2.1 shares choices values latest askedIs above below place res.2.2.2)) 0 0) 0 0 48 [(0, .ref (a 0)), (2, .int x2), (3, .int x3), (5, .int x5), (6, .int x6)] [] (WModel G a now kept isKept rows rowLong texts textLong found taken anew hand steps shares choices values latest askedIs above below place partedBy)) (hand : (Nat → Int32)) (steps : (Nat → Int32)) (partedBy : Int32) (x2 : Int32) (x3 : Int32) (x6 : Int32) (x7 : Int32) (s0 : Int32) (h : M_X7_goes_b99 now k48 hand steps partedBy x2 x3 x6 x7 s0 = some res) : X G l RX7 cX7_goes 8 (x_R 4 0 0) (x_Cm G (some .boolean) false (x_is (some (.int res.1)) (WModel G a now kept isKept rows rowLong texts textLong found taken anew res.2.1 res.2.2.1 shares choices values latest askedIs above below place res.2.2.2)) 0 0) 0 0 99 [(0, .ref (a 0)), (2, .int x2), (3, .int x3), (6, .int x6), (7, .int x7)] [.int s0] (WModel G a now kept isKept rows rowLong texts textLong found taken anew hand steps shares choices values latest askedIs above below place partedBy) := by
  unfold M_X7_goes_b99 at h
  refine x_istore [(5, .int s0), (0, .ref (a 0)), (2, .int x2), (3, .int x3), (6, .int x6), (7, .int x7)] dX7_goes_99 (by decide) rfl ?_
  refine x_iload dX7_goes_101 0 rfl ?_
  refine x_if_eq 164 dX7_goes_103 (by decide) (fun c10 => ?_) (fun c10 => ?_)
  · have h := x_pos c10 h
    refine x_lv [1, 2, 3, 0, 4] rfl ?_
    exact w_X7_goes_b164 hk48 _ _ _ _ _ _ _ h
  · have h := x_neg c10 h
    refine x_aload_n dX7_goes_106 1 rfl rfl ?_
    refine x_aload_n dX7_goes_107 1 rfl rfl ?_
    refine x_get (ci := 5) 16 0 dX7_goes_108 fl_X7_45 inX7 rfl (by decide) ⟨rfl, rfl, rfl⟩ rfl rfl ?_
    refine x_aload_n dX7_goes_111 1 rfl rfl ?_
    refine x_get (ci := 5) 17 0 dX7_goes_112 fl_X7_48 inX7 rfl (by decide) ⟨rfl, rfl, rfl⟩ rfl rfl ?_
    refine x_iload dX7_goes_115 4 rfl ?_
    obtain ⟨b11, h⟩ := x_guard h
    refine x_iald x6.toNatClampNeg (q0 := 12) dX7_goes_117 rfl rfl b11 ?_
    refine x_bipush 6 dX7_goes_118 (by decide) ?_
    refine x_icmp_ge 131 dX7_goes_120 (by decide) (fun c12 => ?_) (fun c12 => ?_)
    · have h := x_pos c12 h
      refine x_sipush 200 dX7_goes_131 (by decide) ?_
      refine x_iload dX7_goes_134 5 rfl ?_
      refine x_iadd dX7_goes_136 ?_
      refine x_lv [1, 2, 3, 4] rfl ?_
      exact w_X7_goes_b137 hk48 _ _ _ _ _ _ _ h
    · have h := x_neg c12 h
      refine x_bipush 110 dX7_goes_123 (by decide) ?_
      refine x_iload dX7_goes_125 5 rfl ?_
      refine x_iadd dX7_goes_127 ?_
      refine x_goto 137 dX7_goes_128 (by decide) ?_
      refine x_lv [1, 2, 3, 4] rfl ?_
      exact w_X7_goes_b137 hk48 _ _ _ _ _ _ _ h
def M_X7_goes_b98 (now : (Nat → Int32)) (k48 : (Nat → Int32) → (Nat → Int32) → Int32 → Int32 → Int32 → Int32 → Int32 → Option (Int32 × (Nat → Int32) × (Nat → Int32) × Int32)) (hand : (Nat → Int32)) (steps : (Nat → Int32)) (partedBy : Int32) (x2 : Int32) (x3 : Int32) (x6 : Int32) (x7 : Int32) : Option (Int32 × (Nat → Int32) × (Nat → Int32) × Int32) :=
  M_X7_goes_b99 now k48 hand steps partedBy x2 x3 x6 x7 (0 : Int32)
set_option maxHeartbeats 4000000 in
set_option maxRecDepth 100000 in
theorem w_X7_goes_b98 {G : x_G} {l : Launch} {a : Nat → Nat} {now : (Nat → Int32)} {kept : (Nat → Int32)} {isKept : (Nat → Int32)} {rows : (Nat → Int32)} {rowLong : (Nat → Int32)} {texts : (Nat → Int32)} {textLong : (Nat → Int32)} {found : (Nat → Int32)} {taken : (Nat → Int32)} {anew : (Nat → Int32)} {shares : (Nat → Int32)} {choices : (Nat → Int32)} {values : (Nat → Int32)} {latest : Int32} {askedIs : Int32} {above : Int64} {below : Int64} {place : Int32} {k48 : (Nat → Int32) → (Nat → Int32) → Int32 → Int32 → Int32 → Int32 → Int32 → Option (Int32 × (Nat → Int32) × (Nat → Int32) × Int32)} {res : Int32 × (Nat → Int32) × (Nat → Int32) × Int32} (hk48 : ∀ (hand : (Nat → Int32)) (steps : (Nat → Int32)) (partedBy : Int32) (x2 : Int32) (x3 : Int32) (x5 : Int32) (x6 : Int32), k48 hand steps partedBy x2 x3 x5 x6 = some res → X G l RX7 cX7_goes 8 (x_R 4 0 0) (x_Cm G (some .boolean) false (x_is (some (.int res.1)) (WModel G a now kept isKept rows rowLong texts textLong found taken anew res.2.1 res.2.2.1 shares choices values latest askedIs above below place res.2.2.2)) 0 0) 0 0 48 [(0, .ref (a 0)), (2, .int x2), (3, .int x3), (5, .int x5), (6, .int x6)] [] (WModel G a now kept isKept rows rowLong texts textLong found taken anew hand steps shares choices values latest askedIs above below place partedBy)) (hand : (Nat → Int32)) (steps : (Nat → Int32)) (partedBy : Int32) (x2 : Int32) (x3 : Int32) (x6 : Int32) (x7 : Int32) (h : M_X7_goes_b98 now k48 hand steps partedBy x2 x3 x6 x7 = some res) : X G l RX7 cX7_goes 8 (x_R 4 0 0) (x_Cm G (some .boolean) false (x_is (some (.int res.1)) (WModel G a now kept isKept rows rowLong texts textLong found taken anew res.2.1 res.2.2.1 shares choices values latest askedIs above below place res.2.2.2)) 0 0) 0 0 98 [(0, .ref (a 0)), (2, .int x2), (3, .int x3), (6, .int x6), (7, .int x7)] [] (WModel G a now kept isKept rows rowLong texts textLong found taken anew hand steps shares choices values latest askedIs above below place partedBy) := by
  unfold M_X7_goes_b98 at h
  refine x_iconst 0 dX7_goes_98 (by decide) ?_
  exact w_X7_goes_b99 hk48 _ _ _ _ _ _ _ _ h
def M_X7_goes_b170 (now : (Nat → Int32)) (hand : (Nat → Int32)) (steps : (Nat → Int32)) (partedBy : Int32) (x3 : Int32) (x5 : Int32) : Option (Int32 × (Nat → Int32) × (Nat → Int32) × Int32) :=
  if x5 = 0 then
  (some ((0 : Int32), hand, steps, partedBy))
  else
  ((M_X7_taut_85 hand).bind fun r17 =>
  (M_X7_isLawful_85 hand x3 r17).bind fun r19 =>
  if r19 = 0 then
  (some ((0 : Int32), hand, steps, partedBy))
  else
  (some ((1 : Int32), hand, steps, partedBy)))
set_option maxHeartbeats 4000000 in
set_option maxRecDepth 100000 in
theorem w_X7_goes_b170 {G : x_G} {l : Launch} {a : Nat → Nat} {now : (Nat → Int32)} {kept : (Nat → Int32)} {isKept : (Nat → Int32)} {rows : (Nat → Int32)} {rowLong : (Nat → Int32)} {texts : (Nat → Int32)} {textLong : (Nat → Int32)} {found : (Nat → Int32)} {taken : (Nat → Int32)} {anew : (Nat → Int32)} {shares : (Nat → Int32)} {choices : (Nat → Int32)} {values : (Nat → Int32)} {latest : Int32} {askedIs : Int32} {above : Int64} {below : Int64} {place : Int32} {res : Int32 × (Nat → Int32) × (Nat → Int32) × Int32} (hand : (Nat → Int32)) (steps : (Nat → Int32)) (partedBy : Int32) (x3 : Int32) (x5 : Int32) (h : M_X7_goes_b170 now hand steps partedBy x3 x5 = some res) : X G l RX7 cX7_goes 8 (x_R 4 0 0) (x_Cm G (some .boolean) false (x_is (some (.int res.1)) (WModel G a now kept isKept rows rowLong texts textLong found taken anew res.2.1 res.2.2.1 shares choices values latest askedIs above below place res.2.2.2)) 0 0) 0 0 170 [(0, .ref (a 0)), (3, .int x3), (5, .int x5)] [] (WModel G a now kept isKept rows rowLong texts textLong found taken anew hand steps shares choices values latest askedIs above below place partedBy) := by
  unfold M_X7_goes_b170 at h
  refine x_iload dX7_goes_170 2 rfl ?_
  refine x_if_eq 197 dX7_goes_172 (by decide) (fun c16 => ?_) (fun c16 => ?_)
  · have h := x_pos c16 h
    refine x_iconst 0 dX7_goes_197 (by decide) ?_
    cases h
    exact x_ireturn dX7_goes_198 rfl (x_is.rf _ _)
  · have h := x_neg c16 h
    refine x_aload_n dX7_goes_175 0 rfl rfl ?_
    refine x_get (ci := 5) 16 0 dX7_goes_176 fl_X7_45 inX7 rfl (by decide) ⟨rfl, rfl, rfl⟩ rfl rfl ?_
    refine x_iload_n dX7_goes_179 1 rfl rfl ?_
    refine x_aload_n dX7_goes_180 0 rfl rfl ?_
    refine x_get (ci := 5) 16 0 dX7_goes_181 fl_X7_45 inX7 rfl (by decide) ⟨rfl, rfl, rfl⟩ rfl rfl ?_
    obtain ⟨r17, e18, h⟩ := x_bind h
    refine x_cS (As := [.ref (a 11)]) (wc := (WArr G (fun k => a (11 + k)) 85 hand)) (w1 := (WArr G (fun k => a (11 + k)) 85 hand)) (pre := ((WModel G a now kept isKept rows rowLong texts textLong found taken anew hand steps shares choices values latest askedIs above below place partedBy).take 11)) (post := ((WModel G a now kept isKept rows rowLong texts textLong found taken anew hand steps shares choices values latest askedIs above below place partedBy).drop 12)) (rest := [.int x3, .ref (a 11)]) (st1 := [.int r17, .int x3, .ref (a 11)]) (ws1 := (WModel G a now kept isKept rows rowLong texts textLong found taken anew hand steps shares choices values latest askedIs above below place partedBy)) dX7_goes_184 (c_X7_taut_85 (aq := (fun k => a (11 + k))) e18) pk_X7_taut ml_X7_167 rfl rfl rfl rfl rfl rfl rfl ?_
    obtain ⟨r19, e20, h⟩ := x_bind h
    refine x_cS (As := [.ref (a 11), .int x3, .int r17]) (wc := (WArr G (fun k => a (11 + k)) 85 hand)) (w1 := (WArr G (fun k => a (11 + k)) 85 hand)) (pre := ((WModel G a now kept isKept rows rowLong texts textLong found taken anew hand steps shares choices values latest askedIs above below place partedBy).take 11)) (post := ((WModel G a now kept isKept rows rowLong texts textLong found taken anew hand steps shares choices values latest askedIs above below place partedBy).drop 12)) (rest := []) (st1 := [.int r19]) (ws1 := (WModel G a now kept isKept rows rowLong texts textLong found taken anew hand steps shares choices values latest askedIs above below place partedBy)) dX7_goes_187 (c_X7_isLawful_85 (aq := (fun k => a (11 + k))) e20) pk_X7_isLawful ml_X7_196 rfl rfl rfl rfl rfl rfl rfl ?_
    refine x_if_eq 197 dX7_goes_190 (by decide) (fun c21 => ?_) (fun c21 => ?_)
    · have h := x_pos c21 h
      refine x_iconst 0 dX7_goes_197 (by decide) ?_
      cases h
      exact x_ireturn dX7_goes_198 rfl (x_is.rf _ _)
    · have h := x_neg c21 h
      refine x_iconst 1 dX7_goes_193 (by decide) ?_
      refine x_goto 198 dX7_goes_194 (by decide) ?_
      cases h
      exact x_ireturn dX7_goes_198 rfl (x_is.rf _ _)
def M_X7_goes_b48 (now : (Nat → Int32)) : Nat → (Nat → Int32) → (Nat → Int32) → Int32 → Int32 → Int32 → Int32 → Int32 → Option (Int32 × (Nat → Int32) × (Nat → Int32) × Int32)
  | 0, _, _, _, _, _, _, _ => none
  | n + 1, hand, steps, partedBy, x2, x3, x5, x6 =>
    if x2 ≤ x6 then
    (M_X7_goes_b170 now hand steps partedBy x3 x5)
    else
    (if x5 = 0 then
    (M_X7_goes_b170 now hand steps partedBy x3 x5)
    else
    (if inb x6 4 then
    if (now 0) ≤ ((steps x6.toNatClampNeg) - (steps x6.toNatClampNeg) / (6 : Int32) * (6 : Int32)) then
    (M_X7_goes_b98 now (fun (hand' : (Nat → Int32)) (steps' : (Nat → Int32)) (partedBy' : Int32) (x2' : Int32) (x3' : Int32) (x5' : Int32) (x6' : Int32) => M_X7_goes_b48 now n hand' steps' partedBy' x2' x3' x5' x6') hand steps partedBy x2 x3 x6 ((steps x6.toNatClampNeg) - (steps x6.toNatClampNeg) / (6 : Int32) * (6 : Int32)))
    else
    (if (M_X7_isFast_85 hand ((steps x6.toNatClampNeg) - (steps x6.toNatClampNeg) / (6 : Int32) * (6 : Int32))) = 0 then
    (M_X7_goes_b98 now (fun (hand' : (Nat → Int32)) (steps' : (Nat → Int32)) (partedBy' : Int32) (x2' : Int32) (x3' : Int32) (x5' : Int32) (x6' : Int32) => M_X7_goes_b48 now n hand' steps' partedBy' x2' x3' x5' x6') hand steps partedBy x2 x3 x6 ((steps x6.toNatClampNeg) - (steps x6.toNatClampNeg) / (6 : Int32) * (6 : Int32)))
    else
    (M_X7_goes_b99 now (fun (hand' : (Nat → Int32)) (steps' : (Nat → Int32)) (partedBy' : Int32) (x2' : Int32) (x3' : Int32) (x5' : Int32) (x6' : Int32) => M_X7_goes_b48 now n hand' steps' partedBy' x2' x3' x5' x6') hand steps partedBy x2 x3 x6 ((steps x6.toNatClampNeg) - (steps x6.toNatClampNeg) / (6 : Int32) * (6 : Int32)) (1 : Int32)))
    else none))
set_option maxHeartbeats 4000000 in
set_option maxRecDepth 100000 in
theorem w_X7_goes_b48 {G : x_G} {l : Launch} {a : Nat → Nat} {now : (Nat → Int32)} {kept : (Nat → Int32)} {isKept : (Nat → Int32)} {rows : (Nat → Int32)} {rowLong : (Nat → Int32)} {texts : (Nat → Int32)} {textLong : (Nat → Int32)} {found : (Nat → Int32)} {taken : (Nat → Int32)} {anew : (Nat → Int32)} {shares : (Nat → Int32)} {choices : (Nat → Int32)} {values : (Nat → Int32)} {latest : Int32} {askedIs : Int32} {above : Int64} {below : Int64} {place : Int32} {res : Int32 × (Nat → Int32) × (Nat → Int32) × Int32} : ∀ (n : Nat) (hand : (Nat → Int32)) (steps : (Nat → Int32)) (partedBy : Int32) (x2 : Int32) (x3 : Int32) (x5 : Int32) (x6 : Int32), M_X7_goes_b48 now n hand steps partedBy x2 x3 x5 x6 = some res → X G l RX7 cX7_goes 8 (x_R 4 0 0) (x_Cm G (some .boolean) false (x_is (some (.int res.1)) (WModel G a now kept isKept rows rowLong texts textLong found taken anew res.2.1 res.2.2.1 shares choices values latest askedIs above below place res.2.2.2)) 0 0) 0 0 48 [(0, .ref (a 0)), (2, .int x2), (3, .int x3), (5, .int x5), (6, .int x6)] [] (WModel G a now kept isKept rows rowLong texts textLong found taken anew hand steps shares choices values latest askedIs above below place partedBy) := by
  intro n
  induction n with
  | zero =>
    intro _ _ _ _ _ _ _ h
    cases h
  | succ n ih =>
    intro hand steps partedBy x2 x3 x5 x6 h
    rw [M_X7_goes_b48] at h
    refine x_iload dX7_goes_48 4 rfl ?_
    refine x_iload_n dX7_goes_50 1 rfl rfl ?_
    refine x_icmp_ge 170 dX7_goes_51 (by decide) (fun c5 => ?_) (fun c5 => ?_)
    · have h := x_pos c5 h
      refine x_lv [0, 2, 3] rfl ?_
      exact w_X7_goes_b170  _ _ _ _ _ h
    · have h := x_neg c5 h
      refine x_iload dX7_goes_54 3 rfl ?_
      refine x_if_eq 170 dX7_goes_56 (by decide) (fun c6 => ?_) (fun c6 => ?_)
      · have h := x_pos c6 h
        refine x_lv [0, 2, 3] rfl ?_
        exact w_X7_goes_b170  _ _ _ _ _ h
      · have h := x_neg c6 h
        refine x_aload_n dX7_goes_59 0 rfl rfl ?_
        refine x_get (ci := 5) 17 0 dX7_goes_60 fl_X7_48 inX7 rfl (by decide) ⟨rfl, rfl, rfl⟩ rfl rfl ?_
        refine x_iload dX7_goes_63 4 rfl ?_
        obtain ⟨b7, h⟩ := x_guard h
        refine x_iald x6.toNatClampNeg (q0 := 12) dX7_goes_65 rfl rfl b7 ?_
        refine x_bipush 6 dX7_goes_66 (by decide) ?_
        refine x_irem dX7_goes_68 (by decide) ?_
        refine x_istore [(7, .int ((steps x6.toNatClampNeg) - (steps x6.toNatClampNeg) / (6 : Int32) * (6 : Int32))), (0, .ref (a 0)), (2, .int x2), (3, .int x3), (5, .int x5), (6, .int x6)] dX7_goes_69 (by decide) rfl ?_
        refine x_iload dX7_goes_71 0 rfl ?_
        refine x_aload_n dX7_goes_73 1 rfl rfl ?_
        refine x_get (ci := 5) 0 0 dX7_goes_74 fl_X7_7 inX7 rfl (by decide) ⟨rfl, rfl, rfl⟩ rfl rfl ?_
        refine x_iconst 0 dX7_goes_77 (by decide) ?_
        refine x_iald 0 (q0 := 1) dX7_goes_78 (by decide) rfl (by decide) ?_
        refine x_icmp_ge 98 dX7_goes_79 (by decide) (fun c8 => ?_) (fun c8 => ?_)
        · have h := x_pos c8 h
          refine x_lv [1, 2, 3, 5, 0] rfl ?_
          exact w_X7_goes_b98 (fun hand' steps' partedBy' x2' x3' x5' x6' h => ih hand' steps' partedBy' x2' x3' x5' x6' h) _ _ _ _ _ _ _ h
        · have h := x_neg c8 h
          refine x_aload_n dX7_goes_82 1 rfl rfl ?_
          refine x_get (ci := 5) 16 0 dX7_goes_83 fl_X7_45 inX7 rfl (by decide) ⟨rfl, rfl, rfl⟩ rfl rfl ?_
          refine x_iload dX7_goes_86 0 rfl ?_
          refine x_cS (As := [.ref (a 11), .int ((steps x6.toNatClampNeg) - (steps x6.toNatClampNeg) / (6 : Int32) * (6 : Int32))]) (wc := (WArr G (fun k => a (11 + k)) 85 hand)) (w1 := (WArr G (fun k => a (11 + k)) 85 hand)) (pre := ((WModel G a now kept isKept rows rowLong texts textLong found taken anew hand steps shares choices values latest askedIs above below place partedBy).take 11)) (post := ((WModel G a now kept isKept rows rowLong texts textLong found taken anew hand steps shares choices values latest askedIs above below place partedBy).drop 12)) (rest := []) (st1 := [.int (M_X7_isFast_85 hand ((steps x6.toNatClampNeg) - (steps x6.toNatClampNeg) / (6 : Int32) * (6 : Int32)))]) (ws1 := (WModel G a now kept isKept rows rowLong texts textLong found taken anew hand steps shares choices values latest askedIs above below place partedBy)) dX7_goes_88 (c_X7_isFast_85 (aq := (fun k => a (11 + k))) rfl) pk_X7_isFast ml_X7_143 rfl rfl rfl rfl rfl rfl rfl ?_
          refine x_if_eq 98 dX7_goes_91 (by decide) (fun c9 => ?_) (fun c9 => ?_)
          · have h := x_pos c9 h
            refine x_lv [1, 2, 3, 5, 0] rfl ?_
            exact w_X7_goes_b98 (fun hand' steps' partedBy' x2' x3' x5' x6' h => ih hand' steps' partedBy' x2' x3' x5' x6' h) _ _ _ _ _ _ _ h
          · have h := x_neg c9 h
            refine x_iconst 1 dX7_goes_94 (by decide) ?_
            refine x_goto 99 dX7_goes_95 (by decide) ?_
            refine x_lv [1, 2, 3, 5, 0] rfl ?_
            exact w_X7_goes_b99 (fun hand' steps' partedBy' x2' x3' x5' x6' h => ih hand' steps' partedBy' x2' x3' x5' x6' h) _ _ _ _ _ _ _ _ h
def M_X7_goes_b11 (now : (Nat → Int32)) : Nat → (Nat → Int32) → (Nat → Int32) → Int32 → Int32 → Int32 → Int32 → Int32 → Int32 → Option (Int32 × (Nat → Int32) × (Nat → Int32) × Int32)
  | 0, _, _, _, _, _, _, _, _ => none
  | n + 1, hand, steps, partedBy, x2, x3, x4, x5, x6 =>
    if x6 < 0 then
    ((M_X7_layHand now hand).bind fun r2 =>
    M_X7_goes_b48 now x_fuel r2 steps partedBy x2 x3 x5 (0 : Int32))
    else
    (if inb x6 4 then
    M_X7_goes_b11 now n hand (upd steps x6.toNatClampNeg (x4 - x4 / (12 : Int32) * (12 : Int32))) partedBy x2 x3 (x4 / (12 : Int32)) x5 (x6 + (-1 : Int32))
    else none)
set_option maxHeartbeats 4000000 in
set_option maxRecDepth 100000 in
theorem w_X7_goes_b11 {G : x_G} {l : Launch} {a : Nat → Nat} {now : (Nat → Int32)} {kept : (Nat → Int32)} {isKept : (Nat → Int32)} {rows : (Nat → Int32)} {rowLong : (Nat → Int32)} {texts : (Nat → Int32)} {textLong : (Nat → Int32)} {found : (Nat → Int32)} {taken : (Nat → Int32)} {anew : (Nat → Int32)} {shares : (Nat → Int32)} {choices : (Nat → Int32)} {values : (Nat → Int32)} {latest : Int32} {askedIs : Int32} {above : Int64} {below : Int64} {place : Int32} {res : Int32 × (Nat → Int32) × (Nat → Int32) × Int32} : ∀ (n : Nat) (hand : (Nat → Int32)) (steps : (Nat → Int32)) (partedBy : Int32) (x2 : Int32) (x3 : Int32) (x4 : Int32) (x5 : Int32) (x6 : Int32), M_X7_goes_b11 now n hand steps partedBy x2 x3 x4 x5 x6 = some res → X G l RX7 cX7_goes 8 (x_R 4 0 0) (x_Cm G (some .boolean) false (x_is (some (.int res.1)) (WModel G a now kept isKept rows rowLong texts textLong found taken anew res.2.1 res.2.2.1 shares choices values latest askedIs above below place res.2.2.2)) 0 0) 0 0 11 [(0, .ref (a 0)), (2, .int x2), (3, .int x3), (4, .int x4), (5, .int x5), (6, .int x6)] [] (WModel G a now kept isKept rows rowLong texts textLong found taken anew hand steps shares choices values latest askedIs above below place partedBy) := by
  intro n
  induction n with
  | zero =>
    intro _ _ _ _ _ _ _ _ h
    cases h
  | succ n ih =>
    intro hand steps partedBy x2 x3 x4 x5 x6 h
    rw [M_X7_goes_b11] at h
    refine x_iload dX7_goes_11 5 rfl ?_
    refine x_if_lt 41 dX7_goes_13 (by decide) (fun c1 => ?_) (fun c1 => ?_)
    · have h := x_pos c1 h
      refine x_aload_n dX7_goes_41 0 rfl rfl ?_
      obtain ⟨r2, e3, h⟩ := x_bind h
      refine x_cV (As := []) (wc := (WModel G a now kept isKept rows rowLong texts textLong found taken anew hand steps shares choices values latest askedIs above below place partedBy)) (w1 := (WModel G a now kept isKept rows rowLong texts textLong found taken anew r2 steps shares choices values latest askedIs above below place partedBy)) (pre := []) (post := []) (rest := []) (st1 := []) (ws1 := (WModel G a now kept isKept rows rowLong texts textLong found taken anew r2 steps shares choices values latest askedIs above below place partedBy)) (ci := 5) 0 dX7_goes_42 (c_X7_layHand (a := a) e3) pk_X7_layHand ml_X7_193 (x_full _) rfl rfl rfl rfl rfl rfl rfl rfl (x_full _).symm ?_
      refine x_iconst 0 dX7_goes_45 (by decide) ?_
      refine x_istore [(6, .int (0 : Int32)), (0, .ref (a 0)), (2, .int x2), (3, .int x3), (4, .int x4), (5, .int x5)] dX7_goes_46 (by decide) rfl ?_
      refine x_lv [1, 2, 3, 5, 0] rfl ?_
      exact w_X7_goes_b48  _ _ _ _ _ _ _ _ h
    · have h := x_neg c1 h
      refine x_aload_n dX7_goes_16 0 rfl rfl ?_
      refine x_get (ci := 5) 17 0 dX7_goes_17 fl_X7_48 inX7 rfl (by decide) ⟨rfl, rfl, rfl⟩ rfl rfl ?_
      refine x_iload dX7_goes_20 5 rfl ?_
      refine x_iload dX7_goes_22 3 rfl ?_
      refine x_bipush 12 dX7_goes_24 (by decide) ?_
      refine x_irem dX7_goes_26 (by decide) ?_
      obtain ⟨b4, h⟩ := x_guard h
      refine x_iast x6.toNatClampNeg (q0 := 12) (WModel G a now kept isKept rows rowLong texts textLong found taken anew hand ((upd steps x6.toNatClampNeg (x4 - x4 / (12 : Int32) * (12 : Int32)))) shares choices values latest askedIs above below place partedBy) dX7_goes_27 rfl rfl b4 rfl ?_
      refine x_iload dX7_goes_28 3 rfl ?_
      refine x_bipush 12 dX7_goes_30 (by decide) ?_
      refine x_idiv dX7_goes_32 (by decide) ?_
      refine x_istore [(4, .int (x4 / (12 : Int32))), (0, .ref (a 0)), (2, .int x2), (3, .int x3), (5, .int x5), (6, .int x6)] dX7_goes_33 (by decide) rfl ?_
      refine x_iinc (j := 5) (-1 : Int32) [(6, .int (x6 + (-1 : Int32))), (4, .int (x4 / (12 : Int32))), (0, .ref (a 0)), (2, .int x2), (3, .int x3), (5, .int x5)] dX7_goes_35 (by decide) rfl (by decide) rfl ?_
      refine x_goto 11 dX7_goes_38 (by decide) ?_
      refine x_lv [2, 3, 4, 1, 5, 0] rfl ?_
      exact ih _ _ _ _ _ _ _ _ h
def M_X7_goes (now : (Nat → Int32)) (hand : (Nat → Int32)) (steps : (Nat → Int32)) (partedBy : Int32) (x1 : Int32) (x2 : Int32) (x3 : Int32) : Option (Int32 × (Nat → Int32) × (Nat → Int32) × Int32) :=
  M_X7_goes_b11 now x_fuel hand steps partedBy x2 x3 x1 (1 : Int32) (x2 - (1 : Int32))
set_option maxHeartbeats 4000000 in
set_option maxRecDepth 100000 in
theorem c_X7_goes {G : x_G} {l : Launch} {a : Nat → Nat} {now : (Nat → Int32)} {kept : (Nat → Int32)} {isKept : (Nat → Int32)} {rows : (Nat → Int32)} {rowLong : (Nat → Int32)} {texts : (Nat → Int32)} {textLong : (Nat → Int32)} {found : (Nat → Int32)} {taken : (Nat → Int32)} {anew : (Nat → Int32)} {shares : (Nat → Int32)} {choices : (Nat → Int32)} {values : (Nat → Int32)} {latest : Int32} {askedIs : Int32} {above : Int64} {below : Int64} {place : Int32} {hand : (Nat → Int32)} {steps : (Nat → Int32)} {partedBy : Int32} {x1 : Int32} {x2 : Int32} {x3 : Int32} {res : Int32 × (Nat → Int32) × (Nat → Int32) × Int32} (h : M_X7_goes now hand steps partedBy x1 x2 x3 = some res) : x_M G l yX7_goes cX7_goes 8 (some .boolean) (4) 0 0 [.ref (a 0), .int x1, .int x2, .int x3] (WModel G a now kept isKept rows rowLong texts textLong found taken anew hand steps shares choices values latest askedIs above below place partedBy) (x_is (some (.int res.1)) (WModel G a now kept isKept rows rowLong texts textLong found taken anew res.2.1 res.2.2.1 shares choices values latest askedIs above below place res.2.2.2)) := by
  unfold M_X7_goes at h
  refine x_enter (ini := false) (by decide) rfl (by decide) rfl (Nat.le_of_ble_eq_true rfl) ?_
  refine x_iload_n dX7_goes_0 1 rfl rfl ?_
  refine x_istore [(4, .int x1), (0, .ref (a 0)), (1, .int x1), (2, .int x2), (3, .int x3)] dX7_goes_1 (by decide) rfl ?_
  refine x_iconst 1 dX7_goes_3 (by decide) ?_
  refine x_istore [(5, .int (1 : Int32)), (4, .int x1), (0, .ref (a 0)), (1, .int x1), (2, .int x2), (3, .int x3)] dX7_goes_4 (by decide) rfl ?_
  refine x_iload_n dX7_goes_6 4 rfl rfl ?_
  refine x_iconst 1 dX7_goes_7 (by decide) ?_
  refine x_isub dX7_goes_8 ?_
  refine x_istore [(6, .int (x2 - (1 : Int32))), (5, .int (1 : Int32)), (4, .int x1), (0, .ref (a 0)), (1, .int x1), (2, .int x2), (3, .int x3)] dX7_goes_9 (by decide) rfl ?_
  refine x_lv [3, 5, 6, 2, 1, 0] rfl ?_
  exact w_X7_goes_b11  _ _ _ _ _ _ _ _ _ h
theorem pk_X7_least : x_pv RX7 yX7_least cX7_least 7 (some .int) 2 := ⟨⟨co_X7_least, ni_X7, by decide, by decide +kernel⟩, im_X7_least, se_X7_least⟩
def M_X7_least_b70 (now : (Nat → Int32)) : Nat → (Nat → Int32) → (Nat → Int32) → (Nat → Int32) → (Nat → Int32) → Int32 → Int32 → Int32 → Int32 → Option (Int32 × (Nat → Int32) × (Nat → Int32) × (Nat → Int32) × (Nat → Int32) × Int32)
  | 0, _, _, _, _, _, _, _, _ => none
  | n + 1, rows, rowLong, hand, steps, partedBy, x2, x4, x6 =>
    if x4 ≤ x6 then
    (some (x4, rows, rowLong, hand, steps, partedBy))
    else
    (if inb x6 4 then
    if inb (((40 : Int32) * x2) + x6) 240 then
    M_X7_least_b70 now n (upd rows (((40 : Int32) * x2) + x6).toNatClampNeg (steps x6.toNatClampNeg)) rowLong hand steps partedBy x2 x4 (x6 + (1 : Int32))
    else none
    else none)
set_option maxHeartbeats 4000000 in
set_option maxRecDepth 100000 in
theorem w_X7_least_b70 {G : x_G} {l : Launch} {a : Nat → Nat} {now : (Nat → Int32)} {kept : (Nat → Int32)} {isKept : (Nat → Int32)} {texts : (Nat → Int32)} {textLong : (Nat → Int32)} {found : (Nat → Int32)} {taken : (Nat → Int32)} {anew : (Nat → Int32)} {shares : (Nat → Int32)} {choices : (Nat → Int32)} {values : (Nat → Int32)} {latest : Int32} {askedIs : Int32} {above : Int64} {below : Int64} {place : Int32} {res : Int32 × (Nat → Int32) × (Nat → Int32) × (Nat → Int32) × (Nat → Int32) × Int32} : ∀ (n : Nat) (rows : (Nat → Int32)) (rowLong : (Nat → Int32)) (hand : (Nat → Int32)) (steps : (Nat → Int32)) (partedBy : Int32) (x2 : Int32) (x4 : Int32) (x6 : Int32), M_X7_least_b70 now n rows rowLong hand steps partedBy x2 x4 x6 = some res → X G l RX7 cX7_least 7 (x_R 5 0 0) (x_Cm G (some .int) false (x_is (some (.int res.1)) (WModel G a now kept isKept res.2.1 res.2.2.1 texts textLong found taken anew res.2.2.2.1 res.2.2.2.2.1 shares choices values latest askedIs above below place res.2.2.2.2.2)) 0 0) 0 0 70 [(0, .ref (a 0)), (2, .int x2), (4, .int x4), (6, .int x6)] [] (WModel G a now kept isKept rows rowLong texts textLong found taken anew hand steps shares choices values latest askedIs above below place partedBy) := by
  intro n
  induction n with
  | zero =>
    intro _ _ _ _ _ _ _ _ h
    cases h
  | succ n ih =>
    intro rows rowLong hand steps partedBy x2 x4 x6 h
    rw [M_X7_least_b70] at h
    refine x_iload dX7_least_70 3 rfl ?_
    refine x_iload dX7_least_72 2 rfl ?_
    refine x_icmp_ge 102 dX7_least_74 (by decide) (fun c7 => ?_) (fun c7 => ?_)
    · have h := x_pos c7 h
      refine x_iload dX7_least_102 2 rfl ?_
      cases h
      exact x_ireturn dX7_least_104 rfl (x_is.rf _ _)
    · have h := x_neg c7 h
      refine x_aload_n dX7_least_77 0 rfl rfl ?_
      refine x_get (ci := 5) 3 0 dX7_least_78 fl_X7_20 inX7 rfl (by decide) ⟨rfl, rfl, rfl⟩ rfl rfl ?_
      refine x_bipush 40 dX7_least_81 (by decide) ?_
      refine x_iload_n dX7_least_83 1 rfl rfl ?_
      refine x_imul dX7_least_84 ?_
      refine x_iload dX7_least_85 3 rfl ?_
      refine x_iadd dX7_least_87 ?_
      refine x_aload_n dX7_least_88 0 rfl rfl ?_
      refine x_get (ci := 5) 17 0 dX7_least_89 fl_X7_48 inX7 rfl (by decide) ⟨rfl, rfl, rfl⟩ rfl rfl ?_
      refine x_iload dX7_least_92 3 rfl ?_
      obtain ⟨b8, h⟩ := x_guard h
      refine x_iald x6.toNatClampNeg (q0 := 12) dX7_least_94 rfl rfl b8 ?_
      obtain ⟨b9, h⟩ := x_guard h
      refine x_iast (((40 : Int32) * x2) + x6).toNatClampNeg (q0 := 4) (WModel G a now kept isKept ((upd rows (((40 : Int32) * x2) + x6).toNatClampNeg (steps x6.toNatClampNeg))) rowLong texts textLong found taken anew hand steps shares choices values latest askedIs above below place partedBy) dX7_least_95 rfl rfl b9 rfl ?_
      refine x_iinc (j := 3) (1 : Int32) [(6, .int (x6 + (1 : Int32))), (0, .ref (a 0)), (2, .int x2), (4, .int x4)] dX7_least_96 (by decide) rfl (by decide) rfl ?_
      refine x_goto 70 dX7_least_99 (by decide) ?_
      refine x_lv [1, 2, 3, 0] rfl ?_
      exact ih _ _ _ _ _ _ _ _ h
def M_X7_least_b41 (now : (Nat → Int32)) (k32 : (Nat → Int32) → (Nat → Int32) → (Nat → Int32) → (Nat → Int32) → Int32 → Int32 → Int32 → Int32 → Int32 → Option (Int32 × (Nat → Int32) × (Nat → Int32) × (Nat → Int32) × (Nat → Int32) × Int32)) : Nat → (Nat → Int32) → (Nat → Int32) → (Nat → Int32) → (Nat → Int32) → Int32 → Int32 → Int32 → Int32 → Int32 → Int32 → Option (Int32 × (Nat → Int32) × (Nat → Int32) × (Nat → Int32) × (Nat → Int32) × Int32)
  | 0, _, _, _, _, _, _, _, _, _, _ => none
  | n + 1, rows, rowLong, hand, steps, partedBy, x1, x2, x3, x4, x5 =>
    if x3 ≤ x5 then
    (k32 rows rowLong hand steps partedBy x1 x2 (x3 * (12 : Int32)) (x4 + (1 : Int32)))
    else
    ((M_X7_goes now hand steps partedBy x5 x4 x1).bind fun r3 =>
    if r3.1 = 0 then
    (M_X7_least_b41 now k32 n rows rowLong r3.2.1 r3.2.2.1 r3.2.2.2 x1 x2 x3 x4 (x5 + (1 : Int32)))
    else
    (if inb x2 6 then
    M_X7_least_b70 now x_fuel rows (upd rowLong x2.toNatClampNeg x4) r3.2.1 r3.2.2.1 r3.2.2.2 x2 x4 (0 : Int32)
    else none))
set_option maxHeartbeats 4000000 in
set_option maxRecDepth 100000 in
theorem w_X7_least_b41 {G : x_G} {l : Launch} {a : Nat → Nat} {now : (Nat → Int32)} {kept : (Nat → Int32)} {isKept : (Nat → Int32)} {texts : (Nat → Int32)} {textLong : (Nat → Int32)} {found : (Nat → Int32)} {taken : (Nat → Int32)} {anew : (Nat → Int32)} {shares : (Nat → Int32)} {choices : (Nat → Int32)} {values : (Nat → Int32)} {latest : Int32} {askedIs : Int32} {above : Int64} {below : Int64} {place : Int32} {k32 : (Nat → Int32) → (Nat → Int32) → (Nat → Int32) → (Nat → Int32) → Int32 → Int32 → Int32 → Int32 → Int32 → Option (Int32 × (Nat → Int32) × (Nat → Int32) × (Nat → Int32) × (Nat → Int32) × Int32)} {res : Int32 × (Nat → Int32) × (Nat → Int32) × (Nat → Int32) × (Nat → Int32) × Int32} (hk32 : ∀ (rows : (Nat → Int32)) (rowLong : (Nat → Int32)) (hand : (Nat → Int32)) (steps : (Nat → Int32)) (partedBy : Int32) (x1 : Int32) (x2 : Int32) (x3 : Int32) (x4 : Int32), k32 rows rowLong hand steps partedBy x1 x2 x3 x4 = some res → X G l RX7 cX7_least 7 (x_R 5 0 0) (x_Cm G (some .int) false (x_is (some (.int res.1)) (WModel G a now kept isKept res.2.1 res.2.2.1 texts textLong found taken anew res.2.2.2.1 res.2.2.2.2.1 shares choices values latest askedIs above below place res.2.2.2.2.2)) 0 0) 0 0 32 [(0, .ref (a 0)), (1, .int x1), (2, .int x2), (3, .int x3), (4, .int x4)] [] (WModel G a now kept isKept rows rowLong texts textLong found taken anew hand steps shares choices values latest askedIs above below place partedBy)) : ∀ (n : Nat) (rows : (Nat → Int32)) (rowLong : (Nat → Int32)) (hand : (Nat → Int32)) (steps : (Nat → Int32)) (partedBy : Int32) (x1 : Int32) (x2 : Int32) (x3 : Int32) (x4 : Int32) (x5 : Int32), M_X7_least_b41 now k32 n rows rowLong hand steps partedBy x1 x2 x3 x4 x5 = some res → X G l RX7 cX7_least 7 (x_R 5 0 0) (x_Cm G (some .int) false (x_is (some (.int res.1)) (WModel G a now kept isKept res.2.1 res.2.2.1 texts textLong found taken anew res.2.2.2.1 res.2.2.2.2.1 shares choices values latest askedIs above below place res.2.2.2.2.2)) 0 0) 0 0 41 [(0, .ref (a 0)), (1, .int x1), (2, .int x2), (3, .int x3), (4, .int x4), (5, .int x5)] [] (WModel G a now kept isKept rows rowLong texts textLong found taken anew hand steps shares choices values latest askedIs above below place partedBy) := by
  intro n
  induction n with
  | zero =>
    intro _ _ _ _ _ _ _ _ _ _ h
    cases h
  | succ n ih =>
    intro rows rowLong hand steps partedBy x1 x2 x3 x4 x5 h
    rw [M_X7_least_b41] at h
    refine x_iload dX7_least_41 5 rfl ?_
    refine x_iload_n dX7_least_43 3 rfl rfl ?_
    refine x_icmp_ge 111 dX7_least_44 (by decide) (fun c2 => ?_) (fun c2 => ?_)
    · have h := x_pos c2 h
      refine x_iload_n dX7_least_111 3 rfl rfl ?_
      refine x_bipush 12 dX7_least_112 (by decide) ?_
      refine x_imul dX7_least_114 ?_
      refine x_istore_n [(3, .int (x3 * (12 : Int32))), (0, .ref (a 0)), (1, .int x1), (2, .int x2), (4, .int x4), (5, .int x5)] dX7_least_115 rfl (by decide) rfl ?_
      refine x_iinc (j := 4) (1 : Int32) [(4, .int (x4 + (1 : Int32))), (3, .int (x3 * (12 : Int32))), (0, .ref (a 0)), (1, .int x1), (2, .int x2), (5, .int x5)] dX7_least_116 (by decide) rfl (by decide) rfl ?_
      refine x_goto 32 dX7_least_119 (by decide) ?_
      refine x_lv [2, 3, 4, 1, 0] rfl ?_
      exact hk32 _ _ _ _ _ _ _ _ _ h
    · have h := x_neg c2 h
      refine x_aload_n dX7_least_47 0 rfl rfl ?_
      refine x_iload dX7_least_48 5 rfl ?_
      refine x_iload dX7_least_50 4 rfl ?_
      refine x_iload_n dX7_least_52 1 rfl rfl ?_
      obtain ⟨r3, e4, h⟩ := x_bind h
      refine x_cV (As := [.int x5, .int x4, .int x1]) (wc := (WModel G a now kept isKept rows rowLong texts textLong found taken anew hand steps shares choices values latest askedIs above below place partedBy)) (w1 := (WModel G a now kept isKept rows rowLong texts textLong found taken anew r3.2.1 r3.2.2.1 shares choices values latest askedIs above below place r3.2.2.2)) (pre := []) (post := []) (rest := []) (st1 := [.int r3.1]) (ws1 := (WModel G a now kept isKept rows rowLong texts textLong found taken anew r3.2.1 r3.2.2.1 shares choices values latest askedIs above below place r3.2.2.2)) (ci := 5) 0 dX7_least_53 (c_X7_goes (a := a) e4) pk_X7_goes ml_X7_203 (x_full _) rfl rfl rfl rfl rfl rfl rfl rfl (x_full _).symm ?_
      refine x_if_eq 105 dX7_least_56 (by decide) (fun c5 => ?_) (fun c5 => ?_)
      · have h := x_pos c5 h
        refine x_iinc (j := 5) (1 : Int32) [(5, .int (x5 + (1 : Int32))), (0, .ref (a 0)), (1, .int x1), (2, .int x2), (3, .int x3), (4, .int x4)] dX7_least_105 (by decide) rfl (by decide) rfl ?_
        refine x_goto 41 dX7_least_108 (by decide) ?_
        refine x_lv [1, 2, 3, 4, 5, 0] rfl ?_
        exact ih _ _ _ _ _ _ _ _ _ _ h
      · have h := x_neg c5 h
        refine x_aload_n dX7_least_59 0 rfl rfl ?_
        refine x_get (ci := 5) 4 0 dX7_least_60 fl_X7_23 inX7 rfl (by decide) ⟨rfl, rfl, rfl⟩ rfl rfl ?_
        refine x_iload_n dX7_least_63 2 rfl rfl ?_
        refine x_iload dX7_least_64 4 rfl ?_
        obtain ⟨b6, h⟩ := x_guard h
        refine x_iast x2.toNatClampNeg (q0 := 5) (WModel G a now kept isKept rows ((upd rowLong x2.toNatClampNeg x4)) texts textLong found taken anew r3.2.1 r3.2.2.1 shares choices values latest askedIs above below place r3.2.2.2) dX7_least_66 rfl rfl b6 rfl ?_
        refine x_iconst 0 dX7_least_67 (by decide) ?_
        refine x_istore [(6, .int (0 : Int32)), (0, .ref (a 0)), (1, .int x1), (2, .int x2), (3, .int x3), (4, .int x4), (5, .int x5)] dX7_least_68 (by decide) rfl ?_
        refine x_lv [1, 3, 5, 0] rfl ?_
        exact w_X7_least_b70  _ _ _ _ _ _ _ _ _ h
def M_X7_least_b32 (now : (Nat → Int32)) : Nat → (Nat → Int32) → (Nat → Int32) → (Nat → Int32) → (Nat → Int32) → Int32 → Int32 → Int32 → Int32 → Int32 → Option (Int32 × (Nat → Int32) × (Nat → Int32) × (Nat → Int32) × (Nat → Int32) × Int32)
  | 0, _, _, _, _, _, _, _, _, _ => none
  | n + 1, rows, rowLong, hand, steps, partedBy, x1, x2, x3, x4 =>
    if (4 : Int32) < x4 then
    (some ((-9 : Int32), rows, rowLong, hand, steps, partedBy))
    else
    (M_X7_least_b41 now (fun (rows' : (Nat → Int32)) (rowLong' : (Nat → Int32)) (hand' : (Nat → Int32)) (steps' : (Nat → Int32)) (partedBy' : Int32) (x1' : Int32) (x2' : Int32) (x3' : Int32) (x4' : Int32) => M_X7_least_b32 now n rows' rowLong' hand' steps' partedBy' x1' x2' x3' x4') x_fuel rows rowLong hand steps partedBy x1 x2 x3 x4 (0 : Int32))
set_option maxHeartbeats 4000000 in
set_option maxRecDepth 100000 in
theorem w_X7_least_b32 {G : x_G} {l : Launch} {a : Nat → Nat} {now : (Nat → Int32)} {kept : (Nat → Int32)} {isKept : (Nat → Int32)} {texts : (Nat → Int32)} {textLong : (Nat → Int32)} {found : (Nat → Int32)} {taken : (Nat → Int32)} {anew : (Nat → Int32)} {shares : (Nat → Int32)} {choices : (Nat → Int32)} {values : (Nat → Int32)} {latest : Int32} {askedIs : Int32} {above : Int64} {below : Int64} {place : Int32} {res : Int32 × (Nat → Int32) × (Nat → Int32) × (Nat → Int32) × (Nat → Int32) × Int32} : ∀ (n : Nat) (rows : (Nat → Int32)) (rowLong : (Nat → Int32)) (hand : (Nat → Int32)) (steps : (Nat → Int32)) (partedBy : Int32) (x1 : Int32) (x2 : Int32) (x3 : Int32) (x4 : Int32), M_X7_least_b32 now n rows rowLong hand steps partedBy x1 x2 x3 x4 = some res → X G l RX7 cX7_least 7 (x_R 5 0 0) (x_Cm G (some .int) false (x_is (some (.int res.1)) (WModel G a now kept isKept res.2.1 res.2.2.1 texts textLong found taken anew res.2.2.2.1 res.2.2.2.2.1 shares choices values latest askedIs above below place res.2.2.2.2.2)) 0 0) 0 0 32 [(0, .ref (a 0)), (1, .int x1), (2, .int x2), (3, .int x3), (4, .int x4)] [] (WModel G a now kept isKept rows rowLong texts textLong found taken anew hand steps shares choices values latest askedIs above below place partedBy) := by
  intro n
  induction n with
  | zero =>
    intro _ _ _ _ _ _ _ _ _ h
    cases h
  | succ n ih =>
    intro rows rowLong hand steps partedBy x1 x2 x3 x4 h
    rw [M_X7_least_b32] at h
    refine x_iload dX7_least_32 4 rfl ?_
    refine x_iconst 4 dX7_least_34 (by decide) ?_
    refine x_icmp_gt 122 dX7_least_35 (by decide) (fun c1 => ?_) (fun c1 => ?_)
    · have h := x_pos c1 h
      refine x_bipush (-9 : Int32) dX7_least_122 (by decide) ?_
      cases h
      exact x_ireturn dX7_least_124 rfl (x_is.rf _ _)
    · have h := x_neg c1 h
      refine x_iconst 0 dX7_least_38 (by decide) ?_
      refine x_istore [(5, .int (0 : Int32)), (0, .ref (a 0)), (1, .int x1), (2, .int x2), (3, .int x3), (4, .int x4)] dX7_least_39 (by decide) rfl ?_
      refine x_lv [1, 2, 3, 4, 5, 0] rfl ?_
      exact w_X7_least_b41 (fun rows' rowLong' hand' steps' partedBy' x1' x2' x3' x4' h => ih rows' rowLong' hand' steps' partedBy' x1' x2' x3' x4' h) _ _ _ _ _ _ _ _ _ _ _ h
def M_X7_least (now : (Nat → Int32)) (rows : (Nat → Int32)) (rowLong : (Nat → Int32)) (hand : (Nat → Int32)) (steps : (Nat → Int32)) (partedBy : Int32) (x1 : Int32) (x2 : Int32) : Option (Int32 × (Nat → Int32) × (Nat → Int32) × (Nat → Int32) × (Nat → Int32) × Int32) :=
  if (M_X7_in x1.toInt64 (0 : Int64) (((now 1) - (1 : Int32)).toInt64)) = 0 then
  (some ((-1 : Int32), rows, rowLong, hand, steps, partedBy))
  else
  (if (M_X7_isRow x2) = 0 then
  (some ((-1 : Int32), rows, rowLong, hand, steps, partedBy))
  else
  (M_X7_least_b32 now x_fuel rows rowLong hand steps partedBy x1 x2 (1 : Int32) (0 : Int32)))
set_option maxHeartbeats 4000000 in
set_option maxRecDepth 100000 in
theorem c_X7_least {G : x_G} {l : Launch} {a : Nat → Nat} {now : (Nat → Int32)} {kept : (Nat → Int32)} {isKept : (Nat → Int32)} {texts : (Nat → Int32)} {textLong : (Nat → Int32)} {found : (Nat → Int32)} {taken : (Nat → Int32)} {anew : (Nat → Int32)} {shares : (Nat → Int32)} {choices : (Nat → Int32)} {values : (Nat → Int32)} {latest : Int32} {askedIs : Int32} {above : Int64} {below : Int64} {place : Int32} {rows : (Nat → Int32)} {rowLong : (Nat → Int32)} {hand : (Nat → Int32)} {steps : (Nat → Int32)} {partedBy : Int32} {x1 : Int32} {x2 : Int32} {res : Int32 × (Nat → Int32) × (Nat → Int32) × (Nat → Int32) × (Nat → Int32) × Int32} (h : M_X7_least now rows rowLong hand steps partedBy x1 x2 = some res) : x_M G l yX7_least cX7_least 7 (some .int) (5) 0 0 [.ref (a 0), .int x1, .int x2] (WModel G a now kept isKept rows rowLong texts textLong found taken anew hand steps shares choices values latest askedIs above below place partedBy) (x_is (some (.int res.1)) (WModel G a now kept isKept res.2.1 res.2.2.1 texts textLong found taken anew res.2.2.2.1 res.2.2.2.2.1 shares choices values latest askedIs above below place res.2.2.2.2.2)) := by
  unfold M_X7_least at h
  refine x_enter (ini := false) (by decide) rfl (by decide) rfl (Nat.le_of_ble_eq_true rfl) ?_
  refine x_iload_n dX7_least_0 1 rfl rfl ?_
  refine x_i2l dX7_least_1 ?_
  refine x_lconst 0 dX7_least_2 (by decide) ?_
  refine x_aload_n dX7_least_3 0 rfl rfl ?_
  refine x_get (ci := 5) 0 0 dX7_least_4 fl_X7_7 inX7 rfl (by decide) ⟨rfl, rfl, rfl⟩ rfl rfl ?_
  refine x_iconst 1 dX7_least_7 (by decide) ?_
  refine x_iald 1 (q0 := 1) dX7_least_8 (by decide) rfl (by decide) ?_
  refine x_iconst 1 dX7_least_9 (by decide) ?_
  refine x_isub dX7_least_10 ?_
  refine x_i2l dX7_least_11 ?_
  refine x_cS (As := [.long x1.toInt64, .long (0 : Int64), .long (((now 1) - (1 : Int32)).toInt64)]) (wc := ([] : va_W)) (w1 := ([] : va_W)) (pre := []) (post := (WModel G a now kept isKept rows rowLong texts textLong found taken anew hand steps shares choices values latest askedIs above below place partedBy)) (rest := []) (st1 := [.int (M_X7_in x1.toInt64 (0 : Int64) (((now 1) - (1 : Int32)).toInt64))]) (ws1 := (WModel G a now kept isKept rows rowLong texts textLong found taken anew hand steps shares choices values latest askedIs above below place partedBy)) dX7_least_12 (c_X7_in rfl) pk_X7_in ml_X7_69 rfl rfl rfl rfl rfl rfl rfl ?_
  refine x_if_eq 25 dX7_least_15 (by decide) (fun c10 => ?_) (fun c10 => ?_)
  · have h := x_pos c10 h
    refine x_iconst (-1 : Int32) dX7_least_25 (by decide) ?_
    cases h
    exact x_ireturn dX7_least_26 rfl (x_is.rf _ _)
  · have h := x_neg c10 h
    refine x_iload_n dX7_least_18 2 rfl rfl ?_
    refine x_cS (As := [.int x2]) (wc := ([] : va_W)) (w1 := ([] : va_W)) (pre := []) (post := (WModel G a now kept isKept rows rowLong texts textLong found taken anew hand steps shares choices values latest askedIs above below place partedBy)) (rest := []) (st1 := [.int (M_X7_isRow x2)]) (ws1 := (WModel G a now kept isKept rows rowLong texts textLong found taken anew hand steps shares choices values latest askedIs above below place partedBy)) dX7_least_19 (c_X7_isRow rfl) pk_X7_isRow ml_X7_75 rfl rfl rfl rfl rfl rfl rfl ?_
    refine x_if_ne 27 dX7_least_22 (by decide) (fun c11 => ?_) (fun c11 => ?_)
    · have h := x_neg c11 h
      refine x_iconst 1 dX7_least_27 (by decide) ?_
      refine x_istore_n [(3, .int (1 : Int32)), (0, .ref (a 0)), (1, .int x1), (2, .int x2)] dX7_least_28 rfl (by decide) rfl ?_
      refine x_iconst 0 dX7_least_29 (by decide) ?_
      refine x_istore [(4, .int (0 : Int32)), (3, .int (1 : Int32)), (0, .ref (a 0)), (1, .int x1), (2, .int x2)] dX7_least_30 (by decide) rfl ?_
      refine x_lv [2, 3, 4, 1, 0] rfl ?_
      exact w_X7_least_b32  _ _ _ _ _ _ _ _ _ _ h
    · have h := x_pos c11 h
      refine x_iconst (-1 : Int32) dX7_least_25 (by decide) ?_
      cases h
      exact x_ireturn dX7_least_26 rfl (x_is.rf _ _)
theorem pk_X7_fall : x_pv RX7 yX7_fall cX7_fall 4 (some .int) 0 := ⟨⟨co_X7_fall, ni_X7, by decide, by decide +kernel⟩, im_X7_fall, se_X7_fall⟩
def M_X7_fall_b94 (now : (Nat → Int32)) (k17 : Int32 → Int32 → Int32 → Option (Int32 × Int32)) (askedIs : Int32) (x2 : Int32) (s0 : Int32) : Option (Int32 × Int32) :=
  k17 askedIs s0 (x2 + (1 : Int32))
set_option maxHeartbeats 4000000 in
set_option maxRecDepth 100000 in
theorem w_X7_fall_b94 {G : x_G} {l : Launch} {a : Nat → Nat} {now : (Nat → Int32)} {kept : (Nat → Int32)} {isKept : (Nat → Int32)} {rows : (Nat → Int32)} {rowLong : (Nat → Int32)} {texts : (Nat → Int32)} {textLong : (Nat → Int32)} {found : (Nat → Int32)} {taken : (Nat → Int32)} {anew : (Nat → Int32)} {hand : (Nat → Int32)} {steps : (Nat → Int32)} {shares : (Nat → Int32)} {choices : (Nat → Int32)} {values : (Nat → Int32)} {latest : Int32} {above : Int64} {below : Int64} {place : Int32} {partedBy : Int32} {k17 : Int32 → Int32 → Int32 → Option (Int32 × Int32)} {res : Int32 × Int32} (hk17 : ∀ (askedIs : Int32) (x1 : Int32) (x2 : Int32), k17 askedIs x1 x2 = some res → X G l RX7 cX7_fall 4 (x_R 2 0 0) (x_Cm G (some .int) false (x_is (some (.int res.1)) (WModel G a now kept isKept rows rowLong texts textLong found taken anew hand steps shares choices values latest res.2 above below place partedBy)) 0 0) 0 0 17 [(0, .ref (a 0)), (1, .int x1), (2, .int x2)] [] (WModel G a now kept isKept rows rowLong texts textLong found taken anew hand steps shares choices values latest askedIs above below place partedBy)) (askedIs : Int32) (x2 : Int32) (s0 : Int32) (h : M_X7_fall_b94 now k17 askedIs x2 s0 = some res) : X G l RX7 cX7_fall 4 (x_R 2 0 0) (x_Cm G (some .int) false (x_is (some (.int res.1)) (WModel G a now kept isKept rows rowLong texts textLong found taken anew hand steps shares choices values latest res.2 above below place partedBy)) 0 0) 0 0 94 [(0, .ref (a 0)), (2, .int x2)] [.int s0] (WModel G a now kept isKept rows rowLong texts textLong found taken anew hand steps shares choices values latest askedIs above below place partedBy) := by
  unfold M_X7_fall_b94 at h
  refine x_istore_n [(1, .int s0), (0, .ref (a 0)), (2, .int x2)] dX7_fall_94 rfl (by decide) rfl ?_
  refine x_iinc (j := 2) (1 : Int32) [(2, .int (x2 + (1 : Int32))), (1, .int s0), (0, .ref (a 0))] dX7_fall_95 (by decide) rfl (by decide) rfl ?_
  refine x_goto 17 dX7_fall_98 (by decide) ?_
  refine x_lv [2, 1, 0] rfl ?_
  exact hk17 _ _ _ h
def M_X7_fall_b89 (now : (Nat → Int32)) (k17 : Int32 → Int32 → Int32 → Option (Int32 × Int32)) (askedIs : Int32) (x2 : Int32) : Option (Int32 × Int32) :=
  M_X7_fall_b94 now k17 askedIs x2 x2
set_option maxHeartbeats 4000000 in
set_option maxRecDepth 100000 in
theorem w_X7_fall_b89 {G : x_G} {l : Launch} {a : Nat → Nat} {now : (Nat → Int32)} {kept : (Nat → Int32)} {isKept : (Nat → Int32)} {rows : (Nat → Int32)} {rowLong : (Nat → Int32)} {texts : (Nat → Int32)} {textLong : (Nat → Int32)} {found : (Nat → Int32)} {taken : (Nat → Int32)} {anew : (Nat → Int32)} {hand : (Nat → Int32)} {steps : (Nat → Int32)} {shares : (Nat → Int32)} {choices : (Nat → Int32)} {values : (Nat → Int32)} {latest : Int32} {above : Int64} {below : Int64} {place : Int32} {partedBy : Int32} {k17 : Int32 → Int32 → Int32 → Option (Int32 × Int32)} {res : Int32 × Int32} (hk17 : ∀ (askedIs : Int32) (x1 : Int32) (x2 : Int32), k17 askedIs x1 x2 = some res → X G l RX7 cX7_fall 4 (x_R 2 0 0) (x_Cm G (some .int) false (x_is (some (.int res.1)) (WModel G a now kept isKept rows rowLong texts textLong found taken anew hand steps shares choices values latest res.2 above below place partedBy)) 0 0) 0 0 17 [(0, .ref (a 0)), (1, .int x1), (2, .int x2)] [] (WModel G a now kept isKept rows rowLong texts textLong found taken anew hand steps shares choices values latest askedIs above below place partedBy)) (askedIs : Int32) (x2 : Int32) (h : M_X7_fall_b89 now k17 askedIs x2 = some res) : X G l RX7 cX7_fall 4 (x_R 2 0 0) (x_Cm G (some .int) false (x_is (some (.int res.1)) (WModel G a now kept isKept rows rowLong texts textLong found taken anew hand steps shares choices values latest res.2 above below place partedBy)) 0 0) 0 0 89 [(0, .ref (a 0)), (2, .int x2)] [] (WModel G a now kept isKept rows rowLong texts textLong found taken anew hand steps shares choices values latest askedIs above below place partedBy) := by
  unfold M_X7_fall_b89 at h
  refine x_iload_n dX7_fall_89 1 rfl rfl ?_
  refine x_goto 94 dX7_fall_90 (by decide) ?_
  exact w_X7_fall_b94 hk17 _ _ _ h
def M_X7_fall_b93 (now : (Nat → Int32)) (k17 : Int32 → Int32 → Int32 → Option (Int32 × Int32)) (askedIs : Int32) (x1 : Int32) (x2 : Int32) : Option (Int32 × Int32) :=
  M_X7_fall_b94 now k17 askedIs x2 x1
set_option maxHeartbeats 4000000 in
set_option maxRecDepth 100000 in
theorem w_X7_fall_b93 {G : x_G} {l : Launch} {a : Nat → Nat} {now : (Nat → Int32)} {kept : (Nat → Int32)} {isKept : (Nat → Int32)} {rows : (Nat → Int32)} {rowLong : (Nat → Int32)} {texts : (Nat → Int32)} {textLong : (Nat → Int32)} {found : (Nat → Int32)} {taken : (Nat → Int32)} {anew : (Nat → Int32)} {hand : (Nat → Int32)} {steps : (Nat → Int32)} {shares : (Nat → Int32)} {choices : (Nat → Int32)} {values : (Nat → Int32)} {latest : Int32} {above : Int64} {below : Int64} {place : Int32} {partedBy : Int32} {k17 : Int32 → Int32 → Int32 → Option (Int32 × Int32)} {res : Int32 × Int32} (hk17 : ∀ (askedIs : Int32) (x1 : Int32) (x2 : Int32), k17 askedIs x1 x2 = some res → X G l RX7 cX7_fall 4 (x_R 2 0 0) (x_Cm G (some .int) false (x_is (some (.int res.1)) (WModel G a now kept isKept rows rowLong texts textLong found taken anew hand steps shares choices values latest res.2 above below place partedBy)) 0 0) 0 0 17 [(0, .ref (a 0)), (1, .int x1), (2, .int x2)] [] (WModel G a now kept isKept rows rowLong texts textLong found taken anew hand steps shares choices values latest askedIs above below place partedBy)) (askedIs : Int32) (x1 : Int32) (x2 : Int32) (h : M_X7_fall_b93 now k17 askedIs x1 x2 = some res) : X G l RX7 cX7_fall 4 (x_R 2 0 0) (x_Cm G (some .int) false (x_is (some (.int res.1)) (WModel G a now kept isKept rows rowLong texts textLong found taken anew hand steps shares choices values latest res.2 above below place partedBy)) 0 0) 0 0 93 [(0, .ref (a 0)), (1, .int x1), (2, .int x2)] [] (WModel G a now kept isKept rows rowLong texts textLong found taken anew hand steps shares choices values latest askedIs above below place partedBy) := by
  unfold M_X7_fall_b93 at h
  refine x_iload_n dX7_fall_93 1 rfl rfl ?_
  refine x_lv [0, 2] rfl ?_
  exact w_X7_fall_b94 hk17 _ _ _ h
def M_X7_fall_b67 (now : (Nat → Int32)) (k17 : Int32 → Int32 → Int32 → Option (Int32 × Int32)) (askedIs : Int32) (x1 : Int32) (x2 : Int32) (s0 : Int32) : Option (Int32 × Int32) :=
  if s0 = 0 then
  (M_X7_fall_b93 now k17 askedIs x1 x2)
  else
  (if x1 = (-9 : Int32) then
  (M_X7_fall_b89 now k17 askedIs x2)
  else
  ((M_X7_bits x2).bind fun r11 =>
  (M_X7_bits x1).bind fun r13 =>
  if r13 ≤ r11 then
  (M_X7_fall_b93 now k17 askedIs x1 x2)
  else
  (M_X7_fall_b89 now k17 askedIs x2)))
set_option maxHeartbeats 4000000 in
set_option maxRecDepth 100000 in
theorem w_X7_fall_b67 {G : x_G} {l : Launch} {a : Nat → Nat} {now : (Nat → Int32)} {kept : (Nat → Int32)} {isKept : (Nat → Int32)} {rows : (Nat → Int32)} {rowLong : (Nat → Int32)} {texts : (Nat → Int32)} {textLong : (Nat → Int32)} {found : (Nat → Int32)} {taken : (Nat → Int32)} {anew : (Nat → Int32)} {hand : (Nat → Int32)} {steps : (Nat → Int32)} {shares : (Nat → Int32)} {choices : (Nat → Int32)} {values : (Nat → Int32)} {latest : Int32} {above : Int64} {below : Int64} {place : Int32} {partedBy : Int32} {k17 : Int32 → Int32 → Int32 → Option (Int32 × Int32)} {res : Int32 × Int32} (hk17 : ∀ (askedIs : Int32) (x1 : Int32) (x2 : Int32), k17 askedIs x1 x2 = some res → X G l RX7 cX7_fall 4 (x_R 2 0 0) (x_Cm G (some .int) false (x_is (some (.int res.1)) (WModel G a now kept isKept rows rowLong texts textLong found taken anew hand steps shares choices values latest res.2 above below place partedBy)) 0 0) 0 0 17 [(0, .ref (a 0)), (1, .int x1), (2, .int x2)] [] (WModel G a now kept isKept rows rowLong texts textLong found taken anew hand steps shares choices values latest askedIs above below place partedBy)) (askedIs : Int32) (x1 : Int32) (x2 : Int32) (s0 : Int32) (h : M_X7_fall_b67 now k17 askedIs x1 x2 s0 = some res) : X G l RX7 cX7_fall 4 (x_R 2 0 0) (x_Cm G (some .int) false (x_is (some (.int res.1)) (WModel G a now kept isKept rows rowLong texts textLong found taken anew hand steps shares choices values latest res.2 above below place partedBy)) 0 0) 0 0 67 [(0, .ref (a 0)), (1, .int x1), (2, .int x2)] [.int s0] (WModel G a now kept isKept rows rowLong texts textLong found taken anew hand steps shares choices values latest askedIs above below place partedBy) := by
  unfold M_X7_fall_b67 at h
  refine x_istore_n [(3, .int s0), (0, .ref (a 0)), (1, .int x1), (2, .int x2)] dX7_fall_67 rfl (by decide) rfl ?_
  refine x_iload_n dX7_fall_68 0 rfl rfl ?_
  refine x_if_eq 93 dX7_fall_69 (by decide) (fun c9 => ?_) (fun c9 => ?_)
  · have h := x_pos c9 h
    refine x_lv [1, 2, 3] rfl ?_
    exact w_X7_fall_b93 hk17 _ _ _ h
  · have h := x_neg c9 h
    refine x_iload_n dX7_fall_72 2 rfl rfl ?_
    refine x_bipush (-9 : Int32) dX7_fall_73 (by decide) ?_
    refine x_icmp_eq 89 dX7_fall_75 (by decide) (fun c10 => ?_) (fun c10 => ?_)
    · have h := x_pos c10 h
      refine x_lv [1, 3] rfl ?_
      exact w_X7_fall_b89 hk17 _ _ h
    · have h := x_neg c10 h
      refine x_iload_n dX7_fall_78 3 rfl rfl ?_
      obtain ⟨r11, e12, h⟩ := x_bind h
      refine x_cS (As := [.int x2]) (wc := ([] : va_W)) (w1 := ([] : va_W)) (pre := []) (post := (WModel G a now kept isKept rows rowLong texts textLong found taken anew hand steps shares choices values latest askedIs above below place partedBy)) (rest := []) (st1 := [.int r11]) (ws1 := (WModel G a now kept isKept rows rowLong texts textLong found taken anew hand steps shares choices values latest askedIs above below place partedBy)) dX7_fall_79 (c_X7_bits e12) pk_X7_bits ml_X7_171 rfl rfl rfl rfl rfl rfl rfl ?_
      refine x_iload_n dX7_fall_82 2 rfl rfl ?_
      obtain ⟨r13, e14, h⟩ := x_bind h
      refine x_cS (As := [.int x1]) (wc := ([] : va_W)) (w1 := ([] : va_W)) (pre := []) (post := (WModel G a now kept isKept rows rowLong texts textLong found taken anew hand steps shares choices values latest askedIs above below place partedBy)) (rest := [.int r11]) (st1 := [.int r13, .int r11]) (ws1 := (WModel G a now kept isKept rows rowLong texts textLong found taken anew hand steps shares choices values latest askedIs above below place partedBy)) dX7_fall_83 (c_X7_bits e14) pk_X7_bits ml_X7_171 rfl rfl rfl rfl rfl rfl rfl ?_
      refine x_icmp_ge 93 dX7_fall_86 (by decide) (fun c15 => ?_) (fun c15 => ?_)
      · have h := x_pos c15 h
        refine x_lv [1, 2, 3] rfl ?_
        exact w_X7_fall_b93 hk17 _ _ _ h
      · have h := x_neg c15 h
        refine x_lv [1, 3] rfl ?_
        exact w_X7_fall_b89 hk17 _ _ h
def M_X7_fall_b66 (now : (Nat → Int32)) (k17 : Int32 → Int32 → Int32 → Option (Int32 × Int32)) (askedIs : Int32) (x1 : Int32) (x2 : Int32) : Option (Int32 × Int32) :=
  M_X7_fall_b67 now k17 askedIs x1 x2 (0 : Int32)
set_option maxHeartbeats 4000000 in
set_option maxRecDepth 100000 in
theorem w_X7_fall_b66 {G : x_G} {l : Launch} {a : Nat → Nat} {now : (Nat → Int32)} {kept : (Nat → Int32)} {isKept : (Nat → Int32)} {rows : (Nat → Int32)} {rowLong : (Nat → Int32)} {texts : (Nat → Int32)} {textLong : (Nat → Int32)} {found : (Nat → Int32)} {taken : (Nat → Int32)} {anew : (Nat → Int32)} {hand : (Nat → Int32)} {steps : (Nat → Int32)} {shares : (Nat → Int32)} {choices : (Nat → Int32)} {values : (Nat → Int32)} {latest : Int32} {above : Int64} {below : Int64} {place : Int32} {partedBy : Int32} {k17 : Int32 → Int32 → Int32 → Option (Int32 × Int32)} {res : Int32 × Int32} (hk17 : ∀ (askedIs : Int32) (x1 : Int32) (x2 : Int32), k17 askedIs x1 x2 = some res → X G l RX7 cX7_fall 4 (x_R 2 0 0) (x_Cm G (some .int) false (x_is (some (.int res.1)) (WModel G a now kept isKept rows rowLong texts textLong found taken anew hand steps shares choices values latest res.2 above below place partedBy)) 0 0) 0 0 17 [(0, .ref (a 0)), (1, .int x1), (2, .int x2)] [] (WModel G a now kept isKept rows rowLong texts textLong found taken anew hand steps shares choices values latest askedIs above below place partedBy)) (askedIs : Int32) (x1 : Int32) (x2 : Int32) (h : M_X7_fall_b66 now k17 askedIs x1 x2 = some res) : X G l RX7 cX7_fall 4 (x_R 2 0 0) (x_Cm G (some .int) false (x_is (some (.int res.1)) (WModel G a now kept isKept rows rowLong texts textLong found taken anew hand steps shares choices values latest res.2 above below place partedBy)) 0 0) 0 0 66 [(0, .ref (a 0)), (1, .int x1), (2, .int x2)] [] (WModel G a now kept isKept rows rowLong texts textLong found taken anew hand steps shares choices values latest askedIs above below place partedBy) := by
  unfold M_X7_fall_b66 at h
  refine x_iconst 0 dX7_fall_66 (by decide) ?_
  exact w_X7_fall_b67 hk17 _ _ _ _ h
def M_X7_fall_b116 (now : (Nat → Int32)) (askedIs : Int32) (x1 : Int32) (s0 : Int32) : Option (Int32 × Int32) :=
  if x1 = (-9 : Int32) then
  (some ((-9 : Int32), askedIs))
  else
  ((M_X7_bits x1).bind fun r17 =>
  some (r17, askedIs))
set_option maxHeartbeats 4000000 in
set_option maxRecDepth 100000 in
theorem w_X7_fall_b116 {G : x_G} {l : Launch} {a : Nat → Nat} {now : (Nat → Int32)} {kept : (Nat → Int32)} {isKept : (Nat → Int32)} {rows : (Nat → Int32)} {rowLong : (Nat → Int32)} {texts : (Nat → Int32)} {textLong : (Nat → Int32)} {found : (Nat → Int32)} {taken : (Nat → Int32)} {anew : (Nat → Int32)} {hand : (Nat → Int32)} {steps : (Nat → Int32)} {shares : (Nat → Int32)} {choices : (Nat → Int32)} {values : (Nat → Int32)} {latest : Int32} {above : Int64} {below : Int64} {place : Int32} {partedBy : Int32} {res : Int32 × Int32} (askedIs : Int32) (x1 : Int32) (s0 : Int32) (h : M_X7_fall_b116 now askedIs x1 s0 = some res) : X G l RX7 cX7_fall 4 (x_R 2 0 0) (x_Cm G (some .int) false (x_is (some (.int res.1)) (WModel G a now kept isKept rows rowLong texts textLong found taken anew hand steps shares choices values latest res.2 above below place partedBy)) 0 0) 0 0 116 [(1, .int x1)] [.int s0] (WModel G a now kept isKept rows rowLong texts textLong found taken anew hand steps shares choices values latest askedIs above below place partedBy) := by
  unfold M_X7_fall_b116 at h
  refine x_istore_n [(2, .int s0), (1, .int x1)] dX7_fall_116 rfl (by decide) rfl ?_
  refine x_iload_n dX7_fall_117 1 rfl rfl ?_
  refine x_bipush (-9 : Int32) dX7_fall_118 (by decide) ?_
  refine x_icmp_ne 128 dX7_fall_120 (by decide) (fun c16 => ?_) (fun c16 => ?_)
  · have h := x_neg c16 h
    refine x_iload_n dX7_fall_128 1 rfl rfl ?_
    obtain ⟨r17, e18, h⟩ := x_bind h
    refine x_cS (As := [.int x1]) (wc := ([] : va_W)) (w1 := ([] : va_W)) (pre := []) (post := (WModel G a now kept isKept rows rowLong texts textLong found taken anew hand steps shares choices values latest askedIs above below place partedBy)) (rest := []) (st1 := [.int r17]) (ws1 := (WModel G a now kept isKept rows rowLong texts textLong found taken anew hand steps shares choices values latest askedIs above below place partedBy)) dX7_fall_129 (c_X7_bits e18) pk_X7_bits ml_X7_171 rfl rfl rfl rfl rfl rfl rfl ?_
    cases h
    exact x_ireturn dX7_fall_132 rfl (x_is.rf _ _)
  · have h := x_pos c16 h
    refine x_bipush (-9 : Int32) dX7_fall_123 (by decide) ?_
    refine x_goto 132 dX7_fall_125 (by decide) ?_
    cases h
    exact x_ireturn dX7_fall_132 rfl (x_is.rf _ _)
def M_X7_fall_b17 (now : (Nat → Int32)) : Nat → Int32 → Int32 → Int32 → Option (Int32 × Int32)
  | 0, _, _, _ => none
  | n + 1, askedIs, x1, x2 =>
    if ((1 : Int32) <<< ((now 0) &&& (31 : Int32))) ≤ x2 then
    (if x1 = (-9 : Int32) then
    (M_X7_fall_b116 now askedIs x1 (0 : Int32))
    else
    (M_X7_fall_b116 now ((M_X7_asks askedIs x1).2) x1 ((M_X7_asks askedIs x1).1)))
    else
    (if (x2 &&& (now 83)) = 0 then
    ((M_X7_taut_85 now).bind fun r4 =>
    (M_X7_lawfulBy_85 now (r4 &&& (x2 ^^^ (-1 : Int32)))).bind fun r6 =>
    if r6 = 0 then
    (M_X7_fall_b67 now (fun (askedIs' : Int32) (x1' : Int32) (x2' : Int32) => M_X7_fall_b17 now n askedIs' x1' x2') askedIs x1 x2 (1 : Int32))
    else
    (M_X7_fall_b66 now (fun (askedIs' : Int32) (x1' : Int32) (x2' : Int32) => M_X7_fall_b17 now n askedIs' x1' x2') askedIs x1 x2))
    else
    (M_X7_fall_b66 now (fun (askedIs' : Int32) (x1' : Int32) (x2' : Int32) => M_X7_fall_b17 now n askedIs' x1' x2') askedIs x1 x2))
set_option maxHeartbeats 4000000 in
set_option maxRecDepth 100000 in
theorem w_X7_fall_b17 {G : x_G} {l : Launch} {a : Nat → Nat} {now : (Nat → Int32)} {kept : (Nat → Int32)} {isKept : (Nat → Int32)} {rows : (Nat → Int32)} {rowLong : (Nat → Int32)} {texts : (Nat → Int32)} {textLong : (Nat → Int32)} {found : (Nat → Int32)} {taken : (Nat → Int32)} {anew : (Nat → Int32)} {hand : (Nat → Int32)} {steps : (Nat → Int32)} {shares : (Nat → Int32)} {choices : (Nat → Int32)} {values : (Nat → Int32)} {latest : Int32} {above : Int64} {below : Int64} {place : Int32} {partedBy : Int32} {res : Int32 × Int32} : ∀ (n : Nat) (askedIs : Int32) (x1 : Int32) (x2 : Int32), M_X7_fall_b17 now n askedIs x1 x2 = some res → X G l RX7 cX7_fall 4 (x_R 2 0 0) (x_Cm G (some .int) false (x_is (some (.int res.1)) (WModel G a now kept isKept rows rowLong texts textLong found taken anew hand steps shares choices values latest res.2 above below place partedBy)) 0 0) 0 0 17 [(0, .ref (a 0)), (1, .int x1), (2, .int x2)] [] (WModel G a now kept isKept rows rowLong texts textLong found taken anew hand steps shares choices values latest askedIs above below place partedBy) := by
  intro n
  induction n with
  | zero =>
    intro _ _ _ h
    cases h
  | succ n ih =>
    intro askedIs x1 x2 h
    rw [M_X7_fall_b17] at h
    refine x_iload_n dX7_fall_17 2 rfl rfl ?_
    refine x_iconst 1 dX7_fall_18 (by decide) ?_
    refine x_aload_n dX7_fall_19 0 rfl rfl ?_
    refine x_get (ci := 5) 0 0 dX7_fall_20 fl_X7_7 inX7 rfl (by decide) ⟨rfl, rfl, rfl⟩ rfl rfl ?_
    refine x_iconst 0 dX7_fall_23 (by decide) ?_
    refine x_iald 0 (q0 := 1) dX7_fall_24 (by decide) rfl (by decide) ?_
    refine x_ishl dX7_fall_25 ?_
    refine x_icmp_ge 101 dX7_fall_26 (by decide) (fun c1 => ?_) (fun c1 => ?_)
    · have h := x_pos c1 h
      refine x_iload_n dX7_fall_101 1 rfl rfl ?_
      refine x_bipush (-9 : Int32) dX7_fall_102 (by decide) ?_
      refine x_icmp_ne 111 dX7_fall_104 (by decide) (fun c2 => ?_) (fun c2 => ?_)
      · have h := x_neg c2 h
        refine x_aload_n dX7_fall_111 0 rfl rfl ?_
        refine x_iload_n dX7_fall_112 1 rfl rfl ?_
        refine x_cV (As := [.int x1]) (wc := (WModel G a now kept isKept rows rowLong texts textLong found taken anew hand steps shares choices values latest askedIs above below place partedBy)) (w1 := (WModel G a now kept isKept rows rowLong texts textLong found taken anew hand steps shares choices values latest ((M_X7_asks askedIs x1).2) above below place partedBy)) (pre := []) (post := []) (rest := []) (st1 := [.int ((M_X7_asks askedIs x1).1)]) (ws1 := (WModel G a now kept isKept rows rowLong texts textLong found taken anew hand steps shares choices values latest ((M_X7_asks askedIs x1).2) above below place partedBy)) (ci := 5) 0 dX7_fall_113 (c_X7_asks (a := a) rfl) pk_X7_asks ml_X7_87 (x_full _) rfl rfl rfl rfl rfl rfl rfl rfl (x_full _).symm ?_
        refine x_lv [1] rfl ?_
        exact w_X7_fall_b116  _ _ _ h
      · have h := x_pos c2 h
        refine x_iconst 0 dX7_fall_107 (by decide) ?_
        refine x_goto 116 dX7_fall_108 (by decide) ?_
        refine x_lv [1] rfl ?_
        exact w_X7_fall_b116  _ _ _ h
    · have h := x_neg c1 h
      refine x_iload_n dX7_fall_29 2 rfl rfl ?_
      refine x_aload_n dX7_fall_30 0 rfl rfl ?_
      refine x_get (ci := 5) 0 0 dX7_fall_31 fl_X7_7 inX7 rfl (by decide) ⟨rfl, rfl, rfl⟩ rfl rfl ?_
      refine x_bipush 83 dX7_fall_34 (by decide) ?_
      refine x_iald 83 (q0 := 1) dX7_fall_36 (by decide) rfl (by decide) ?_
      refine x_iand dX7_fall_37 ?_
      refine x_if_ne 66 dX7_fall_38 (by decide) (fun c3 => ?_) (fun c3 => ?_)
      · have h := x_neg c3 h
        exact w_X7_fall_b66 (fun askedIs' x1' x2' h => ih askedIs' x1' x2' h) _ _ _ h
      · have h := x_pos c3 h
        refine x_aload_n dX7_fall_41 0 rfl rfl ?_
        refine x_get (ci := 5) 0 0 dX7_fall_42 fl_X7_7 inX7 rfl (by decide) ⟨rfl, rfl, rfl⟩ rfl rfl ?_
        refine x_aload_n dX7_fall_45 0 rfl rfl ?_
        refine x_get (ci := 5) 0 0 dX7_fall_46 fl_X7_7 inX7 rfl (by decide) ⟨rfl, rfl, rfl⟩ rfl rfl ?_
        obtain ⟨r4, e5, h⟩ := x_bind h
        refine x_cS (As := [.ref (a 1)]) (wc := (WArr G (fun k => a (1 + k)) 85 now)) (w1 := (WArr G (fun k => a (1 + k)) 85 now)) (pre := ((WModel G a now kept isKept rows rowLong texts textLong found taken anew hand steps shares choices values latest askedIs above below place partedBy).take 1)) (post := ((WModel G a now kept isKept rows rowLong texts textLong found taken anew hand steps shares choices values latest askedIs above below place partedBy).drop 2)) (rest := [.ref (a 1)]) (st1 := [.int r4, .ref (a 1)]) (ws1 := (WModel G a now kept isKept rows rowLong texts textLong found taken anew hand steps shares choices values latest askedIs above below place partedBy)) dX7_fall_49 (c_X7_taut_85 (aq := (fun k => a (1 + k))) e5) pk_X7_taut ml_X7_167 rfl rfl rfl rfl rfl rfl rfl ?_
        refine x_iload_n dX7_fall_52 2 rfl rfl ?_
        refine x_iconst (-1 : Int32) dX7_fall_53 (by decide) ?_
        refine x_ixor dX7_fall_54 ?_
        refine x_iand dX7_fall_55 ?_
        obtain ⟨r6, e7, h⟩ := x_bind h
        refine x_cS (As := [.ref (a 1), .int (r4 &&& (x2 ^^^ (-1 : Int32)))]) (wc := (WArr G (fun k => a (1 + k)) 85 now)) (w1 := (WArr G (fun k => a (1 + k)) 85 now)) (pre := ((WModel G a now kept isKept rows rowLong texts textLong found taken anew hand steps shares choices values latest askedIs above below place partedBy).take 1)) (post := ((WModel G a now kept isKept rows rowLong texts textLong found taken anew hand steps shares choices values latest askedIs above below place partedBy).drop 2)) (rest := []) (st1 := [.int r6]) (ws1 := (WModel G a now kept isKept rows rowLong texts textLong found taken anew hand steps shares choices values latest askedIs above below place partedBy)) dX7_fall_56 (c_X7_lawfulBy_85 (aq := (fun k => a (1 + k))) e7) pk_X7_lawfulBy ml_X7_200 rfl rfl rfl rfl rfl rfl rfl ?_
        refine x_if_ne 66 dX7_fall_59 (by decide) (fun c8 => ?_) (fun c8 => ?_)
        · have h := x_neg c8 h
          exact w_X7_fall_b66 (fun askedIs' x1' x2' h => ih askedIs' x1' x2' h) _ _ _ h
        · have h := x_pos c8 h
          refine x_iconst 1 dX7_fall_62 (by decide) ?_
          refine x_goto 67 dX7_fall_63 (by decide) ?_
          exact w_X7_fall_b67 (fun askedIs' x1' x2' h => ih askedIs' x1' x2' h) _ _ _ _ h
def M_X7_fall (now : (Nat → Int32)) (askedIs : Int32) : Option (Int32 × Int32) :=
  if (now 0) = 0 then
  (some ((-4 : Int32), askedIs))
  else
  (M_X7_fall_b17 now x_fuel askedIs (-9 : Int32) (0 : Int32))
set_option maxHeartbeats 4000000 in
set_option maxRecDepth 100000 in
theorem c_X7_fall {G : x_G} {l : Launch} {a : Nat → Nat} {now : (Nat → Int32)} {kept : (Nat → Int32)} {isKept : (Nat → Int32)} {rows : (Nat → Int32)} {rowLong : (Nat → Int32)} {texts : (Nat → Int32)} {textLong : (Nat → Int32)} {found : (Nat → Int32)} {taken : (Nat → Int32)} {anew : (Nat → Int32)} {hand : (Nat → Int32)} {steps : (Nat → Int32)} {shares : (Nat → Int32)} {choices : (Nat → Int32)} {values : (Nat → Int32)} {latest : Int32} {above : Int64} {below : Int64} {place : Int32} {partedBy : Int32} {askedIs : Int32} {res : Int32 × Int32} (h : M_X7_fall now askedIs = some res) : x_M G l yX7_fall cX7_fall 4 (some .int) (2) 0 0 [.ref (a 0)] (WModel G a now kept isKept rows rowLong texts textLong found taken anew hand steps shares choices values latest askedIs above below place partedBy) (x_is (some (.int res.1)) (WModel G a now kept isKept rows rowLong texts textLong found taken anew hand steps shares choices values latest res.2 above below place partedBy)) := by
  unfold M_X7_fall at h
  refine x_enter (ini := false) (by decide) rfl (by decide) rfl (Nat.le_of_ble_eq_true rfl) ?_
  refine x_aload_n dX7_fall_0 0 rfl rfl ?_
  refine x_get (ci := 5) 0 0 dX7_fall_1 fl_X7_7 inX7 rfl (by decide) ⟨rfl, rfl, rfl⟩ rfl rfl ?_
  refine x_iconst 0 dX7_fall_4 (by decide) ?_
  refine x_iald 0 (q0 := 1) dX7_fall_5 (by decide) rfl (by decide) ?_
  refine x_if_ne 12 dX7_fall_6 (by decide) (fun c19 => ?_) (fun c19 => ?_)
  · have h := x_neg c19 h
    refine x_bipush (-9 : Int32) dX7_fall_12 (by decide) ?_
    refine x_istore_n [(1, .int (-9 : Int32)), (0, .ref (a 0))] dX7_fall_14 rfl (by decide) rfl ?_
    refine x_iconst 0 dX7_fall_15 (by decide) ?_
    refine x_istore_n [(2, .int (0 : Int32)), (1, .int (-9 : Int32)), (0, .ref (a 0))] dX7_fall_16 rfl (by decide) rfl ?_
    refine x_lv [2, 1, 0] rfl ?_
    exact w_X7_fall_b17  _ _ _ _ h
  · have h := x_pos c19 h
    refine x_bipush (-4 : Int32) dX7_fall_9 (by decide) ?_
    cases h
    exact x_ireturn dX7_fall_11 rfl (x_is.rf _ _)
theorem pk_X7_idle : x_pv RX7 yX7_idle cX7_idle 4 (some .int) 0 := ⟨⟨co_X7_idle, ni_X7, by decide, by decide +kernel⟩, im_X7_idle, se_X7_idle⟩
def M_X7_idle_b87 (now : (Nat → Int32)) (k31 : Int32 → Int32 → Int32 → Option (Int32)) (x2 : Int32) (x3 : Int32) (s0 : Int32) (s1 : Int32) : Option (Int32) :=
  k31 (s0 ||| s1) x2 (x3 + (1 : Int32))
set_option maxHeartbeats 4000000 in
set_option maxRecDepth 100000 in
theorem w_X7_idle_b87 {G : x_G} {l : Launch} {a : Nat → Nat} {now : (Nat → Int32)} {kept : (Nat → Int32)} {isKept : (Nat → Int32)} {rows : (Nat → Int32)} {rowLong : (Nat → Int32)} {texts : (Nat → Int32)} {textLong : (Nat → Int32)} {found : (Nat → Int32)} {taken : (Nat → Int32)} {anew : (Nat → Int32)} {hand : (Nat → Int32)} {steps : (Nat → Int32)} {shares : (Nat → Int32)} {choices : (Nat → Int32)} {values : (Nat → Int32)} {latest : Int32} {askedIs : Int32} {above : Int64} {below : Int64} {place : Int32} {partedBy : Int32} {k31 : Int32 → Int32 → Int32 → Option (Int32)} {res : Int32} (hk31 : ∀ (x1 : Int32) (x2 : Int32) (x3 : Int32), k31 x1 x2 x3 = some res → X G l RX7 cX7_idle 4 (x_R 2 0 0) (x_Cm G (some .int) false (x_is (some (.int res)) (WModel G a now kept isKept rows rowLong texts textLong found taken anew hand steps shares choices values latest askedIs above below place partedBy)) 0 0) 0 0 31 [(0, .ref (a 0)), (1, .int x1), (2, .int x2), (3, .int x3)] [] (WModel G a now kept isKept rows rowLong texts textLong found taken anew hand steps shares choices values latest askedIs above below place partedBy)) (x2 : Int32) (x3 : Int32) (s0 : Int32) (s1 : Int32) (h : M_X7_idle_b87 now k31 x2 x3 s0 s1 = some res) : X G l RX7 cX7_idle 4 (x_R 2 0 0) (x_Cm G (some .int) false (x_is (some (.int res)) (WModel G a now kept isKept rows rowLong texts textLong found taken anew hand steps shares choices values latest askedIs above below place partedBy)) 0 0) 0 0 87 [(0, .ref (a 0)), (2, .int x2), (3, .int x3)] [.int s1, .int s0] (WModel G a now kept isKept rows rowLong texts textLong found taken anew hand steps shares choices values latest askedIs above below place partedBy) := by
  unfold M_X7_idle_b87 at h
  refine x_ior dX7_idle_87 ?_
  refine x_istore_n [(1, .int (s0 ||| s1)), (0, .ref (a 0)), (2, .int x2), (3, .int x3)] dX7_idle_88 rfl (by decide) rfl ?_
  refine x_iinc (j := 3) (1 : Int32) [(3, .int (x3 + (1 : Int32))), (1, .int (s0 ||| s1)), (0, .ref (a 0)), (2, .int x2)] dX7_idle_89 (by decide) rfl (by decide) rfl ?_
  refine x_goto 31 dX7_idle_92 (by decide) ?_
  refine x_lv [2, 1, 3, 0] rfl ?_
  exact hk31 _ _ _ h
def M_X7_idle_b86 (now : (Nat → Int32)) (k31 : Int32 → Int32 → Int32 → Option (Int32)) (x2 : Int32) (x3 : Int32) (s0 : Int32) : Option (Int32) :=
  M_X7_idle_b87 now k31 x2 x3 s0 (0 : Int32)
set_option maxHeartbeats 4000000 in
set_option maxRecDepth 100000 in
theorem w_X7_idle_b86 {G : x_G} {l : Launch} {a : Nat → Nat} {now : (Nat → Int32)} {kept : (Nat → Int32)} {isKept : (Nat → Int32)} {rows : (Nat → Int32)} {rowLong : (Nat → Int32)} {texts : (Nat → Int32)} {textLong : (Nat → Int32)} {found : (Nat → Int32)} {taken : (Nat → Int32)} {anew : (Nat → Int32)} {hand : (Nat → Int32)} {steps : (Nat → Int32)} {shares : (Nat → Int32)} {choices : (Nat → Int32)} {values : (Nat → Int32)} {latest : Int32} {askedIs : Int32} {above : Int64} {below : Int64} {place : Int32} {partedBy : Int32} {k31 : Int32 → Int32 → Int32 → Option (Int32)} {res : Int32} (hk31 : ∀ (x1 : Int32) (x2 : Int32) (x3 : Int32), k31 x1 x2 x3 = some res → X G l RX7 cX7_idle 4 (x_R 2 0 0) (x_Cm G (some .int) false (x_is (some (.int res)) (WModel G a now kept isKept rows rowLong texts textLong found taken anew hand steps shares choices values latest askedIs above below place partedBy)) 0 0) 0 0 31 [(0, .ref (a 0)), (1, .int x1), (2, .int x2), (3, .int x3)] [] (WModel G a now kept isKept rows rowLong texts textLong found taken anew hand steps shares choices values latest askedIs above below place partedBy)) (x2 : Int32) (x3 : Int32) (s0 : Int32) (h : M_X7_idle_b86 now k31 x2 x3 s0 = some res) : X G l RX7 cX7_idle 4 (x_R 2 0 0) (x_Cm G (some .int) false (x_is (some (.int res)) (WModel G a now kept isKept rows rowLong texts textLong found taken anew hand steps shares choices values latest askedIs above below place partedBy)) 0 0) 0 0 86 [(0, .ref (a 0)), (2, .int x2), (3, .int x3)] [.int s0] (WModel G a now kept isKept rows rowLong texts textLong found taken anew hand steps shares choices values latest askedIs above below place partedBy) := by
  unfold M_X7_idle_b86 at h
  refine x_iconst 0 dX7_idle_86 (by decide) ?_
  exact w_X7_idle_b87 hk31 _ _ _ _ h
def M_X7_idle_b31 (now : (Nat → Int32)) : Nat → Int32 → Int32 → Int32 → Option (Int32)
  | 0, _, _, _ => none
  | n + 1, x1, x2, x3 =>
    if (now 0) ≤ x3 then
    (some (x1))
    else
    (if (M_X7_has (now 83) x3) = 0 then
    ((M_X7_taut_85 now).bind fun r3 =>
    (M_X7_lawfulBy_85 now (r3 &&& (((1 : Int32) <<< (x3 &&& (31 : Int32))) ^^^ (-1 : Int32)))).bind fun r5 =>
    if r5 = x2 then
    (M_X7_idle_b87 now (fun (x1' : Int32) (x2' : Int32) (x3' : Int32) => M_X7_idle_b31 now n x1' x2' x3') x2 x3 x1 ((1 : Int32) <<< (x3 &&& (31 : Int32))))
    else
    (M_X7_idle_b86 now (fun (x1' : Int32) (x2' : Int32) (x3' : Int32) => M_X7_idle_b31 now n x1' x2' x3') x2 x3 x1))
    else
    (M_X7_idle_b86 now (fun (x1' : Int32) (x2' : Int32) (x3' : Int32) => M_X7_idle_b31 now n x1' x2' x3') x2 x3 x1))
set_option maxHeartbeats 4000000 in
set_option maxRecDepth 100000 in
theorem w_X7_idle_b31 {G : x_G} {l : Launch} {a : Nat → Nat} {now : (Nat → Int32)} {kept : (Nat → Int32)} {isKept : (Nat → Int32)} {rows : (Nat → Int32)} {rowLong : (Nat → Int32)} {texts : (Nat → Int32)} {textLong : (Nat → Int32)} {found : (Nat → Int32)} {taken : (Nat → Int32)} {anew : (Nat → Int32)} {hand : (Nat → Int32)} {steps : (Nat → Int32)} {shares : (Nat → Int32)} {choices : (Nat → Int32)} {values : (Nat → Int32)} {latest : Int32} {askedIs : Int32} {above : Int64} {below : Int64} {place : Int32} {partedBy : Int32} {res : Int32} : ∀ (n : Nat) (x1 : Int32) (x2 : Int32) (x3 : Int32), M_X7_idle_b31 now n x1 x2 x3 = some res → X G l RX7 cX7_idle 4 (x_R 2 0 0) (x_Cm G (some .int) false (x_is (some (.int res)) (WModel G a now kept isKept rows rowLong texts textLong found taken anew hand steps shares choices values latest askedIs above below place partedBy)) 0 0) 0 0 31 [(0, .ref (a 0)), (1, .int x1), (2, .int x2), (3, .int x3)] [] (WModel G a now kept isKept rows rowLong texts textLong found taken anew hand steps shares choices values latest askedIs above below place partedBy) := by
  intro n
  induction n with
  | zero =>
    intro _ _ _ h
    cases h
  | succ n ih =>
    intro x1 x2 x3 h
    rw [M_X7_idle_b31] at h
    refine x_iload_n dX7_idle_31 3 rfl rfl ?_
    refine x_aload_n dX7_idle_32 0 rfl rfl ?_
    refine x_get (ci := 5) 0 0 dX7_idle_33 fl_X7_7 inX7 rfl (by decide) ⟨rfl, rfl, rfl⟩ rfl rfl ?_
    refine x_iconst 0 dX7_idle_36 (by decide) ?_
    refine x_iald 0 (q0 := 1) dX7_idle_37 (by decide) rfl (by decide) ?_
    refine x_icmp_ge 95 dX7_idle_38 (by decide) (fun c1 => ?_) (fun c1 => ?_)
    · have h := x_pos c1 h
      refine x_iload_n dX7_idle_95 1 rfl rfl ?_
      cases h
      exact x_ireturn dX7_idle_96 rfl (x_is.rf _ _)
    · have h := x_neg c1 h
      refine x_iload_n dX7_idle_41 1 rfl rfl ?_
      refine x_aload_n dX7_idle_42 0 rfl rfl ?_
      refine x_get (ci := 5) 0 0 dX7_idle_43 fl_X7_7 inX7 rfl (by decide) ⟨rfl, rfl, rfl⟩ rfl rfl ?_
      refine x_bipush 83 dX7_idle_46 (by decide) ?_
      refine x_iald 83 (q0 := 1) dX7_idle_48 (by decide) rfl (by decide) ?_
      refine x_iload_n dX7_idle_49 3 rfl rfl ?_
      refine x_cS (As := [.int (now 83), .int x3]) (wc := ([] : va_W)) (w1 := ([] : va_W)) (pre := []) (post := (WModel G a now kept isKept rows rowLong texts textLong found taken anew hand steps shares choices values latest askedIs above below place partedBy)) (rest := [.int x1]) (st1 := [.int (M_X7_has (now 83) x3), .int x1]) (ws1 := (WModel G a now kept isKept rows rowLong texts textLong found taken anew hand steps shares choices values latest askedIs above below place partedBy)) dX7_idle_50 (c_X7_has rfl) pk_X7_has ml_X7_130 rfl rfl rfl rfl rfl rfl rfl ?_
      refine x_if_ne 86 dX7_idle_53 (by decide) (fun c2 => ?_) (fun c2 => ?_)
      · have h := x_neg c2 h
        refine x_lv [0, 2, 3] rfl ?_
        exact w_X7_idle_b86 (fun x1' x2' x3' h => ih x1' x2' x3' h) _ _ _ h
      · have h := x_pos c2 h
        refine x_aload_n dX7_idle_56 0 rfl rfl ?_
        refine x_get (ci := 5) 0 0 dX7_idle_57 fl_X7_7 inX7 rfl (by decide) ⟨rfl, rfl, rfl⟩ rfl rfl ?_
        refine x_aload_n dX7_idle_60 0 rfl rfl ?_
        refine x_get (ci := 5) 0 0 dX7_idle_61 fl_X7_7 inX7 rfl (by decide) ⟨rfl, rfl, rfl⟩ rfl rfl ?_
        obtain ⟨r3, e4, h⟩ := x_bind h
        refine x_cS (As := [.ref (a 1)]) (wc := (WArr G (fun k => a (1 + k)) 85 now)) (w1 := (WArr G (fun k => a (1 + k)) 85 now)) (pre := ((WModel G a now kept isKept rows rowLong texts textLong found taken anew hand steps shares choices values latest askedIs above below place partedBy).take 1)) (post := ((WModel G a now kept isKept rows rowLong texts textLong found taken anew hand steps shares choices values latest askedIs above below place partedBy).drop 2)) (rest := [.ref (a 1), .int x1]) (st1 := [.int r3, .ref (a 1), .int x1]) (ws1 := (WModel G a now kept isKept rows rowLong texts textLong found taken anew hand steps shares choices values latest askedIs above below place partedBy)) dX7_idle_64 (c_X7_taut_85 (aq := (fun k => a (1 + k))) e4) pk_X7_taut ml_X7_167 rfl rfl rfl rfl rfl rfl rfl ?_
        refine x_iconst 1 dX7_idle_67 (by decide) ?_
        refine x_iload_n dX7_idle_68 3 rfl rfl ?_
        refine x_ishl dX7_idle_69 ?_
        refine x_iconst (-1 : Int32) dX7_idle_70 (by decide) ?_
        refine x_ixor dX7_idle_71 ?_
        refine x_iand dX7_idle_72 ?_
        obtain ⟨r5, e6, h⟩ := x_bind h
        refine x_cS (As := [.ref (a 1), .int (r3 &&& (((1 : Int32) <<< (x3 &&& (31 : Int32))) ^^^ (-1 : Int32)))]) (wc := (WArr G (fun k => a (1 + k)) 85 now)) (w1 := (WArr G (fun k => a (1 + k)) 85 now)) (pre := ((WModel G a now kept isKept rows rowLong texts textLong found taken anew hand steps shares choices values latest askedIs above below place partedBy).take 1)) (post := ((WModel G a now kept isKept rows rowLong texts textLong found taken anew hand steps shares choices values latest askedIs above below place partedBy).drop 2)) (rest := [.int x1]) (st1 := [.int r5, .int x1]) (ws1 := (WModel G a now kept isKept rows rowLong texts textLong found taken anew hand steps shares choices values latest askedIs above below place partedBy)) dX7_idle_73 (c_X7_lawfulBy_85 (aq := (fun k => a (1 + k))) e6) pk_X7_lawfulBy ml_X7_200 rfl rfl rfl rfl rfl rfl rfl ?_
        refine x_iload_n dX7_idle_76 2 rfl rfl ?_
        refine x_icmp_ne 86 dX7_idle_77 (by decide) (fun c7 => ?_) (fun c7 => ?_)
        · have h := x_neg c7 h
          refine x_lv [0, 2, 3] rfl ?_
          exact w_X7_idle_b86 (fun x1' x2' x3' h => ih x1' x2' x3' h) _ _ _ h
        · have h := x_pos c7 h
          refine x_iconst 1 dX7_idle_80 (by decide) ?_
          refine x_iload_n dX7_idle_81 3 rfl rfl ?_
          refine x_ishl dX7_idle_82 ?_
          refine x_goto 87 dX7_idle_83 (by decide) ?_
          refine x_lv [0, 2, 3] rfl ?_
          exact w_X7_idle_b87 (fun x1' x2' x3' h => ih x1' x2' x3' h) _ _ _ _ h
def M_X7_idle (now : (Nat → Int32)) : Option (Int32) :=
  if (now 0) = 0 then
  (some (-4 : Int32))
  else
  ((M_X7_taut_85 now).bind fun r9 =>
  (M_X7_lawfulBy_85 now r9).bind fun r11 =>
  M_X7_idle_b31 now x_fuel (0 : Int32) r11 (0 : Int32))
set_option maxHeartbeats 4000000 in
set_option maxRecDepth 100000 in
theorem c_X7_idle {G : x_G} {l : Launch} {a : Nat → Nat} {now : (Nat → Int32)} {kept : (Nat → Int32)} {isKept : (Nat → Int32)} {rows : (Nat → Int32)} {rowLong : (Nat → Int32)} {texts : (Nat → Int32)} {textLong : (Nat → Int32)} {found : (Nat → Int32)} {taken : (Nat → Int32)} {anew : (Nat → Int32)} {hand : (Nat → Int32)} {steps : (Nat → Int32)} {shares : (Nat → Int32)} {choices : (Nat → Int32)} {values : (Nat → Int32)} {latest : Int32} {askedIs : Int32} {above : Int64} {below : Int64} {place : Int32} {partedBy : Int32} {res : Int32} (h : M_X7_idle now = some res) : x_M G l yX7_idle cX7_idle 4 (some .int) (2) 0 0 [.ref (a 0)] (WModel G a now kept isKept rows rowLong texts textLong found taken anew hand steps shares choices values latest askedIs above below place partedBy) (x_is (some (.int res)) (WModel G a now kept isKept rows rowLong texts textLong found taken anew hand steps shares choices values latest askedIs above below place partedBy)) := by
  unfold M_X7_idle at h
  refine x_enter (ini := false) (by decide) rfl (by decide) rfl (Nat.le_of_ble_eq_true rfl) ?_
  refine x_aload_n dX7_idle_0 0 rfl rfl ?_
  refine x_get (ci := 5) 0 0 dX7_idle_1 fl_X7_7 inX7 rfl (by decide) ⟨rfl, rfl, rfl⟩ rfl rfl ?_
  refine x_iconst 0 dX7_idle_4 (by decide) ?_
  refine x_iald 0 (q0 := 1) dX7_idle_5 (by decide) rfl (by decide) ?_
  refine x_if_ne 12 dX7_idle_6 (by decide) (fun c8 => ?_) (fun c8 => ?_)
  · have h := x_neg c8 h
    refine x_iconst 0 dX7_idle_12 (by decide) ?_
    refine x_istore_n [(1, .int (0 : Int32)), (0, .ref (a 0))] dX7_idle_13 rfl (by decide) rfl ?_
    refine x_aload_n dX7_idle_14 1 rfl rfl ?_
    refine x_get (ci := 5) 0 0 dX7_idle_15 fl_X7_7 inX7 rfl (by decide) ⟨rfl, rfl, rfl⟩ rfl rfl ?_
    refine x_aload_n dX7_idle_18 1 rfl rfl ?_
    refine x_get (ci := 5) 0 0 dX7_idle_19 fl_X7_7 inX7 rfl (by decide) ⟨rfl, rfl, rfl⟩ rfl rfl ?_
    obtain ⟨r9, e10, h⟩ := x_bind h
    refine x_cS (As := [.ref (a 1)]) (wc := (WArr G (fun k => a (1 + k)) 85 now)) (w1 := (WArr G (fun k => a (1 + k)) 85 now)) (pre := ((WModel G a now kept isKept rows rowLong texts textLong found taken anew hand steps shares choices values latest askedIs above below place partedBy).take 1)) (post := ((WModel G a now kept isKept rows rowLong texts textLong found taken anew hand steps shares choices values latest askedIs above below place partedBy).drop 2)) (rest := [.ref (a 1)]) (st1 := [.int r9, .ref (a 1)]) (ws1 := (WModel G a now kept isKept rows rowLong texts textLong found taken anew hand steps shares choices values latest askedIs above below place partedBy)) dX7_idle_22 (c_X7_taut_85 (aq := (fun k => a (1 + k))) e10) pk_X7_taut ml_X7_167 rfl rfl rfl rfl rfl rfl rfl ?_
    obtain ⟨r11, e12, h⟩ := x_bind h
    refine x_cS (As := [.ref (a 1), .int r9]) (wc := (WArr G (fun k => a (1 + k)) 85 now)) (w1 := (WArr G (fun k => a (1 + k)) 85 now)) (pre := ((WModel G a now kept isKept rows rowLong texts textLong found taken anew hand steps shares choices values latest askedIs above below place partedBy).take 1)) (post := ((WModel G a now kept isKept rows rowLong texts textLong found taken anew hand steps shares choices values latest askedIs above below place partedBy).drop 2)) (rest := []) (st1 := [.int r11]) (ws1 := (WModel G a now kept isKept rows rowLong texts textLong found taken anew hand steps shares choices values latest askedIs above below place partedBy)) dX7_idle_25 (c_X7_lawfulBy_85 (aq := (fun k => a (1 + k))) e12) pk_X7_lawfulBy ml_X7_200 rfl rfl rfl rfl rfl rfl rfl ?_
    refine x_istore_n [(2, .int r11), (1, .int (0 : Int32)), (0, .ref (a 0))] dX7_idle_28 rfl (by decide) rfl ?_
    refine x_iconst 0 dX7_idle_29 (by decide) ?_
    refine x_istore_n [(3, .int (0 : Int32)), (2, .int r11), (1, .int (0 : Int32)), (0, .ref (a 0))] dX7_idle_30 rfl (by decide) rfl ?_
    refine x_lv [3, 2, 1, 0] rfl ?_
    exact w_X7_idle_b31  _ _ _ _ h
  · have h := x_pos c8 h
    refine x_bipush (-4 : Int32) dX7_idle_9 (by decide) ?_
    cases h
    exact x_ireturn dX7_idle_11 rfl (x_is.rf _ _)
theorem pk_X7_share : x_pv RX7 yX7_share cX7_share 9 (some .int) 2 := ⟨⟨co_X7_share, ni_X7, by decide, by decide +kernel⟩, im_X7_share, se_X7_share⟩
def M_X7_share_b168 (now : (Nat → Int32)) (k62 : (Nat → Int32) → (Nat → Int32) → (Nat → Int32) → Int32 → Int32 → Int32 → Option (Int32 × (Nat → Int32) × (Nat → Int32) × (Nat → Int32))) (k81 : (Nat → Int32) → (Nat → Int32) → (Nat → Int32) → Int32 → Int32 → Int32 → Int32 → Int32 → Option (Int32 × (Nat → Int32) × (Nat → Int32) × (Nat → Int32))) (rows : (Nat → Int32)) (rowLong : (Nat → Int32)) (shares : (Nat → Int32)) (x2 : Int32) (x3 : Int32) (x5 : Int32) (x7 : Int32) (s0 : Int32) : Option (Int32 × (Nat → Int32) × (Nat → Int32) × (Nat → Int32)) :=
  k81 rows rowLong shares x2 x3 x5 s0 (x7 + (1 : Int32))
set_option maxHeartbeats 4000000 in
set_option maxRecDepth 100000 in
theorem w_X7_share_b168 {G : x_G} {l : Launch} {a : Nat → Nat} {now : (Nat → Int32)} {kept : (Nat → Int32)} {isKept : (Nat → Int32)} {texts : (Nat → Int32)} {textLong : (Nat → Int32)} {found : (Nat → Int32)} {taken : (Nat → Int32)} {anew : (Nat → Int32)} {hand : (Nat → Int32)} {steps : (Nat → Int32)} {choices : (Nat → Int32)} {values : (Nat → Int32)} {latest : Int32} {askedIs : Int32} {above : Int64} {below : Int64} {place : Int32} {partedBy : Int32} {k62 : (Nat → Int32) → (Nat → Int32) → (Nat → Int32) → Int32 → Int32 → Int32 → Option (Int32 × (Nat → Int32) × (Nat → Int32) × (Nat → Int32))} {k81 : (Nat → Int32) → (Nat → Int32) → (Nat → Int32) → Int32 → Int32 → Int32 → Int32 → Int32 → Option (Int32 × (Nat → Int32) × (Nat → Int32) × (Nat → Int32))} {res : Int32 × (Nat → Int32) × (Nat → Int32) × (Nat → Int32)} (hk62 : ∀ (rows : (Nat → Int32)) (rowLong : (Nat → Int32)) (shares : (Nat → Int32)) (x2 : Int32) (x3 : Int32) (x4 : Int32), k62 rows rowLong shares x2 x3 x4 = some res → X G l RX7 cX7_share 9 (x_R 2 0 0) (x_Cm G (some .int) false (x_is (some (.int res.1)) (WModel G a now kept isKept res.2.1 res.2.2.1 texts textLong found taken anew hand steps res.2.2.2 choices values latest askedIs above below place partedBy)) 0 0) 0 0 62 [(0, .ref (a 0)), (2, .int x2), (3, .int x3), (4, .int x4)] [] (WModel G a now kept isKept rows rowLong texts textLong found taken anew hand steps shares choices values latest askedIs above below place partedBy)) (hk81 : ∀ (rows : (Nat → Int32)) (rowLong : (Nat → Int32)) (shares : (Nat → Int32)) (x2 : Int32) (x3 : Int32) (x5 : Int32) (x6 : Int32) (x7 : Int32), k81 rows rowLong shares x2 x3 x5 x6 x7 = some res → X G l RX7 cX7_share 9 (x_R 2 0 0) (x_Cm G (some .int) false (x_is (some (.int res.1)) (WModel G a now kept isKept res.2.1 res.2.2.1 texts textLong found taken anew hand steps res.2.2.2 choices values latest askedIs above below place partedBy)) 0 0) 0 0 81 [(0, .ref (a 0)), (2, .int x2), (3, .int x3), (5, .int x5), (6, .int x6), (7, .int x7)] [] (WModel G a now kept isKept rows rowLong texts textLong found taken anew hand steps shares choices values latest askedIs above below place partedBy)) (rows : (Nat → Int32)) (rowLong : (Nat → Int32)) (shares : (Nat → Int32)) (x2 : Int32) (x3 : Int32) (x5 : Int32) (x7 : Int32) (s0 : Int32) (h : M_X7_share_b168 now k62 k81 rows rowLong shares x2 x3 x5 x7 s0 = some res) : X G l RX7 cX7_share 9 (x_R 2 0 0) (x_Cm G (some .int) false (x_is (some (.int res.1)) (WModel G a now kept isKept res.2.1 res.2.2.1 texts textLong found taken anew hand steps res.2.2.2 choices values latest askedIs above below place partedBy)) 0 0) 0 0 168 [(0, .ref (a 0)), (2, .int x2), (3, .int x3), (5, .int x5), (7, .int x7)] [.int s0] (WModel G a now kept isKept rows rowLong texts textLong found taken anew hand steps shares choices values latest askedIs above below place partedBy) := by
  unfold M_X7_share_b168 at h
  refine x_istore [(6, .int s0), (0, .ref (a 0)), (2, .int x2), (3, .int x3), (5, .int x5), (7, .int x7)] dX7_share_168 (by decide) rfl ?_
  refine x_iinc (j := 5) (1 : Int32) [(7, .int (x7 + (1 : Int32))), (6, .int s0), (0, .ref (a 0)), (2, .int x2), (3, .int x3), (5, .int x5)] dX7_share_170 (by decide) rfl (by decide) rfl ?_
  refine x_goto 81 dX7_share_173 (by decide) ?_
  refine x_lv [2, 3, 4, 5, 1, 0] rfl ?_
  exact hk81 _ _ _ _ _ _ _ _ h
def M_X7_share_b152 (now : (Nat → Int32)) (k62 : (Nat → Int32) → (Nat → Int32) → (Nat → Int32) → Int32 → Int32 → Int32 → Option (Int32 × (Nat → Int32) × (Nat → Int32) × (Nat → Int32))) (k81 : (Nat → Int32) → (Nat → Int32) → (Nat → Int32) → Int32 → Int32 → Int32 → Int32 → Int32 → Option (Int32 × (Nat → Int32) × (Nat → Int32) × (Nat → Int32))) (rows : (Nat → Int32)) (rowLong : (Nat → Int32)) (shares : (Nat → Int32)) (x2 : Int32) (x3 : Int32) (x6 : Int32) (x7 : Int32) (x8 : Int32) (s0 : Int32) : Option (Int32 × (Nat → Int32) × (Nat → Int32) × (Nat → Int32)) :=
  if x8 ≤ x6 then
  (M_X7_share_b168 now k62 k81 rows rowLong shares x2 x3 s0 x7 x6)
  else
  (M_X7_share_b168 now k62 k81 rows rowLong shares x2 x3 s0 x7 x8)
set_option maxHeartbeats 4000000 in
set_option maxRecDepth 100000 in
theorem w_X7_share_b152 {G : x_G} {l : Launch} {a : Nat → Nat} {now : (Nat → Int32)} {kept : (Nat → Int32)} {isKept : (Nat → Int32)} {texts : (Nat → Int32)} {textLong : (Nat → Int32)} {found : (Nat → Int32)} {taken : (Nat → Int32)} {anew : (Nat → Int32)} {hand : (Nat → Int32)} {steps : (Nat → Int32)} {choices : (Nat → Int32)} {values : (Nat → Int32)} {latest : Int32} {askedIs : Int32} {above : Int64} {below : Int64} {place : Int32} {partedBy : Int32} {k62 : (Nat → Int32) → (Nat → Int32) → (Nat → Int32) → Int32 → Int32 → Int32 → Option (Int32 × (Nat → Int32) × (Nat → Int32) × (Nat → Int32))} {k81 : (Nat → Int32) → (Nat → Int32) → (Nat → Int32) → Int32 → Int32 → Int32 → Int32 → Int32 → Option (Int32 × (Nat → Int32) × (Nat → Int32) × (Nat → Int32))} {res : Int32 × (Nat → Int32) × (Nat → Int32) × (Nat → Int32)} (hk62 : ∀ (rows : (Nat → Int32)) (rowLong : (Nat → Int32)) (shares : (Nat → Int32)) (x2 : Int32) (x3 : Int32) (x4 : Int32), k62 rows rowLong shares x2 x3 x4 = some res → X G l RX7 cX7_share 9 (x_R 2 0 0) (x_Cm G (some .int) false (x_is (some (.int res.1)) (WModel G a now kept isKept res.2.1 res.2.2.1 texts textLong found taken anew hand steps res.2.2.2 choices values latest askedIs above below place partedBy)) 0 0) 0 0 62 [(0, .ref (a 0)), (2, .int x2), (3, .int x3), (4, .int x4)] [] (WModel G a now kept isKept rows rowLong texts textLong found taken anew hand steps shares choices values latest askedIs above below place partedBy)) (hk81 : ∀ (rows : (Nat → Int32)) (rowLong : (Nat → Int32)) (shares : (Nat → Int32)) (x2 : Int32) (x3 : Int32) (x5 : Int32) (x6 : Int32) (x7 : Int32), k81 rows rowLong shares x2 x3 x5 x6 x7 = some res → X G l RX7 cX7_share 9 (x_R 2 0 0) (x_Cm G (some .int) false (x_is (some (.int res.1)) (WModel G a now kept isKept res.2.1 res.2.2.1 texts textLong found taken anew hand steps res.2.2.2 choices values latest askedIs above below place partedBy)) 0 0) 0 0 81 [(0, .ref (a 0)), (2, .int x2), (3, .int x3), (5, .int x5), (6, .int x6), (7, .int x7)] [] (WModel G a now kept isKept rows rowLong texts textLong found taken anew hand steps shares choices values latest askedIs above below place partedBy)) (rows : (Nat → Int32)) (rowLong : (Nat → Int32)) (shares : (Nat → Int32)) (x2 : Int32) (x3 : Int32) (x6 : Int32) (x7 : Int32) (x8 : Int32) (s0 : Int32) (h : M_X7_share_b152 now k62 k81 rows rowLong shares x2 x3 x6 x7 x8 s0 = some res) : X G l RX7 cX7_share 9 (x_R 2 0 0) (x_Cm G (some .int) false (x_is (some (.int res.1)) (WModel G a now kept isKept res.2.1 res.2.2.1 texts textLong found taken anew hand steps res.2.2.2 choices values latest askedIs above below place partedBy)) 0 0) 0 0 152 [(0, .ref (a 0)), (2, .int x2), (3, .int x3), (6, .int x6), (7, .int x7), (8, .int x8)] [.int s0] (WModel G a now kept isKept rows rowLong texts textLong found taken anew hand steps shares choices values latest askedIs above below place partedBy) := by
  unfold M_X7_share_b152 at h
  refine x_istore [(5, .int s0), (0, .ref (a 0)), (2, .int x2), (3, .int x3), (6, .int x6), (7, .int x7), (8, .int x8)] dX7_share_152 (by decide) rfl ?_
  refine x_iload dX7_share_154 6 rfl ?_
  refine x_iload dX7_share_156 4 rfl ?_
  refine x_icmp_le 166 dX7_share_158 (by decide) (fun c13 => ?_) (fun c13 => ?_)
  · have h := x_pos c13 h
    refine x_iload dX7_share_166 4 rfl ?_
    refine x_lv [1, 2, 3, 0, 5] rfl ?_
    exact w_X7_share_b168 hk62 hk81 _ _ _ _ _ _ _ _ h
  · have h := x_neg c13 h
    refine x_iload dX7_share_161 6 rfl ?_
    refine x_goto 168 dX7_share_163 (by decide) ?_
    refine x_lv [1, 2, 3, 0, 5] rfl ?_
    exact w_X7_share_b168 hk62 hk81 _ _ _ _ _ _ _ _ h
def M_X7_share_b136 (now : (Nat → Int32)) (k62 : (Nat → Int32) → (Nat → Int32) → (Nat → Int32) → Int32 → Int32 → Int32 → Option (Int32 × (Nat → Int32) × (Nat → Int32) × (Nat → Int32))) (k81 : (Nat → Int32) → (Nat → Int32) → (Nat → Int32) → Int32 → Int32 → Int32 → Int32 → Int32 → Option (Int32 × (Nat → Int32) × (Nat → Int32) × (Nat → Int32))) (rows : (Nat → Int32)) (rowLong : (Nat → Int32)) (shares : (Nat → Int32)) (x2 : Int32) (x3 : Int32) (x5 : Int32) (x6 : Int32) (x7 : Int32) (s0 : Int32) : Option (Int32 × (Nat → Int32) × (Nat → Int32) × (Nat → Int32)) :=
  if s0 ≤ x6 then
  (M_X7_share_b152 now k62 k81 rows rowLong shares x2 x3 x6 x7 s0 x5)
  else
  (M_X7_share_b152 now k62 k81 rows rowLong shares x2 x3 x6 x7 s0 x7)
set_option maxHeartbeats 4000000 in
set_option maxRecDepth 100000 in
theorem w_X7_share_b136 {G : x_G} {l : Launch} {a : Nat → Nat} {now : (Nat → Int32)} {kept : (Nat → Int32)} {isKept : (Nat → Int32)} {texts : (Nat → Int32)} {textLong : (Nat → Int32)} {found : (Nat → Int32)} {taken : (Nat → Int32)} {anew : (Nat → Int32)} {hand : (Nat → Int32)} {steps : (Nat → Int32)} {choices : (Nat → Int32)} {values : (Nat → Int32)} {latest : Int32} {askedIs : Int32} {above : Int64} {below : Int64} {place : Int32} {partedBy : Int32} {k62 : (Nat → Int32) → (Nat → Int32) → (Nat → Int32) → Int32 → Int32 → Int32 → Option (Int32 × (Nat → Int32) × (Nat → Int32) × (Nat → Int32))} {k81 : (Nat → Int32) → (Nat → Int32) → (Nat → Int32) → Int32 → Int32 → Int32 → Int32 → Int32 → Option (Int32 × (Nat → Int32) × (Nat → Int32) × (Nat → Int32))} {res : Int32 × (Nat → Int32) × (Nat → Int32) × (Nat → Int32)} (hk62 : ∀ (rows : (Nat → Int32)) (rowLong : (Nat → Int32)) (shares : (Nat → Int32)) (x2 : Int32) (x3 : Int32) (x4 : Int32), k62 rows rowLong shares x2 x3 x4 = some res → X G l RX7 cX7_share 9 (x_R 2 0 0) (x_Cm G (some .int) false (x_is (some (.int res.1)) (WModel G a now kept isKept res.2.1 res.2.2.1 texts textLong found taken anew hand steps res.2.2.2 choices values latest askedIs above below place partedBy)) 0 0) 0 0 62 [(0, .ref (a 0)), (2, .int x2), (3, .int x3), (4, .int x4)] [] (WModel G a now kept isKept rows rowLong texts textLong found taken anew hand steps shares choices values latest askedIs above below place partedBy)) (hk81 : ∀ (rows : (Nat → Int32)) (rowLong : (Nat → Int32)) (shares : (Nat → Int32)) (x2 : Int32) (x3 : Int32) (x5 : Int32) (x6 : Int32) (x7 : Int32), k81 rows rowLong shares x2 x3 x5 x6 x7 = some res → X G l RX7 cX7_share 9 (x_R 2 0 0) (x_Cm G (some .int) false (x_is (some (.int res.1)) (WModel G a now kept isKept res.2.1 res.2.2.1 texts textLong found taken anew hand steps res.2.2.2 choices values latest askedIs above below place partedBy)) 0 0) 0 0 81 [(0, .ref (a 0)), (2, .int x2), (3, .int x3), (5, .int x5), (6, .int x6), (7, .int x7)] [] (WModel G a now kept isKept rows rowLong texts textLong found taken anew hand steps shares choices values latest askedIs above below place partedBy)) (rows : (Nat → Int32)) (rowLong : (Nat → Int32)) (shares : (Nat → Int32)) (x2 : Int32) (x3 : Int32) (x5 : Int32) (x6 : Int32) (x7 : Int32) (s0 : Int32) (h : M_X7_share_b136 now k62 k81 rows rowLong shares x2 x3 x5 x6 x7 s0 = some res) : X G l RX7 cX7_share 9 (x_R 2 0 0) (x_Cm G (some .int) false (x_is (some (.int res.1)) (WModel G a now kept isKept res.2.1 res.2.2.1 texts textLong found taken anew hand steps res.2.2.2 choices values latest askedIs above below place partedBy)) 0 0) 0 0 136 [(0, .ref (a 0)), (2, .int x2), (3, .int x3), (5, .int x5), (6, .int x6), (7, .int x7)] [.int s0] (WModel G a now kept isKept rows rowLong texts textLong found taken anew hand steps shares choices values latest askedIs above below place partedBy) := by
  unfold M_X7_share_b136 at h
  refine x_istore [(8, .int s0), (0, .ref (a 0)), (2, .int x2), (3, .int x3), (5, .int x5), (6, .int x6), (7, .int x7)] dX7_share_136 (by decide) rfl ?_
  refine x_iload dX7_share_138 0 rfl ?_
  refine x_iload dX7_share_140 5 rfl ?_
  refine x_icmp_le 150 dX7_share_142 (by decide) (fun c12 => ?_) (fun c12 => ?_)
  · have h := x_pos c12 h
    refine x_iload dX7_share_150 4 rfl ?_
    refine x_lv [1, 2, 3, 5, 6, 0] rfl ?_
    exact w_X7_share_b152 hk62 hk81 _ _ _ _ _ _ _ _ _ h
  · have h := x_neg c12 h
    refine x_iload dX7_share_145 6 rfl ?_
    refine x_goto 152 dX7_share_147 (by decide) ?_
    refine x_lv [1, 2, 3, 5, 6, 0] rfl ?_
    exact w_X7_share_b152 hk62 hk81 _ _ _ _ _ _ _ _ _ h
def M_X7_share_b209 (now : (Nat → Int32)) (k62 : (Nat → Int32) → (Nat → Int32) → (Nat → Int32) → Int32 → Int32 → Int32 → Option (Int32 × (Nat → Int32) × (Nat → Int32) × (Nat → Int32))) (rows : (Nat → Int32)) (rowLong : (Nat → Int32)) (shares : (Nat → Int32)) (x2 : Int32) (x3 : Int32) (x4 : Int32) : Option (Int32 × (Nat → Int32) × (Nat → Int32) × (Nat → Int32)) :=
  k62 rows rowLong shares x2 x3 x4
set_option maxHeartbeats 4000000 in
set_option maxRecDepth 100000 in
theorem w_X7_share_b209 {G : x_G} {l : Launch} {a : Nat → Nat} {now : (Nat → Int32)} {kept : (Nat → Int32)} {isKept : (Nat → Int32)} {texts : (Nat → Int32)} {textLong : (Nat → Int32)} {found : (Nat → Int32)} {taken : (Nat → Int32)} {anew : (Nat → Int32)} {hand : (Nat → Int32)} {steps : (Nat → Int32)} {choices : (Nat → Int32)} {values : (Nat → Int32)} {latest : Int32} {askedIs : Int32} {above : Int64} {below : Int64} {place : Int32} {partedBy : Int32} {k62 : (Nat → Int32) → (Nat → Int32) → (Nat → Int32) → Int32 → Int32 → Int32 → Option (Int32 × (Nat → Int32) × (Nat → Int32) × (Nat → Int32))} {res : Int32 × (Nat → Int32) × (Nat → Int32) × (Nat → Int32)} (hk62 : ∀ (rows : (Nat → Int32)) (rowLong : (Nat → Int32)) (shares : (Nat → Int32)) (x2 : Int32) (x3 : Int32) (x4 : Int32), k62 rows rowLong shares x2 x3 x4 = some res → X G l RX7 cX7_share 9 (x_R 2 0 0) (x_Cm G (some .int) false (x_is (some (.int res.1)) (WModel G a now kept isKept res.2.1 res.2.2.1 texts textLong found taken anew hand steps res.2.2.2 choices values latest askedIs above below place partedBy)) 0 0) 0 0 62 [(0, .ref (a 0)), (2, .int x2), (3, .int x3), (4, .int x4)] [] (WModel G a now kept isKept rows rowLong texts textLong found taken anew hand steps shares choices values latest askedIs above below place partedBy)) (rows : (Nat → Int32)) (rowLong : (Nat → Int32)) (shares : (Nat → Int32)) (x2 : Int32) (x3 : Int32) (x4 : Int32) (h : M_X7_share_b209 now k62 rows rowLong shares x2 x3 x4 = some res) : X G l RX7 cX7_share 9 (x_R 2 0 0) (x_Cm G (some .int) false (x_is (some (.int res.1)) (WModel G a now kept isKept res.2.1 res.2.2.1 texts textLong found taken anew hand steps res.2.2.2 choices values latest askedIs above below place partedBy)) 0 0) 0 0 209 [(0, .ref (a 0)), (2, .int x2), (3, .int x3), (4, .int x4)] [] (WModel G a now kept isKept rows rowLong texts textLong found taken anew hand steps shares choices values latest askedIs above below place partedBy) := by
  unfold M_X7_share_b209 at h
  refine x_goto 62 dX7_share_209 (by decide) ?_
  exact hk62 _ _ _ _ _ _ h
def M_X7_share_b188 (now : (Nat → Int32)) (k62 : (Nat → Int32) → (Nat → Int32) → (Nat → Int32) → Int32 → Int32 → Int32 → Option (Int32 × (Nat → Int32) × (Nat → Int32) × (Nat → Int32))) (rows : (Nat → Int32)) (rowLong : (Nat → Int32)) (shares : (Nat → Int32)) (x2 : Int32) (x3 : Int32) (x5 : Int32) (s0 : Int32) : Option (Int32 × (Nat → Int32) × (Nat → Int32) × (Nat → Int32)) :=
  if s0 = 0 then
  (M_X7_share_b209 now k62 rows rowLong shares x2 x3 s0)
  else
  (if inb x5 6 then
  M_X7_share_b209 now k62 rows rowLong (upd shares x5.toNatClampNeg ((shares x5.toNatClampNeg) + (1 : Int32))) x2 (x3 + (-1 : Int32)) s0
  else none)
set_option maxHeartbeats 4000000 in
set_option maxRecDepth 100000 in
theorem w_X7_share_b188 {G : x_G} {l : Launch} {a : Nat → Nat} {now : (Nat → Int32)} {kept : (Nat → Int32)} {isKept : (Nat → Int32)} {texts : (Nat → Int32)} {textLong : (Nat → Int32)} {found : (Nat → Int32)} {taken : (Nat → Int32)} {anew : (Nat → Int32)} {hand : (Nat → Int32)} {steps : (Nat → Int32)} {choices : (Nat → Int32)} {values : (Nat → Int32)} {latest : Int32} {askedIs : Int32} {above : Int64} {below : Int64} {place : Int32} {partedBy : Int32} {k62 : (Nat → Int32) → (Nat → Int32) → (Nat → Int32) → Int32 → Int32 → Int32 → Option (Int32 × (Nat → Int32) × (Nat → Int32) × (Nat → Int32))} {res : Int32 × (Nat → Int32) × (Nat → Int32) × (Nat → Int32)} (hk62 : ∀ (rows : (Nat → Int32)) (rowLong : (Nat → Int32)) (shares : (Nat → Int32)) (x2 : Int32) (x3 : Int32) (x4 : Int32), k62 rows rowLong shares x2 x3 x4 = some res → X G l RX7 cX7_share 9 (x_R 2 0 0) (x_Cm G (some .int) false (x_is (some (.int res.1)) (WModel G a now kept isKept res.2.1 res.2.2.1 texts textLong found taken anew hand steps res.2.2.2 choices values latest askedIs above below place partedBy)) 0 0) 0 0 62 [(0, .ref (a 0)), (2, .int x2), (3, .int x3), (4, .int x4)] [] (WModel G a now kept isKept rows rowLong texts textLong found taken anew hand steps shares choices values latest askedIs above below place partedBy)) (rows : (Nat → Int32)) (rowLong : (Nat → Int32)) (shares : (Nat → Int32)) (x2 : Int32) (x3 : Int32) (x5 : Int32) (s0 : Int32) (h : M_X7_share_b188 now k62 rows rowLong shares x2 x3 x5 s0 = some res) : X G l RX7 cX7_share 9 (x_R 2 0 0) (x_Cm G (some .int) false (x_is (some (.int res.1)) (WModel G a now kept isKept res.2.1 res.2.2.1 texts textLong found taken anew hand steps res.2.2.2 choices values latest askedIs above below place partedBy)) 0 0) 0 0 188 [(0, .ref (a 0)), (2, .int x2), (3, .int x3), (5, .int x5)] [.int s0] (WModel G a now kept isKept rows rowLong texts textLong found taken anew hand steps shares choices values latest askedIs above below place partedBy) := by
  unfold M_X7_share_b188 at h
  refine x_istore [(4, .int s0), (0, .ref (a 0)), (2, .int x2), (3, .int x3), (5, .int x5)] dX7_share_188 (by decide) rfl ?_
  refine x_iload dX7_share_190 0 rfl ?_
  refine x_if_eq 209 dX7_share_192 (by decide) (fun c14 => ?_) (fun c14 => ?_)
  · have h := x_pos c14 h
    refine x_lv [1, 2, 3, 0] rfl ?_
    exact w_X7_share_b209 hk62 _ _ _ _ _ _ h
  · have h := x_neg c14 h
    refine x_aload_n dX7_share_195 1 rfl rfl ?_
    refine x_get (ci := 5) 18 0 dX7_share_196 fl_X7_51 inX7 rfl (by decide) ⟨rfl, rfl, rfl⟩ rfl rfl ?_
    refine x_iload dX7_share_199 4 rfl ?_
    refine x_dup2 dX7_share_201 rfl rfl ?_
    obtain ⟨b15, h⟩ := x_guard h
    refine x_iald x5.toNatClampNeg (q0 := 13) dX7_share_202 rfl rfl b15 ?_
    refine x_iconst 1 dX7_share_203 (by decide) ?_
    refine x_iadd dX7_share_204 ?_
    refine x_iast x5.toNatClampNeg (q0 := 13) (WModel G a now kept isKept rows rowLong texts textLong found taken anew hand steps ((upd shares x5.toNatClampNeg ((shares x5.toNatClampNeg) + (1 : Int32)))) choices values latest askedIs above below place partedBy) dX7_share_205 rfl rfl b15 rfl ?_
    refine x_iinc (j := 3) (-1 : Int32) [(3, .int (x3 + (-1 : Int32))), (4, .int s0), (0, .ref (a 0)), (2, .int x2), (5, .int x5)] dX7_share_206 (by decide) rfl (by decide) rfl ?_
    refine x_lv [2, 3, 0, 1] rfl ?_
    exact w_X7_share_b209 hk62 _ _ _ _ _ _ h
def M_X7_share_b81 (now : (Nat → Int32)) (k62 : (Nat → Int32) → (Nat → Int32) → (Nat → Int32) → Int32 → Int32 → Int32 → Option (Int32 × (Nat → Int32) × (Nat → Int32) × (Nat → Int32))) : Nat → (Nat → Int32) → (Nat → Int32) → (Nat → Int32) → Int32 → Int32 → Int32 → Int32 → Int32 → Option (Int32 × (Nat → Int32) × (Nat → Int32) × (Nat → Int32))
  | 0, _, _, _, _, _, _, _, _ => none
  | n + 1, rows, rowLong, shares, x2, x3, x5, x6, x7 =>
    if (now 0) ≤ x7 then
    (if x5 = (-9 : Int32) then
    (M_X7_share_b188 now k62 rows rowLong shares x2 x3 x5 (0 : Int32))
    else
    (M_X7_share_b188 now k62 rows rowLong shares x2 x3 x5 (1 : Int32)))
    else
    (if (M_X7_isFast_85 now x7) = 0 then
    (M_X7_share_b136 now k62 (fun (rows' : (Nat → Int32)) (rowLong' : (Nat → Int32)) (shares' : (Nat → Int32)) (x2' : Int32) (x3' : Int32) (x5' : Int32) (x6' : Int32) (x7' : Int32) => M_X7_share_b81 now k62 n rows' rowLong' shares' x2' x3' x5' x6' x7') rows rowLong shares x2 x3 x5 x6 x7 (0 : Int32))
    else
    ((M_X7_holdsOf_85 now x7).bind fun r8 =>
    if inb ((76 : Int32) + x7) 85 then
    if inb x7 6 then
    M_X7_share_b136 now k62 (fun (rows' : (Nat → Int32)) (rowLong' : (Nat → Int32)) (shares' : (Nat → Int32)) (x2' : Int32) (x3' : Int32) (x5' : Int32) (x6' : Int32) (x7' : Int32) => M_X7_share_b81 now k62 n rows' rowLong' shares' x2' x3' x5' x6' x7') rows rowLong shares x2 x3 x5 x6 x7 ((r8 - (now ((76 : Int32) + x7).toNatClampNeg)) - (shares x7.toNatClampNeg))
    else none
    else none))
set_option maxHeartbeats 4000000 in
set_option maxRecDepth 100000 in
theorem w_X7_share_b81 {G : x_G} {l : Launch} {a : Nat → Nat} {now : (Nat → Int32)} {kept : (Nat → Int32)} {isKept : (Nat → Int32)} {texts : (Nat → Int32)} {textLong : (Nat → Int32)} {found : (Nat → Int32)} {taken : (Nat → Int32)} {anew : (Nat → Int32)} {hand : (Nat → Int32)} {steps : (Nat → Int32)} {choices : (Nat → Int32)} {values : (Nat → Int32)} {latest : Int32} {askedIs : Int32} {above : Int64} {below : Int64} {place : Int32} {partedBy : Int32} {k62 : (Nat → Int32) → (Nat → Int32) → (Nat → Int32) → Int32 → Int32 → Int32 → Option (Int32 × (Nat → Int32) × (Nat → Int32) × (Nat → Int32))} {res : Int32 × (Nat → Int32) × (Nat → Int32) × (Nat → Int32)} (hk62 : ∀ (rows : (Nat → Int32)) (rowLong : (Nat → Int32)) (shares : (Nat → Int32)) (x2 : Int32) (x3 : Int32) (x4 : Int32), k62 rows rowLong shares x2 x3 x4 = some res → X G l RX7 cX7_share 9 (x_R 2 0 0) (x_Cm G (some .int) false (x_is (some (.int res.1)) (WModel G a now kept isKept res.2.1 res.2.2.1 texts textLong found taken anew hand steps res.2.2.2 choices values latest askedIs above below place partedBy)) 0 0) 0 0 62 [(0, .ref (a 0)), (2, .int x2), (3, .int x3), (4, .int x4)] [] (WModel G a now kept isKept rows rowLong texts textLong found taken anew hand steps shares choices values latest askedIs above below place partedBy)) : ∀ (n : Nat) (rows : (Nat → Int32)) (rowLong : (Nat → Int32)) (shares : (Nat → Int32)) (x2 : Int32) (x3 : Int32) (x5 : Int32) (x6 : Int32) (x7 : Int32), M_X7_share_b81 now k62 n rows rowLong shares x2 x3 x5 x6 x7 = some res → X G l RX7 cX7_share 9 (x_R 2 0 0) (x_Cm G (some .int) false (x_is (some (.int res.1)) (WModel G a now kept isKept res.2.1 res.2.2.1 texts textLong found taken anew hand steps res.2.2.2 choices values latest askedIs above below place partedBy)) 0 0) 0 0 81 [(0, .ref (a 0)), (2, .int x2), (3, .int x3), (5, .int x5), (6, .int x6), (7, .int x7)] [] (WModel G a now kept isKept rows rowLong texts textLong found taken anew hand steps shares choices values latest askedIs above below place partedBy) := by
  intro n
  induction n with
  | zero =>
    intro _ _ _ _ _ _ _ _ h
    cases h
  | succ n ih =>
    intro rows rowLong shares x2 x3 x5 x6 x7 h
    rw [M_X7_share_b81] at h
    refine x_iload dX7_share_81 5 rfl ?_
    refine x_aload_n dX7_share_83 0 rfl rfl ?_
    refine x_get (ci := 5) 0 0 dX7_share_84 fl_X7_7 inX7 rfl (by decide) ⟨rfl, rfl, rfl⟩ rfl rfl ?_
    refine x_iconst 0 dX7_share_87 (by decide) ?_
    refine x_iald 0 (q0 := 1) dX7_share_88 (by decide) rfl (by decide) ?_
    refine x_icmp_ge 176 dX7_share_89 (by decide) (fun c5 => ?_) (fun c5 => ?_)
    · have h := x_pos c5 h
      refine x_iload dX7_share_176 3 rfl ?_
      refine x_bipush (-9 : Int32) dX7_share_178 (by decide) ?_
      refine x_icmp_eq 187 dX7_share_180 (by decide) (fun c6 => ?_) (fun c6 => ?_)
      · have h := x_pos c6 h
        refine x_iconst 0 dX7_share_187 (by decide) ?_
        refine x_lv [0, 1, 2, 3] rfl ?_
        exact w_X7_share_b188 hk62 _ _ _ _ _ _ _ h
      · have h := x_neg c6 h
        refine x_iconst 1 dX7_share_183 (by decide) ?_
        refine x_goto 188 dX7_share_184 (by decide) ?_
        refine x_lv [0, 1, 2, 3] rfl ?_
        exact w_X7_share_b188 hk62 _ _ _ _ _ _ _ h
    · have h := x_neg c5 h
      refine x_aload_n dX7_share_92 0 rfl rfl ?_
      refine x_get (ci := 5) 0 0 dX7_share_93 fl_X7_7 inX7 rfl (by decide) ⟨rfl, rfl, rfl⟩ rfl rfl ?_
      refine x_iload dX7_share_96 5 rfl ?_
      refine x_cS (As := [.ref (a 1), .int x7]) (wc := (WArr G (fun k => a (1 + k)) 85 now)) (w1 := (WArr G (fun k => a (1 + k)) 85 now)) (pre := ((WModel G a now kept isKept rows rowLong texts textLong found taken anew hand steps shares choices values latest askedIs above below place partedBy).take 1)) (post := ((WModel G a now kept isKept rows rowLong texts textLong found taken anew hand steps shares choices values latest askedIs above below place partedBy).drop 2)) (rest := []) (st1 := [.int (M_X7_isFast_85 now x7)]) (ws1 := (WModel G a now kept isKept rows rowLong texts textLong found taken anew hand steps shares choices values latest askedIs above below place partedBy)) dX7_share_98 (c_X7_isFast_85 (aq := (fun k => a (1 + k))) rfl) pk_X7_isFast ml_X7_143 rfl rfl rfl rfl rfl rfl rfl ?_
      refine x_if_eq 135 dX7_share_101 (by decide) (fun c7 => ?_) (fun c7 => ?_)
      · have h := x_pos c7 h
        refine x_iconst 0 dX7_share_135 (by decide) ?_
        exact w_X7_share_b136 hk62 (fun rows' rowLong' shares' x2' x3' x5' x6' x7' h => ih rows' rowLong' shares' x2' x3' x5' x6' x7' h) _ _ _ _ _ _ _ _ _ h
      · have h := x_neg c7 h
        refine x_aload_n dX7_share_104 0 rfl rfl ?_
        refine x_get (ci := 5) 0 0 dX7_share_105 fl_X7_7 inX7 rfl (by decide) ⟨rfl, rfl, rfl⟩ rfl rfl ?_
        refine x_iload dX7_share_108 5 rfl ?_
        obtain ⟨r8, e9, h⟩ := x_bind h
        refine x_cS (As := [.ref (a 1), .int x7]) (wc := (WArr G (fun k => a (1 + k)) 85 now)) (w1 := (WArr G (fun k => a (1 + k)) 85 now)) (pre := ((WModel G a now kept isKept rows rowLong texts textLong found taken anew hand steps shares choices values latest askedIs above below place partedBy).take 1)) (post := ((WModel G a now kept isKept rows rowLong texts textLong found taken anew hand steps shares choices values latest askedIs above below place partedBy).drop 2)) (rest := []) (st1 := [.int r8]) (ws1 := (WModel G a now kept isKept rows rowLong texts textLong found taken anew hand steps shares choices values latest askedIs above below place partedBy)) dX7_share_110 (c_X7_holdsOf_85 (aq := (fun k => a (1 + k))) e9) pk_X7_holdsOf ml_X7_136 rfl rfl rfl rfl rfl rfl rfl ?_
        refine x_aload_n dX7_share_113 0 rfl rfl ?_
        refine x_get (ci := 5) 0 0 dX7_share_114 fl_X7_7 inX7 rfl (by decide) ⟨rfl, rfl, rfl⟩ rfl rfl ?_
        refine x_bipush 76 dX7_share_117 (by decide) ?_
        refine x_iload dX7_share_119 5 rfl ?_
        refine x_iadd dX7_share_121 ?_
        obtain ⟨b10, h⟩ := x_guard h
        refine x_iald ((76 : Int32) + x7).toNatClampNeg (q0 := 1) dX7_share_122 rfl rfl b10 ?_
        refine x_isub dX7_share_123 ?_
        refine x_aload_n dX7_share_124 0 rfl rfl ?_
        refine x_get (ci := 5) 18 0 dX7_share_125 fl_X7_51 inX7 rfl (by decide) ⟨rfl, rfl, rfl⟩ rfl rfl ?_
        refine x_iload dX7_share_128 5 rfl ?_
        obtain ⟨b11, h⟩ := x_guard h
        refine x_iald x7.toNatClampNeg (q0 := 13) dX7_share_130 rfl rfl b11 ?_
        refine x_isub dX7_share_131 ?_
        refine x_goto 136 dX7_share_132 (by decide) ?_
        exact w_X7_share_b136 hk62 (fun rows' rowLong' shares' x2' x3' x5' x6' x7' h => ih rows' rowLong' shares' x2' x3' x5' x6' x7' h) _ _ _ _ _ _ _ _ _ h
def M_X7_share_b227 (now : (Nat → Int32)) : Nat → (Nat → Int32) → (Nat → Int32) → (Nat → Int32) → Int32 → Int32 → Int32 → Option (Int32 × (Nat → Int32) × (Nat → Int32) × (Nat → Int32))
  | 0, _, _, _, _, _, _ => none
  | n + 1, rows, rowLong, shares, x2, x3, x5 =>
    if (now 0) ≤ x5 then
    (some (x3, rows, rowLong, shares))
    else
    (if inb x5 6 then
    if inb (((40 : Int32) * x2) + x5) 240 then
    M_X7_share_b227 now n (upd rows (((40 : Int32) * x2) + x5).toNatClampNeg (shares x5.toNatClampNeg)) rowLong shares x2 x3 (x5 + (1 : Int32))
    else none
    else none)
set_option maxHeartbeats 4000000 in
set_option maxRecDepth 100000 in
theorem w_X7_share_b227 {G : x_G} {l : Launch} {a : Nat → Nat} {now : (Nat → Int32)} {kept : (Nat → Int32)} {isKept : (Nat → Int32)} {texts : (Nat → Int32)} {textLong : (Nat → Int32)} {found : (Nat → Int32)} {taken : (Nat → Int32)} {anew : (Nat → Int32)} {hand : (Nat → Int32)} {steps : (Nat → Int32)} {choices : (Nat → Int32)} {values : (Nat → Int32)} {latest : Int32} {askedIs : Int32} {above : Int64} {below : Int64} {place : Int32} {partedBy : Int32} {res : Int32 × (Nat → Int32) × (Nat → Int32) × (Nat → Int32)} : ∀ (n : Nat) (rows : (Nat → Int32)) (rowLong : (Nat → Int32)) (shares : (Nat → Int32)) (x2 : Int32) (x3 : Int32) (x5 : Int32), M_X7_share_b227 now n rows rowLong shares x2 x3 x5 = some res → X G l RX7 cX7_share 9 (x_R 2 0 0) (x_Cm G (some .int) false (x_is (some (.int res.1)) (WModel G a now kept isKept res.2.1 res.2.2.1 texts textLong found taken anew hand steps res.2.2.2 choices values latest askedIs above below place partedBy)) 0 0) 0 0 227 [(0, .ref (a 0)), (2, .int x2), (3, .int x3), (5, .int x5)] [] (WModel G a now kept isKept rows rowLong texts textLong found taken anew hand steps shares choices values latest askedIs above below place partedBy) := by
  intro n
  induction n with
  | zero =>
    intro _ _ _ _ _ _ h
    cases h
  | succ n ih =>
    intro rows rowLong shares x2 x3 x5 h
    rw [M_X7_share_b227] at h
    refine x_iload dX7_share_227 3 rfl ?_
    refine x_aload_n dX7_share_229 0 rfl rfl ?_
    refine x_get (ci := 5) 0 0 dX7_share_230 fl_X7_7 inX7 rfl (by decide) ⟨rfl, rfl, rfl⟩ rfl rfl ?_
    refine x_iconst 0 dX7_share_233 (by decide) ?_
    refine x_iald 0 (q0 := 1) dX7_share_234 (by decide) rfl (by decide) ?_
    refine x_icmp_ge 263 dX7_share_235 (by decide) (fun c17 => ?_) (fun c17 => ?_)
    · have h := x_pos c17 h
      refine x_iload_n dX7_share_263 2 rfl rfl ?_
      cases h
      exact x_ireturn dX7_share_264 rfl (x_is.rf _ _)
    · have h := x_neg c17 h
      refine x_aload_n dX7_share_238 0 rfl rfl ?_
      refine x_get (ci := 5) 3 0 dX7_share_239 fl_X7_20 inX7 rfl (by decide) ⟨rfl, rfl, rfl⟩ rfl rfl ?_
      refine x_bipush 40 dX7_share_242 (by decide) ?_
      refine x_iload_n dX7_share_244 1 rfl rfl ?_
      refine x_imul dX7_share_245 ?_
      refine x_iload dX7_share_246 3 rfl ?_
      refine x_iadd dX7_share_248 ?_
      refine x_aload_n dX7_share_249 0 rfl rfl ?_
      refine x_get (ci := 5) 18 0 dX7_share_250 fl_X7_51 inX7 rfl (by decide) ⟨rfl, rfl, rfl⟩ rfl rfl ?_
      refine x_iload dX7_share_253 3 rfl ?_
      obtain ⟨b18, h⟩ := x_guard h
      refine x_iald x5.toNatClampNeg (q0 := 13) dX7_share_255 rfl rfl b18 ?_
      obtain ⟨b19, h⟩ := x_guard h
      refine x_iast (((40 : Int32) * x2) + x5).toNatClampNeg (q0 := 4) (WModel G a now kept isKept ((upd rows (((40 : Int32) * x2) + x5).toNatClampNeg (shares x5.toNatClampNeg))) rowLong texts textLong found taken anew hand steps shares choices values latest askedIs above below place partedBy) dX7_share_256 rfl rfl b19 rfl ?_
      refine x_iinc (j := 3) (1 : Int32) [(5, .int (x5 + (1 : Int32))), (0, .ref (a 0)), (2, .int x2), (3, .int x3)] dX7_share_257 (by decide) rfl (by decide) rfl ?_
      refine x_goto 227 dX7_share_260 (by decide) ?_
      refine x_lv [1, 2, 3, 0] rfl ?_
      exact ih _ _ _ _ _ _ h
def M_X7_share_b212 (now : (Nat → Int32)) (rows : (Nat → Int32)) (rowLong : (Nat → Int32)) (shares : (Nat → Int32)) (x2 : Int32) (x3 : Int32) : Option (Int32 × (Nat → Int32) × (Nat → Int32) × (Nat → Int32)) :=
  if inb x2 6 then
  M_X7_share_b227 now x_fuel rows (upd rowLong x2.toNatClampNeg (now 0)) shares x2 x3 (0 : Int32)
  else none
set_option maxHeartbeats 4000000 in
set_option maxRecDepth 100000 in
theorem w_X7_share_b212 {G : x_G} {l : Launch} {a : Nat → Nat} {now : (Nat → Int32)} {kept : (Nat → Int32)} {isKept : (Nat → Int32)} {texts : (Nat → Int32)} {textLong : (Nat → Int32)} {found : (Nat → Int32)} {taken : (Nat → Int32)} {anew : (Nat → Int32)} {hand : (Nat → Int32)} {steps : (Nat → Int32)} {choices : (Nat → Int32)} {values : (Nat → Int32)} {latest : Int32} {askedIs : Int32} {above : Int64} {below : Int64} {place : Int32} {partedBy : Int32} {res : Int32 × (Nat → Int32) × (Nat → Int32) × (Nat → Int32)} (rows : (Nat → Int32)) (rowLong : (Nat → Int32)) (shares : (Nat → Int32)) (x2 : Int32) (x3 : Int32) (h : M_X7_share_b212 now rows rowLong shares x2 x3 = some res) : X G l RX7 cX7_share 9 (x_R 2 0 0) (x_Cm G (some .int) false (x_is (some (.int res.1)) (WModel G a now kept isKept res.2.1 res.2.2.1 texts textLong found taken anew hand steps res.2.2.2 choices values latest askedIs above below place partedBy)) 0 0) 0 0 212 [(0, .ref (a 0)), (2, .int x2), (3, .int x3)] [] (WModel G a now kept isKept rows rowLong texts textLong found taken anew hand steps shares choices values latest askedIs above below place partedBy) := by
  unfold M_X7_share_b212 at h
  refine x_aload_n dX7_share_212 0 rfl rfl ?_
  refine x_get (ci := 5) 4 0 dX7_share_213 fl_X7_23 inX7 rfl (by decide) ⟨rfl, rfl, rfl⟩ rfl rfl ?_
  refine x_iload_n dX7_share_216 1 rfl rfl ?_
  refine x_aload_n dX7_share_217 0 rfl rfl ?_
  refine x_get (ci := 5) 0 0 dX7_share_218 fl_X7_7 inX7 rfl (by decide) ⟨rfl, rfl, rfl⟩ rfl rfl ?_
  refine x_iconst 0 dX7_share_221 (by decide) ?_
  refine x_iald 0 (q0 := 1) dX7_share_222 (by decide) rfl (by decide) ?_
  obtain ⟨b16, h⟩ := x_guard h
  refine x_iast x2.toNatClampNeg (q0 := 5) (WModel G a now kept isKept rows ((upd rowLong x2.toNatClampNeg (now 0))) texts textLong found taken anew hand steps shares choices values latest askedIs above below place partedBy) dX7_share_223 rfl rfl b16 rfl ?_
  refine x_iconst 0 dX7_share_224 (by decide) ?_
  refine x_istore [(5, .int (0 : Int32)), (0, .ref (a 0)), (2, .int x2), (3, .int x3)] dX7_share_225 (by decide) rfl ?_
  refine x_lv [1, 2, 3, 0] rfl ?_
  exact w_X7_share_b227  _ _ _ _ _ _ _ h
def M_X7_share_b62 (now : (Nat → Int32)) : Nat → (Nat → Int32) → (Nat → Int32) → (Nat → Int32) → Int32 → Int32 → Int32 → Option (Int32 × (Nat → Int32) × (Nat → Int32) × (Nat → Int32))
  | 0, _, _, _, _, _, _ => none
  | n + 1, rows, rowLong, shares, x2, x3, x4 =>
    if x3 ≤ 0 then
    (M_X7_share_b212 now rows rowLong shares x2 x3)
    else
    (if x4 = 0 then
    (M_X7_share_b212 now rows rowLong shares x2 x3)
    else
    (M_X7_share_b81 now (fun (rows' : (Nat → Int32)) (rowLong' : (Nat → Int32)) (shares' : (Nat → Int32)) (x2' : Int32) (x3' : Int32) (x4' : Int32) => M_X7_share_b62 now n rows' rowLong' shares' x2' x3' x4') x_fuel rows rowLong shares x2 x3 (-9 : Int32) (0 : Int32) (0 : Int32)))
set_option maxHeartbeats 4000000 in
set_option maxRecDepth 100000 in
theorem w_X7_share_b62 {G : x_G} {l : Launch} {a : Nat → Nat} {now : (Nat → Int32)} {kept : (Nat → Int32)} {isKept : (Nat → Int32)} {texts : (Nat → Int32)} {textLong : (Nat → Int32)} {found : (Nat → Int32)} {taken : (Nat → Int32)} {anew : (Nat → Int32)} {hand : (Nat → Int32)} {steps : (Nat → Int32)} {choices : (Nat → Int32)} {values : (Nat → Int32)} {latest : Int32} {askedIs : Int32} {above : Int64} {below : Int64} {place : Int32} {partedBy : Int32} {res : Int32 × (Nat → Int32) × (Nat → Int32) × (Nat → Int32)} : ∀ (n : Nat) (rows : (Nat → Int32)) (rowLong : (Nat → Int32)) (shares : (Nat → Int32)) (x2 : Int32) (x3 : Int32) (x4 : Int32), M_X7_share_b62 now n rows rowLong shares x2 x3 x4 = some res → X G l RX7 cX7_share 9 (x_R 2 0 0) (x_Cm G (some .int) false (x_is (some (.int res.1)) (WModel G a now kept isKept res.2.1 res.2.2.1 texts textLong found taken anew hand steps res.2.2.2 choices values latest askedIs above below place partedBy)) 0 0) 0 0 62 [(0, .ref (a 0)), (2, .int x2), (3, .int x3), (4, .int x4)] [] (WModel G a now kept isKept rows rowLong texts textLong found taken anew hand steps shares choices values latest askedIs above below place partedBy) := by
  intro n
  induction n with
  | zero =>
    intro _ _ _ _ _ _ h
    cases h
  | succ n ih =>
    intro rows rowLong shares x2 x3 x4 h
    rw [M_X7_share_b62] at h
    refine x_iload_n dX7_share_62 2 rfl rfl ?_
    refine x_if_le 212 dX7_share_63 (by decide) (fun c3 => ?_) (fun c3 => ?_)
    · have h := x_pos c3 h
      refine x_lv [0, 1, 2] rfl ?_
      exact w_X7_share_b212  _ _ _ _ _ h
    · have h := x_neg c3 h
      refine x_iload dX7_share_66 3 rfl ?_
      refine x_if_eq 212 dX7_share_68 (by decide) (fun c4 => ?_) (fun c4 => ?_)
      · have h := x_pos c4 h
        refine x_lv [0, 1, 2] rfl ?_
        exact w_X7_share_b212  _ _ _ _ _ h
      · have h := x_neg c4 h
        refine x_bipush (-9 : Int32) dX7_share_71 (by decide) ?_
        refine x_istore [(5, .int (-9 : Int32)), (0, .ref (a 0)), (2, .int x2), (3, .int x3), (4, .int x4)] dX7_share_73 (by decide) rfl ?_
        refine x_iconst 0 dX7_share_75 (by decide) ?_
        refine x_istore [(6, .int (0 : Int32)), (5, .int (-9 : Int32)), (0, .ref (a 0)), (2, .int x2), (3, .int x3), (4, .int x4)] dX7_share_76 (by decide) rfl ?_
        refine x_iconst 0 dX7_share_78 (by decide) ?_
        refine x_istore [(7, .int (0 : Int32)), (6, .int (0 : Int32)), (5, .int (-9 : Int32)), (0, .ref (a 0)), (2, .int x2), (3, .int x3), (4, .int x4)] dX7_share_79 (by decide) rfl ?_
        refine x_lv [3, 4, 5, 2, 1, 0] rfl ?_
        exact w_X7_share_b81 (fun rows' rowLong' shares' x2' x3' x4' h => ih rows' rowLong' shares' x2' x3' x4' h) _ _ _ _ _ _ _ _ _ h
def M_X7_share_b41 (now : (Nat → Int32)) : Nat → (Nat → Int32) → (Nat → Int32) → (Nat → Int32) → Int32 → Int32 → Int32 → Int32 → Option (Int32 × (Nat → Int32) × (Nat → Int32) × (Nat → Int32))
  | 0, _, _, _, _, _, _, _ => none
  | n + 1, rows, rowLong, shares, x2, x3, x4, x5 =>
    if (6 : Int32) ≤ x5 then
    (M_X7_share_b62 now x_fuel rows rowLong shares x2 x3 x4)
    else
    (if inb x5 6 then
    M_X7_share_b41 now n rows rowLong (upd shares x5.toNatClampNeg (0 : Int32)) x2 x3 x4 (x5 + (1 : Int32))
    else none)
set_option maxHeartbeats 4000000 in
set_option maxRecDepth 100000 in
theorem w_X7_share_b41 {G : x_G} {l : Launch} {a : Nat → Nat} {now : (Nat → Int32)} {kept : (Nat → Int32)} {isKept : (Nat → Int32)} {texts : (Nat → Int32)} {textLong : (Nat → Int32)} {found : (Nat → Int32)} {taken : (Nat → Int32)} {anew : (Nat → Int32)} {hand : (Nat → Int32)} {steps : (Nat → Int32)} {choices : (Nat → Int32)} {values : (Nat → Int32)} {latest : Int32} {askedIs : Int32} {above : Int64} {below : Int64} {place : Int32} {partedBy : Int32} {res : Int32 × (Nat → Int32) × (Nat → Int32) × (Nat → Int32)} : ∀ (n : Nat) (rows : (Nat → Int32)) (rowLong : (Nat → Int32)) (shares : (Nat → Int32)) (x2 : Int32) (x3 : Int32) (x4 : Int32) (x5 : Int32), M_X7_share_b41 now n rows rowLong shares x2 x3 x4 x5 = some res → X G l RX7 cX7_share 9 (x_R 2 0 0) (x_Cm G (some .int) false (x_is (some (.int res.1)) (WModel G a now kept isKept res.2.1 res.2.2.1 texts textLong found taken anew hand steps res.2.2.2 choices values latest askedIs above below place partedBy)) 0 0) 0 0 41 [(0, .ref (a 0)), (2, .int x2), (3, .int x3), (4, .int x4), (5, .int x5)] [] (WModel G a now kept isKept rows rowLong texts textLong found taken anew hand steps shares choices values latest askedIs above below place partedBy) := by
  intro n
  induction n with
  | zero =>
    intro _ _ _ _ _ _ _ h
    cases h
  | succ n ih =>
    intro rows rowLong shares x2 x3 x4 x5 h
    rw [M_X7_share_b41] at h
    refine x_iload dX7_share_41 4 rfl ?_
    refine x_bipush 6 dX7_share_43 (by decide) ?_
    refine x_icmp_ge 62 dX7_share_45 (by decide) (fun c1 => ?_) (fun c1 => ?_)
    · have h := x_pos c1 h
      refine x_lv [0, 1, 2, 3] rfl ?_
      exact w_X7_share_b62  _ _ _ _ _ _ _ h
    · have h := x_neg c1 h
      refine x_aload_n dX7_share_48 0 rfl rfl ?_
      refine x_get (ci := 5) 18 0 dX7_share_49 fl_X7_51 inX7 rfl (by decide) ⟨rfl, rfl, rfl⟩ rfl rfl ?_
      refine x_iload dX7_share_52 4 rfl ?_
      refine x_iconst 0 dX7_share_54 (by decide) ?_
      obtain ⟨b2, h⟩ := x_guard h
      refine x_iast x5.toNatClampNeg (q0 := 13) (WModel G a now kept isKept rows rowLong texts textLong found taken anew hand steps ((upd shares x5.toNatClampNeg (0 : Int32))) choices values latest askedIs above below place partedBy) dX7_share_55 rfl rfl b2 rfl ?_
      refine x_iinc (j := 4) (1 : Int32) [(5, .int (x5 + (1 : Int32))), (0, .ref (a 0)), (2, .int x2), (3, .int x3), (4, .int x4)] dX7_share_56 (by decide) rfl (by decide) rfl ?_
      refine x_goto 41 dX7_share_59 (by decide) ?_
      refine x_lv [1, 2, 3, 4, 0] rfl ?_
      exact ih _ _ _ _ _ _ _ h
def M_X7_share (now : (Nat → Int32)) (rows : (Nat → Int32)) (rowLong : (Nat → Int32)) (shares : (Nat → Int32)) (x1 : Int32) (x2 : Int32) : Option (Int32 × (Nat → Int32) × (Nat → Int32) × (Nat → Int32)) :=
  if (M_X7_in x1.toInt64 (0 : Int64) (60 : Int64)) = 0 then
  (some ((-1 : Int32), rows, rowLong, shares))
  else
  (if (M_X7_isRow x2) = 0 then
  (some ((-1 : Int32), rows, rowLong, shares))
  else
  (if (now 0) = 0 then
  (some ((-4 : Int32), rows, rowLong, shares))
  else
  (M_X7_share_b41 now x_fuel rows rowLong shares x2 x1 (1 : Int32) (0 : Int32))))
set_option maxHeartbeats 4000000 in
set_option maxRecDepth 100000 in
theorem c_X7_share {G : x_G} {l : Launch} {a : Nat → Nat} {now : (Nat → Int32)} {kept : (Nat → Int32)} {isKept : (Nat → Int32)} {texts : (Nat → Int32)} {textLong : (Nat → Int32)} {found : (Nat → Int32)} {taken : (Nat → Int32)} {anew : (Nat → Int32)} {hand : (Nat → Int32)} {steps : (Nat → Int32)} {choices : (Nat → Int32)} {values : (Nat → Int32)} {latest : Int32} {askedIs : Int32} {above : Int64} {below : Int64} {place : Int32} {partedBy : Int32} {rows : (Nat → Int32)} {rowLong : (Nat → Int32)} {shares : (Nat → Int32)} {x1 : Int32} {x2 : Int32} {res : Int32 × (Nat → Int32) × (Nat → Int32) × (Nat → Int32)} (h : M_X7_share now rows rowLong shares x1 x2 = some res) : x_M G l yX7_share cX7_share 9 (some .int) (2) 0 0 [.ref (a 0), .int x1, .int x2] (WModel G a now kept isKept rows rowLong texts textLong found taken anew hand steps shares choices values latest askedIs above below place partedBy) (x_is (some (.int res.1)) (WModel G a now kept isKept res.2.1 res.2.2.1 texts textLong found taken anew hand steps res.2.2.2 choices values latest askedIs above below place partedBy)) := by
  unfold M_X7_share at h
  refine x_enter (ini := false) (by decide) rfl (by decide) rfl (Nat.le_of_ble_eq_true rfl) ?_
  refine x_iload_n dX7_share_0 1 rfl rfl ?_
  refine x_i2l dX7_share_1 ?_
  refine x_lconst 0 dX7_share_2 (by decide) ?_
  refine x_ldc2 dX7_share_3 kl_X7_207 ?_
  refine x_cS (As := [.long x1.toInt64, .long (0 : Int64), .long (60 : Int64)]) (wc := ([] : va_W)) (w1 := ([] : va_W)) (pre := []) (post := (WModel G a now kept isKept rows rowLong texts textLong found taken anew hand steps shares choices values latest askedIs above below place partedBy)) (rest := []) (st1 := [.int (M_X7_in x1.toInt64 (0 : Int64) (60 : Int64))]) (ws1 := (WModel G a now kept isKept rows rowLong texts textLong found taken anew hand steps shares choices values latest askedIs above below place partedBy)) dX7_share_6 (c_X7_in rfl) pk_X7_in ml_X7_69 rfl rfl rfl rfl rfl rfl rfl ?_
  refine x_if_eq 19 dX7_share_9 (by decide) (fun c20 => ?_) (fun c20 => ?_)
  · have h := x_pos c20 h
    refine x_iconst (-1 : Int32) dX7_share_19 (by decide) ?_
    cases h
    exact x_ireturn dX7_share_20 rfl (x_is.rf _ _)
  · have h := x_neg c20 h
    refine x_iload_n dX7_share_12 2 rfl rfl ?_
    refine x_cS (As := [.int x2]) (wc := ([] : va_W)) (w1 := ([] : va_W)) (pre := []) (post := (WModel G a now kept isKept rows rowLong texts textLong found taken anew hand steps shares choices values latest askedIs above below place partedBy)) (rest := []) (st1 := [.int (M_X7_isRow x2)]) (ws1 := (WModel G a now kept isKept rows rowLong texts textLong found taken anew hand steps shares choices values latest askedIs above below place partedBy)) dX7_share_13 (c_X7_isRow rfl) pk_X7_isRow ml_X7_75 rfl rfl rfl rfl rfl rfl rfl ?_
    refine x_if_ne 21 dX7_share_16 (by decide) (fun c21 => ?_) (fun c21 => ?_)
    · have h := x_neg c21 h
      refine x_aload_n dX7_share_21 0 rfl rfl ?_
      refine x_get (ci := 5) 0 0 dX7_share_22 fl_X7_7 inX7 rfl (by decide) ⟨rfl, rfl, rfl⟩ rfl rfl ?_
      refine x_iconst 0 dX7_share_25 (by decide) ?_
      refine x_iald 0 (q0 := 1) dX7_share_26 (by decide) rfl (by decide) ?_
      refine x_if_ne 33 dX7_share_27 (by decide) (fun c22 => ?_) (fun c22 => ?_)
      · have h := x_neg c22 h
        refine x_iload_n dX7_share_33 1 rfl rfl ?_
        refine x_istore_n [(3, .int x1), (0, .ref (a 0)), (1, .int x1), (2, .int x2)] dX7_share_34 rfl (by decide) rfl ?_
        refine x_iconst 1 dX7_share_35 (by decide) ?_
        refine x_istore [(4, .int (1 : Int32)), (3, .int x1), (0, .ref (a 0)), (1, .int x1), (2, .int x2)] dX7_share_36 (by decide) rfl ?_
        refine x_iconst 0 dX7_share_38 (by decide) ?_
        refine x_istore [(5, .int (0 : Int32)), (4, .int (1 : Int32)), (3, .int x1), (0, .ref (a 0)), (1, .int x1), (2, .int x2)] dX7_share_39 (by decide) rfl ?_
        refine x_lv [3, 5, 2, 1, 0] rfl ?_
        exact w_X7_share_b41  _ _ _ _ _ _ _ _ h
      · have h := x_pos c22 h
        refine x_bipush (-4 : Int32) dX7_share_30 (by decide) ?_
        cases h
        exact x_ireturn dX7_share_32 rfl (x_is.rf _ _)
    · have h := x_pos c21 h
      refine x_iconst (-1 : Int32) dX7_share_19 (by decide) ?_
      cases h
      exact x_ireturn dX7_share_20 rfl (x_is.rf _ _)
theorem pk_X7_refusesPairs : x_pv RX7 yX7_refusesPairs cX7_refusesPairs 3 (some .int) 1 := ⟨⟨co_X7_refusesPairs, ni_X7, by decide, by decide +kernel⟩, im_X7_refusesPairs, se_X7_refusesPairs⟩
def M_X7_refusesPairs_b46 (rows : (Nat → Int32)) (rowLong : (Nat → Int32)) (found : (Nat → Int32)) (latest : Int32) : Option (Int32 × (Nat → Int32) × Int32) :=
  (M_X7_finds found latest (5 : Int32)).bind fun r1 =>
  some (r1.1, r1.2.1, r1.2.2)
set_option maxHeartbeats 4000000 in
set_option maxRecDepth 100000 in
theorem w_X7_refusesPairs_b46 {G : x_G} {l : Launch} {a : Nat → Nat} {rows : (Nat → Int32)} {rowLong : (Nat → Int32)} {now : (Nat → Int32)} {kept : (Nat → Int32)} {isKept : (Nat → Int32)} {texts : (Nat → Int32)} {textLong : (Nat → Int32)} {taken : (Nat → Int32)} {anew : (Nat → Int32)} {hand : (Nat → Int32)} {steps : (Nat → Int32)} {shares : (Nat → Int32)} {choices : (Nat → Int32)} {values : (Nat → Int32)} {askedIs : Int32} {above : Int64} {below : Int64} {place : Int32} {partedBy : Int32} {res : Int32 × (Nat → Int32) × Int32} (found : (Nat → Int32)) (latest : Int32) (h : M_X7_refusesPairs_b46 rows rowLong found latest = some res) : X G l RX7 cX7_refusesPairs 3 (x_R 2 0 0) (x_Cm G (some .int) false (x_is (some (.int res.1)) (WModel G a now kept isKept rows rowLong texts textLong res.2.1 taken anew hand steps shares choices values res.2.2 askedIs above below place partedBy)) 0 0) 0 0 46 [(0, .ref (a 0))] [] (WModel G a now kept isKept rows rowLong texts textLong found taken anew hand steps shares choices values latest askedIs above below place partedBy) := by
  unfold M_X7_refusesPairs_b46 at h
  refine x_aload_n dX7_refusesPairs_46 0 rfl rfl ?_
  refine x_iconst 5 dX7_refusesPairs_47 (by decide) ?_
  obtain ⟨r1, e2, h⟩ := x_bind h
  refine x_cV (As := [.int (5 : Int32)]) (wc := (WModel G a now kept isKept rows rowLong texts textLong found taken anew hand steps shares choices values latest askedIs above below place partedBy)) (w1 := (WModel G a now kept isKept rows rowLong texts textLong r1.2.1 taken anew hand steps shares choices values r1.2.2 askedIs above below place partedBy)) (pre := []) (post := []) (rest := []) (st1 := [.int r1.1]) (ws1 := (WModel G a now kept isKept rows rowLong texts textLong r1.2.1 taken anew hand steps shares choices values r1.2.2 askedIs above below place partedBy)) (ci := 5) 0 dX7_refusesPairs_48 (c_X7_finds (a := a) e2) pk_X7_finds ml_X7_79 (x_full _) rfl rfl rfl rfl rfl rfl rfl rfl (x_full _).symm ?_
  cases h
  exact x_ireturn dX7_refusesPairs_51 rfl (x_is.rf _ _)
def M_X7_refusesPairs_b54 (rows : (Nat → Int32)) (rowLong : (Nat → Int32)) : Nat → (Nat → Int32) → Int32 → Int32 → Int32 → Option (Int32 × (Nat → Int32) × Int32)
  | 0, _, _, _, _ => none
  | n + 1, found, latest, x1, x2 =>
    if inb x1 6 then
    if (rowLong x1.toNatClampNeg) ≤ x2 then
    (some ((0 : Int32), found, latest))
    else
    (if inb (((40 : Int32) * x1) + x2) 240 then
    if (M_X7_in ((rows (((40 : Int32) * x1) + x2).toNatClampNeg).toInt64) (0 : Int64) (99 : Int64)) = 0 then
    ((M_X7_finds found latest (3 : Int32)).bind fun r7 =>
    some (r7.1, r7.2.1, r7.2.2))
    else
    (M_X7_refusesPairs_b54 rows rowLong n found latest x1 (x2 + (1 : Int32)))
    else none)
    else none
set_option maxHeartbeats 4000000 in
set_option maxRecDepth 100000 in
theorem w_X7_refusesPairs_b54 {G : x_G} {l : Launch} {a : Nat → Nat} {rows : (Nat → Int32)} {rowLong : (Nat → Int32)} {now : (Nat → Int32)} {kept : (Nat → Int32)} {isKept : (Nat → Int32)} {texts : (Nat → Int32)} {textLong : (Nat → Int32)} {taken : (Nat → Int32)} {anew : (Nat → Int32)} {hand : (Nat → Int32)} {steps : (Nat → Int32)} {shares : (Nat → Int32)} {choices : (Nat → Int32)} {values : (Nat → Int32)} {askedIs : Int32} {above : Int64} {below : Int64} {place : Int32} {partedBy : Int32} {res : Int32 × (Nat → Int32) × Int32} : ∀ (n : Nat) (found : (Nat → Int32)) (latest : Int32) (x1 : Int32) (x2 : Int32), M_X7_refusesPairs_b54 rows rowLong n found latest x1 x2 = some res → X G l RX7 cX7_refusesPairs 3 (x_R 2 0 0) (x_Cm G (some .int) false (x_is (some (.int res.1)) (WModel G a now kept isKept rows rowLong texts textLong res.2.1 taken anew hand steps shares choices values res.2.2 askedIs above below place partedBy)) 0 0) 0 0 54 [(0, .ref (a 0)), (1, .int x1), (2, .int x2)] [] (WModel G a now kept isKept rows rowLong texts textLong found taken anew hand steps shares choices values latest askedIs above below place partedBy) := by
  intro n
  induction n with
  | zero =>
    intro _ _ _ _ h
    cases h
  | succ n ih =>
    intro found latest x1 x2 h
    rw [M_X7_refusesPairs_b54] at h
    refine x_iload_n dX7_refusesPairs_54 2 rfl rfl ?_
    refine x_aload_n dX7_refusesPairs_55 0 rfl rfl ?_
    refine x_get (ci := 5) 4 0 dX7_refusesPairs_56 fl_X7_23 inX7 rfl (by decide) ⟨rfl, rfl, rfl⟩ rfl rfl ?_
    refine x_iload_n dX7_refusesPairs_59 1 rfl rfl ?_
    obtain ⟨b3, h⟩ := x_guard h
    refine x_iald x1.toNatClampNeg (q0 := 5) dX7_refusesPairs_60 rfl rfl b3 ?_
    refine x_icmp_ge 98 dX7_refusesPairs_61 (by decide) (fun c4 => ?_) (fun c4 => ?_)
    · have h := x_pos c4 h
      refine x_iconst 0 dX7_refusesPairs_98 (by decide) ?_
      cases h
      exact x_ireturn dX7_refusesPairs_99 rfl (x_is.rf _ _)
    · have h := x_neg c4 h
      refine x_aload_n dX7_refusesPairs_64 0 rfl rfl ?_
      refine x_get (ci := 5) 3 0 dX7_refusesPairs_65 fl_X7_20 inX7 rfl (by decide) ⟨rfl, rfl, rfl⟩ rfl rfl ?_
      refine x_bipush 40 dX7_refusesPairs_68 (by decide) ?_
      refine x_iload_n dX7_refusesPairs_70 1 rfl rfl ?_
      refine x_imul dX7_refusesPairs_71 ?_
      refine x_iload_n dX7_refusesPairs_72 2 rfl rfl ?_
      refine x_iadd dX7_refusesPairs_73 ?_
      obtain ⟨b5, h⟩ := x_guard h
      refine x_iald (((40 : Int32) * x1) + x2).toNatClampNeg (q0 := 4) dX7_refusesPairs_74 rfl rfl b5 ?_
      refine x_i2l dX7_refusesPairs_75 ?_
      refine x_lconst 0 dX7_refusesPairs_76 (by decide) ?_
      refine x_ldc2 dX7_refusesPairs_77 kl_X7_191 ?_
      refine x_cS (As := [.long ((rows (((40 : Int32) * x1) + x2).toNatClampNeg).toInt64), .long (0 : Int64), .long (99 : Int64)]) (wc := ([] : va_W)) (w1 := ([] : va_W)) (pre := []) (post := (WModel G a now kept isKept rows rowLong texts textLong found taken anew hand steps shares choices values latest askedIs above below place partedBy)) (rest := []) (st1 := [.int (M_X7_in ((rows (((40 : Int32) * x1) + x2).toNatClampNeg).toInt64) (0 : Int64) (99 : Int64))]) (ws1 := (WModel G a now kept isKept rows rowLong texts textLong found taken anew hand steps shares choices values latest askedIs above below place partedBy)) dX7_refusesPairs_80 (c_X7_in rfl) pk_X7_in ml_X7_69 rfl rfl rfl rfl rfl rfl rfl ?_
      refine x_if_ne 92 dX7_refusesPairs_83 (by decide) (fun c6 => ?_) (fun c6 => ?_)
      · have h := x_neg c6 h
        refine x_iinc (j := 2) (1 : Int32) [(2, .int (x2 + (1 : Int32))), (0, .ref (a 0)), (1, .int x1)] dX7_refusesPairs_92 (by decide) rfl (by decide) rfl ?_
        refine x_goto 54 dX7_refusesPairs_95 (by decide) ?_
        refine x_lv [1, 2, 0] rfl ?_
        exact ih _ _ _ _ h
      · have h := x_pos c6 h
        refine x_aload_n dX7_refusesPairs_86 0 rfl rfl ?_
        refine x_iconst 3 dX7_refusesPairs_87 (by decide) ?_
        obtain ⟨r7, e8, h⟩ := x_bind h
        refine x_cV (As := [.int (3 : Int32)]) (wc := (WModel G a now kept isKept rows rowLong texts textLong found taken anew hand steps shares choices values latest askedIs above below place partedBy)) (w1 := (WModel G a now kept isKept rows rowLong texts textLong r7.2.1 taken anew hand steps shares choices values r7.2.2 askedIs above below place partedBy)) (pre := []) (post := []) (rest := []) (st1 := [.int r7.1]) (ws1 := (WModel G a now kept isKept rows rowLong texts textLong r7.2.1 taken anew hand steps shares choices values r7.2.2 askedIs above below place partedBy)) (ci := 5) 0 dX7_refusesPairs_88 (c_X7_finds (a := a) e8) pk_X7_finds ml_X7_79 (x_full _) rfl rfl rfl rfl rfl rfl rfl rfl (x_full _).symm ?_
        cases h
        exact x_ireturn dX7_refusesPairs_91 rfl (x_is.rf _ _)
def M_X7_refusesPairs (rows : (Nat → Int32)) (rowLong : (Nat → Int32)) (found : (Nat → Int32)) (latest : Int32) (x1 : Int32) : Option (Int32 × (Nat → Int32) × Int32) :=
  if (M_X7_isRow x1) = 0 then
  (some ((-1 : Int32), found, latest))
  else
  (if inb x1 6 then
  if 0 ≤ (rowLong x1.toNatClampNeg) then
  (if ((rowLong x1.toNatClampNeg) - (rowLong x1.toNatClampNeg) / (2 : Int32) * (2 : Int32)) = 0 then
  (if (rowLong x1.toNatClampNeg) ≤ (16 : Int32) then
  (M_X7_refusesPairs_b54 rows rowLong x_fuel found latest x1 (0 : Int32))
  else
  (M_X7_refusesPairs_b46 rows rowLong found latest))
  else
  (M_X7_refusesPairs_b46 rows rowLong found latest))
  else
  ((M_X7_finds found latest (1 : Int32)).bind fun r14 =>
  some (r14.1, r14.2.1, r14.2.2))
  else none)
set_option maxHeartbeats 4000000 in
set_option maxRecDepth 100000 in
theorem c_X7_refusesPairs {G : x_G} {l : Launch} {a : Nat → Nat} {rows : (Nat → Int32)} {rowLong : (Nat → Int32)} {now : (Nat → Int32)} {kept : (Nat → Int32)} {isKept : (Nat → Int32)} {texts : (Nat → Int32)} {textLong : (Nat → Int32)} {taken : (Nat → Int32)} {anew : (Nat → Int32)} {hand : (Nat → Int32)} {steps : (Nat → Int32)} {shares : (Nat → Int32)} {choices : (Nat → Int32)} {values : (Nat → Int32)} {askedIs : Int32} {above : Int64} {below : Int64} {place : Int32} {partedBy : Int32} {found : (Nat → Int32)} {latest : Int32} {x1 : Int32} {res : Int32 × (Nat → Int32) × Int32} (h : M_X7_refusesPairs rows rowLong found latest x1 = some res) : x_M G l yX7_refusesPairs cX7_refusesPairs 3 (some .int) (2) 0 0 [.ref (a 0), .int x1] (WModel G a now kept isKept rows rowLong texts textLong found taken anew hand steps shares choices values latest askedIs above below place partedBy) (x_is (some (.int res.1)) (WModel G a now kept isKept rows rowLong texts textLong res.2.1 taken anew hand steps shares choices values res.2.2 askedIs above below place partedBy)) := by
  unfold M_X7_refusesPairs at h
  refine x_enter (ini := false) (by decide) rfl (by decide) rfl (Nat.le_of_ble_eq_true rfl) ?_
  refine x_iload_n dX7_refusesPairs_0 1 rfl rfl ?_
  refine x_cS (As := [.int x1]) (wc := ([] : va_W)) (w1 := ([] : va_W)) (pre := []) (post := (WModel G a now kept isKept rows rowLong texts textLong found taken anew hand steps shares choices values latest askedIs above below place partedBy)) (rest := []) (st1 := [.int (M_X7_isRow x1)]) (ws1 := (WModel G a now kept isKept rows rowLong texts textLong found taken anew hand steps shares choices values latest askedIs above below place partedBy)) dX7_refusesPairs_1 (c_X7_isRow rfl) pk_X7_isRow ml_X7_75 rfl rfl rfl rfl rfl rfl rfl ?_
  refine x_if_ne 9 dX7_refusesPairs_4 (by decide) (fun c9 => ?_) (fun c9 => ?_)
  · have h := x_neg c9 h
    refine x_aload_n dX7_refusesPairs_9 0 rfl rfl ?_
    refine x_get (ci := 5) 4 0 dX7_refusesPairs_10 fl_X7_23 inX7 rfl (by decide) ⟨rfl, rfl, rfl⟩ rfl rfl ?_
    refine x_iload_n dX7_refusesPairs_13 1 rfl rfl ?_
    obtain ⟨b10, h⟩ := x_guard h
    refine x_iald x1.toNatClampNeg (q0 := 5) dX7_refusesPairs_14 rfl rfl b10 ?_
    refine x_if_ge 24 dX7_refusesPairs_15 (by decide) (fun c11 => ?_) (fun c11 => ?_)
    · have h := x_pos c11 h
      refine x_aload_n dX7_refusesPairs_24 0 rfl rfl ?_
      refine x_get (ci := 5) 4 0 dX7_refusesPairs_25 fl_X7_23 inX7 rfl (by decide) ⟨rfl, rfl, rfl⟩ rfl rfl ?_
      refine x_iload_n dX7_refusesPairs_28 1 rfl rfl ?_
      refine x_iald x1.toNatClampNeg (q0 := 5) dX7_refusesPairs_29 rfl rfl b10 ?_
      refine x_iconst 2 dX7_refusesPairs_30 (by decide) ?_
      refine x_irem dX7_refusesPairs_31 (by decide) ?_
      refine x_if_ne 46 dX7_refusesPairs_32 (by decide) (fun c12 => ?_) (fun c12 => ?_)
      · have h := x_neg c12 h
        refine x_lv [0] rfl ?_
        exact w_X7_refusesPairs_b46  _ _ h
      · have h := x_pos c12 h
        refine x_aload_n dX7_refusesPairs_35 0 rfl rfl ?_
        refine x_get (ci := 5) 4 0 dX7_refusesPairs_36 fl_X7_23 inX7 rfl (by decide) ⟨rfl, rfl, rfl⟩ rfl rfl ?_
        refine x_iload_n dX7_refusesPairs_39 1 rfl rfl ?_
        refine x_iald x1.toNatClampNeg (q0 := 5) dX7_refusesPairs_40 rfl rfl b10 ?_
        refine x_bipush 16 dX7_refusesPairs_41 (by decide) ?_
        refine x_icmp_le 52 dX7_refusesPairs_43 (by decide) (fun c13 => ?_) (fun c13 => ?_)
        · have h := x_pos c13 h
          refine x_iconst 0 dX7_refusesPairs_52 (by decide) ?_
          refine x_istore_n [(2, .int (0 : Int32)), (0, .ref (a 0)), (1, .int x1)] dX7_refusesPairs_53 rfl (by decide) rfl ?_
          refine x_lv [1, 2, 0] rfl ?_
          exact w_X7_refusesPairs_b54  _ _ _ _ _ h
        · have h := x_neg c13 h
          refine x_lv [0] rfl ?_
          exact w_X7_refusesPairs_b46  _ _ h
    · have h := x_neg c11 h
      refine x_aload_n dX7_refusesPairs_18 0 rfl rfl ?_
      refine x_iconst 1 dX7_refusesPairs_19 (by decide) ?_
      obtain ⟨r14, e15, h⟩ := x_bind h
      refine x_cV (As := [.int (1 : Int32)]) (wc := (WModel G a now kept isKept rows rowLong texts textLong found taken anew hand steps shares choices values latest askedIs above below place partedBy)) (w1 := (WModel G a now kept isKept rows rowLong texts textLong r14.2.1 taken anew hand steps shares choices values r14.2.2 askedIs above below place partedBy)) (pre := []) (post := []) (rest := []) (st1 := [.int r14.1]) (ws1 := (WModel G a now kept isKept rows rowLong texts textLong r14.2.1 taken anew hand steps shares choices values r14.2.2 askedIs above below place partedBy)) (ci := 5) 0 dX7_refusesPairs_20 (c_X7_finds (a := a) e15) pk_X7_finds ml_X7_79 (x_full _) rfl rfl rfl rfl rfl rfl rfl rfl (x_full _).symm ?_
      cases h
      exact x_ireturn dX7_refusesPairs_23 rfl (x_is.rf _ _)
  · have h := x_pos c9 h
    refine x_iconst (-1 : Int32) dX7_refusesPairs_7 (by decide) ?_
    cases h
    exact x_ireturn dX7_refusesPairs_8 rfl (x_is.rf _ _)
theorem pk_X7_kindsBy : x_pv RX7 yX7_kindsBy cX7_kindsBy 6 (some .int) 1 := ⟨⟨co_X7_kindsBy, ni_X7, by decide, by decide +kernel⟩, im_X7_kindsBy, se_X7_kindsBy⟩
def M_X7_kindsBy_b72 (rows : (Nat → Int32)) (rowLong : (Nat → Int32)) (k4 : Int32 → Int32 → Int32 → Option (Int32)) (k16 : Int32 → Int32 → Int32 → Int32 → Int32 → Option (Int32)) (x1 : Int32) (x2 : Int32) (x3 : Int32) (x5 : Int32) (s0 : Int32) : Option (Int32) :=
  k16 x1 x2 x3 s0 (x5 + (2 : Int32))
set_option maxHeartbeats 4000000 in
set_option maxRecDepth 100000 in
theorem w_X7_kindsBy_b72 {G : x_G} {l : Launch} {a : Nat → Nat} {rows : (Nat → Int32)} {rowLong : (Nat → Int32)} {now : (Nat → Int32)} {kept : (Nat → Int32)} {isKept : (Nat → Int32)} {texts : (Nat → Int32)} {textLong : (Nat → Int32)} {found : (Nat → Int32)} {taken : (Nat → Int32)} {anew : (Nat → Int32)} {hand : (Nat → Int32)} {steps : (Nat → Int32)} {shares : (Nat → Int32)} {choices : (Nat → Int32)} {values : (Nat → Int32)} {latest : Int32} {askedIs : Int32} {above : Int64} {below : Int64} {place : Int32} {partedBy : Int32} {k4 : Int32 → Int32 → Int32 → Option (Int32)} {k16 : Int32 → Int32 → Int32 → Int32 → Int32 → Option (Int32)} {res : Int32} (hk4 : ∀ (x1 : Int32) (x2 : Int32) (x3 : Int32), k4 x1 x2 x3 = some res → X G l RX7 cX7_kindsBy 6 (x_R 1 0 0) (x_Cm G (some .int) false (x_is (some (.int res)) (WModel G a now kept isKept rows rowLong texts textLong found taken anew hand steps shares choices values latest askedIs above below place partedBy)) 0 0) 0 0 4 [(0, .ref (a 0)), (1, .int x1), (2, .int x2), (3, .int x3)] [] (WModel G a now kept isKept rows rowLong texts textLong found taken anew hand steps shares choices values latest askedIs above below place partedBy)) (hk16 : ∀ (x1 : Int32) (x2 : Int32) (x3 : Int32) (x4 : Int32) (x5 : Int32), k16 x1 x2 x3 x4 x5 = some res → X G l RX7 cX7_kindsBy 6 (x_R 1 0 0) (x_Cm G (some .int) false (x_is (some (.int res)) (WModel G a now kept isKept rows rowLong texts textLong found taken anew hand steps shares choices values latest askedIs above below place partedBy)) 0 0) 0 0 16 [(0, .ref (a 0)), (1, .int x1), (2, .int x2), (3, .int x3), (4, .int x4), (5, .int x5)] [] (WModel G a now kept isKept rows rowLong texts textLong found taken anew hand steps shares choices values latest askedIs above below place partedBy)) (x1 : Int32) (x2 : Int32) (x3 : Int32) (x5 : Int32) (s0 : Int32) (h : M_X7_kindsBy_b72 rows rowLong k4 k16 x1 x2 x3 x5 s0 = some res) : X G l RX7 cX7_kindsBy 6 (x_R 1 0 0) (x_Cm G (some .int) false (x_is (some (.int res)) (WModel G a now kept isKept rows rowLong texts textLong found taken anew hand steps shares choices values latest askedIs above below place partedBy)) 0 0) 0 0 72 [(0, .ref (a 0)), (1, .int x1), (2, .int x2), (3, .int x3), (5, .int x5)] [.int s0] (WModel G a now kept isKept rows rowLong texts textLong found taken anew hand steps shares choices values latest askedIs above below place partedBy) := by
  unfold M_X7_kindsBy_b72 at h
  refine x_istore [(4, .int s0), (0, .ref (a 0)), (1, .int x1), (2, .int x2), (3, .int x3), (5, .int x5)] dX7_kindsBy_72 (by decide) rfl ?_
  refine x_iinc (j := 5) (2 : Int32) [(5, .int (x5 + (2 : Int32))), (4, .int s0), (0, .ref (a 0)), (1, .int x1), (2, .int x2), (3, .int x3)] dX7_kindsBy_74 (by decide) rfl (by decide) rfl ?_
  refine x_goto 16 dX7_kindsBy_77 (by decide) ?_
  refine x_lv [2, 3, 4, 5, 1, 0] rfl ?_
  exact hk16 _ _ _ _ _ h
def M_X7_kindsBy_b71 (rows : (Nat → Int32)) (rowLong : (Nat → Int32)) (k4 : Int32 → Int32 → Int32 → Option (Int32)) (k16 : Int32 → Int32 → Int32 → Int32 → Int32 → Option (Int32)) (x1 : Int32) (x2 : Int32) (x3 : Int32) (x5 : Int32) : Option (Int32) :=
  M_X7_kindsBy_b72 rows rowLong k4 k16 x1 x2 x3 x5 (0 : Int32)
set_option maxHeartbeats 4000000 in
set_option maxRecDepth 100000 in
theorem w_X7_kindsBy_b71 {G : x_G} {l : Launch} {a : Nat → Nat} {rows : (Nat → Int32)} {rowLong : (Nat → Int32)} {now : (Nat → Int32)} {kept : (Nat → Int32)} {isKept : (Nat → Int32)} {texts : (Nat → Int32)} {textLong : (Nat → Int32)} {found : (Nat → Int32)} {taken : (Nat → Int32)} {anew : (Nat → Int32)} {hand : (Nat → Int32)} {steps : (Nat → Int32)} {shares : (Nat → Int32)} {choices : (Nat → Int32)} {values : (Nat → Int32)} {latest : Int32} {askedIs : Int32} {above : Int64} {below : Int64} {place : Int32} {partedBy : Int32} {k4 : Int32 → Int32 → Int32 → Option (Int32)} {k16 : Int32 → Int32 → Int32 → Int32 → Int32 → Option (Int32)} {res : Int32} (hk4 : ∀ (x1 : Int32) (x2 : Int32) (x3 : Int32), k4 x1 x2 x3 = some res → X G l RX7 cX7_kindsBy 6 (x_R 1 0 0) (x_Cm G (some .int) false (x_is (some (.int res)) (WModel G a now kept isKept rows rowLong texts textLong found taken anew hand steps shares choices values latest askedIs above below place partedBy)) 0 0) 0 0 4 [(0, .ref (a 0)), (1, .int x1), (2, .int x2), (3, .int x3)] [] (WModel G a now kept isKept rows rowLong texts textLong found taken anew hand steps shares choices values latest askedIs above below place partedBy)) (hk16 : ∀ (x1 : Int32) (x2 : Int32) (x3 : Int32) (x4 : Int32) (x5 : Int32), k16 x1 x2 x3 x4 x5 = some res → X G l RX7 cX7_kindsBy 6 (x_R 1 0 0) (x_Cm G (some .int) false (x_is (some (.int res)) (WModel G a now kept isKept rows rowLong texts textLong found taken anew hand steps shares choices values latest askedIs above below place partedBy)) 0 0) 0 0 16 [(0, .ref (a 0)), (1, .int x1), (2, .int x2), (3, .int x3), (4, .int x4), (5, .int x5)] [] (WModel G a now kept isKept rows rowLong texts textLong found taken anew hand steps shares choices values latest askedIs above below place partedBy)) (x1 : Int32) (x2 : Int32) (x3 : Int32) (x5 : Int32) (h : M_X7_kindsBy_b71 rows rowLong k4 k16 x1 x2 x3 x5 = some res) : X G l RX7 cX7_kindsBy 6 (x_R 1 0 0) (x_Cm G (some .int) false (x_is (some (.int res)) (WModel G a now kept isKept rows rowLong texts textLong found taken anew hand steps shares choices values latest askedIs above below place partedBy)) 0 0) 0 0 71 [(0, .ref (a 0)), (1, .int x1), (2, .int x2), (3, .int x3), (5, .int x5)] [] (WModel G a now kept isKept rows rowLong texts textLong found taken anew hand steps shares choices values latest askedIs above below place partedBy) := by
  unfold M_X7_kindsBy_b71 at h
  refine x_iconst 0 dX7_kindsBy_71 (by decide) ?_
  exact w_X7_kindsBy_b72 hk4 hk16 _ _ _ _ _ h
def M_X7_kindsBy_b93 (rows : (Nat → Int32)) (rowLong : (Nat → Int32)) (k4 : Int32 → Int32 → Int32 → Option (Int32)) (x1 : Int32) (x3 : Int32) (s0 : Int32) (s1 : Int32) : Option (Int32) :=
  k4 x1 (s0 ||| s1) (x3 + (1 : Int32))
set_option maxHeartbeats 4000000 in
set_option maxRecDepth 100000 in
theorem w_X7_kindsBy_b93 {G : x_G} {l : Launch} {a : Nat → Nat} {rows : (Nat → Int32)} {rowLong : (Nat → Int32)} {now : (Nat → Int32)} {kept : (Nat → Int32)} {isKept : (Nat → Int32)} {texts : (Nat → Int32)} {textLong : (Nat → Int32)} {found : (Nat → Int32)} {taken : (Nat → Int32)} {anew : (Nat → Int32)} {hand : (Nat → Int32)} {steps : (Nat → Int32)} {shares : (Nat → Int32)} {choices : (Nat → Int32)} {values : (Nat → Int32)} {latest : Int32} {askedIs : Int32} {above : Int64} {below : Int64} {place : Int32} {partedBy : Int32} {k4 : Int32 → Int32 → Int32 → Option (Int32)} {res : Int32} (hk4 : ∀ (x1 : Int32) (x2 : Int32) (x3 : Int32), k4 x1 x2 x3 = some res → X G l RX7 cX7_kindsBy 6 (x_R 1 0 0) (x_Cm G (some .int) false (x_is (some (.int res)) (WModel G a now kept isKept rows rowLong texts textLong found taken anew hand steps shares choices values latest askedIs above below place partedBy)) 0 0) 0 0 4 [(0, .ref (a 0)), (1, .int x1), (2, .int x2), (3, .int x3)] [] (WModel G a now kept isKept rows rowLong texts textLong found taken anew hand steps shares choices values latest askedIs above below place partedBy)) (x1 : Int32) (x3 : Int32) (s0 : Int32) (s1 : Int32) (h : M_X7_kindsBy_b93 rows rowLong k4 x1 x3 s0 s1 = some res) : X G l RX7 cX7_kindsBy 6 (x_R 1 0 0) (x_Cm G (some .int) false (x_is (some (.int res)) (WModel G a now kept isKept rows rowLong texts textLong found taken anew hand steps shares choices values latest askedIs above below place partedBy)) 0 0) 0 0 93 [(0, .ref (a 0)), (1, .int x1), (3, .int x3)] [.int s1, .int s0] (WModel G a now kept isKept rows rowLong texts textLong found taken anew hand steps shares choices values latest askedIs above below place partedBy) := by
  unfold M_X7_kindsBy_b93 at h
  refine x_ior dX7_kindsBy_93 ?_
  refine x_istore_n [(2, .int (s0 ||| s1)), (0, .ref (a 0)), (1, .int x1), (3, .int x3)] dX7_kindsBy_94 rfl (by decide) rfl ?_
  refine x_iinc (j := 3) (1 : Int32) [(3, .int (x3 + (1 : Int32))), (2, .int (s0 ||| s1)), (0, .ref (a 0)), (1, .int x1)] dX7_kindsBy_95 (by decide) rfl (by decide) rfl ?_
  refine x_goto 4 dX7_kindsBy_98 (by decide) ?_
  refine x_lv [2, 3, 1, 0] rfl ?_
  exact hk4 _ _ _ h
def M_X7_kindsBy_b16 (rows : (Nat → Int32)) (rowLong : (Nat → Int32)) (k4 : Int32 → Int32 → Int32 → Option (Int32)) : Nat → Int32 → Int32 → Int32 → Int32 → Int32 → Option (Int32)
  | 0, _, _, _, _, _ => none
  | n + 1, x1, x2, x3, x4, x5 =>
    if inb x1 6 then
    if (rowLong x1.toNatClampNeg) ≤ (x5 + (1 : Int32)) then
    (if x4 = 0 then
    (M_X7_kindsBy_b93 rows rowLong k4 x1 x3 x2 (0 : Int32))
    else
    (M_X7_kindsBy_b93 rows rowLong k4 x1 x3 x2 ((1 : Int32) <<< (x3 &&& (31 : Int32)))))
    else
    (if x4 = 0 then
    (M_X7_kindsBy_b71 rows rowLong k4 (fun (x1' : Int32) (x2' : Int32) (x3' : Int32) (x4' : Int32) (x5' : Int32) => M_X7_kindsBy_b16 rows rowLong k4 n x1' x2' x3' x4' x5') x1 x2 x3 x5)
    else
    (if inb (((40 : Int32) * x1) + x5) 240 then
    if inb ((((40 : Int32) * x1) + x5) + (1 : Int32)) 240 then
    if (M_X7_passesAs x3 (rows (((40 : Int32) * x1) + x5).toNatClampNeg)) = (rows ((((40 : Int32) * x1) + x5) + (1 : Int32)).toNatClampNeg) then
    (M_X7_kindsBy_b72 rows rowLong k4 (fun (x1' : Int32) (x2' : Int32) (x3' : Int32) (x4' : Int32) (x5' : Int32) => M_X7_kindsBy_b16 rows rowLong k4 n x1' x2' x3' x4' x5') x1 x2 x3 x5 (1 : Int32))
    else
    (M_X7_kindsBy_b71 rows rowLong k4 (fun (x1' : Int32) (x2' : Int32) (x3' : Int32) (x4' : Int32) (x5' : Int32) => M_X7_kindsBy_b16 rows rowLong k4 n x1' x2' x3' x4' x5') x1 x2 x3 x5)
    else none
    else none))
    else none
set_option maxHeartbeats 4000000 in
set_option maxRecDepth 100000 in
theorem w_X7_kindsBy_b16 {G : x_G} {l : Launch} {a : Nat → Nat} {rows : (Nat → Int32)} {rowLong : (Nat → Int32)} {now : (Nat → Int32)} {kept : (Nat → Int32)} {isKept : (Nat → Int32)} {texts : (Nat → Int32)} {textLong : (Nat → Int32)} {found : (Nat → Int32)} {taken : (Nat → Int32)} {anew : (Nat → Int32)} {hand : (Nat → Int32)} {steps : (Nat → Int32)} {shares : (Nat → Int32)} {choices : (Nat → Int32)} {values : (Nat → Int32)} {latest : Int32} {askedIs : Int32} {above : Int64} {below : Int64} {place : Int32} {partedBy : Int32} {k4 : Int32 → Int32 → Int32 → Option (Int32)} {res : Int32} (hk4 : ∀ (x1 : Int32) (x2 : Int32) (x3 : Int32), k4 x1 x2 x3 = some res → X G l RX7 cX7_kindsBy 6 (x_R 1 0 0) (x_Cm G (some .int) false (x_is (some (.int res)) (WModel G a now kept isKept rows rowLong texts textLong found taken anew hand steps shares choices values latest askedIs above below place partedBy)) 0 0) 0 0 4 [(0, .ref (a 0)), (1, .int x1), (2, .int x2), (3, .int x3)] [] (WModel G a now kept isKept rows rowLong texts textLong found taken anew hand steps shares choices values latest askedIs above below place partedBy)) : ∀ (n : Nat) (x1 : Int32) (x2 : Int32) (x3 : Int32) (x4 : Int32) (x5 : Int32), M_X7_kindsBy_b16 rows rowLong k4 n x1 x2 x3 x4 x5 = some res → X G l RX7 cX7_kindsBy 6 (x_R 1 0 0) (x_Cm G (some .int) false (x_is (some (.int res)) (WModel G a now kept isKept rows rowLong texts textLong found taken anew hand steps shares choices values latest askedIs above below place partedBy)) 0 0) 0 0 16 [(0, .ref (a 0)), (1, .int x1), (2, .int x2), (3, .int x3), (4, .int x4), (5, .int x5)] [] (WModel G a now kept isKept rows rowLong texts textLong found taken anew hand steps shares choices values latest askedIs above below place partedBy) := by
  intro n
  induction n with
  | zero =>
    intro _ _ _ _ _ h
    cases h
  | succ n ih =>
    intro x1 x2 x3 x4 x5 h
    rw [M_X7_kindsBy_b16] at h
    refine x_iload dX7_kindsBy_16 5 rfl ?_
    refine x_iconst 1 dX7_kindsBy_18 (by decide) ?_
    refine x_iadd dX7_kindsBy_19 ?_
    refine x_aload_n dX7_kindsBy_20 0 rfl rfl ?_
    refine x_get (ci := 5) 4 0 dX7_kindsBy_21 fl_X7_23 inX7 rfl (by decide) ⟨rfl, rfl, rfl⟩ rfl rfl ?_
    refine x_iload_n dX7_kindsBy_24 1 rfl rfl ?_
    obtain ⟨b2, h⟩ := x_guard h
    refine x_iald x1.toNatClampNeg (q0 := 5) dX7_kindsBy_25 rfl rfl b2 ?_
    refine x_icmp_ge 80 dX7_kindsBy_26 (by decide) (fun c3 => ?_) (fun c3 => ?_)
    · have h := x_pos c3 h
      refine x_iload_n dX7_kindsBy_80 2 rfl rfl ?_
      refine x_iload dX7_kindsBy_81 4 rfl ?_
      refine x_if_eq 92 dX7_kindsBy_83 (by decide) (fun c4 => ?_) (fun c4 => ?_)
      · have h := x_pos c4 h
        refine x_iconst 0 dX7_kindsBy_92 (by decide) ?_
        refine x_lv [0, 1, 3] rfl ?_
        exact w_X7_kindsBy_b93 hk4 _ _ _ _ h
      · have h := x_neg c4 h
        refine x_iconst 1 dX7_kindsBy_86 (by decide) ?_
        refine x_iload_n dX7_kindsBy_87 3 rfl rfl ?_
        refine x_ishl dX7_kindsBy_88 ?_
        refine x_goto 93 dX7_kindsBy_89 (by decide) ?_
        refine x_lv [0, 1, 3] rfl ?_
        exact w_X7_kindsBy_b93 hk4 _ _ _ _ h
    · have h := x_neg c3 h
      refine x_iload dX7_kindsBy_29 4 rfl ?_
      refine x_if_eq 71 dX7_kindsBy_31 (by decide) (fun c5 => ?_) (fun c5 => ?_)
      · have h := x_pos c5 h
        refine x_lv [0, 1, 2, 3, 5] rfl ?_
        exact w_X7_kindsBy_b71 hk4 (fun x1' x2' x3' x4' x5' h => ih x1' x2' x3' x4' x5' h) _ _ _ _ h
      · have h := x_neg c5 h
        refine x_iload_n dX7_kindsBy_34 3 rfl rfl ?_
        refine x_aload_n dX7_kindsBy_35 0 rfl rfl ?_
        refine x_get (ci := 5) 3 0 dX7_kindsBy_36 fl_X7_20 inX7 rfl (by decide) ⟨rfl, rfl, rfl⟩ rfl rfl ?_
        refine x_bipush 40 dX7_kindsBy_39 (by decide) ?_
        refine x_iload_n dX7_kindsBy_41 1 rfl rfl ?_
        refine x_imul dX7_kindsBy_42 ?_
        refine x_iload dX7_kindsBy_43 5 rfl ?_
        refine x_iadd dX7_kindsBy_45 ?_
        obtain ⟨b6, h⟩ := x_guard h
        refine x_iald (((40 : Int32) * x1) + x5).toNatClampNeg (q0 := 4) dX7_kindsBy_46 rfl rfl b6 ?_
        refine x_cS (As := [.int x3, .int (rows (((40 : Int32) * x1) + x5).toNatClampNeg)]) (wc := ([] : va_W)) (w1 := ([] : va_W)) (pre := []) (post := (WModel G a now kept isKept rows rowLong texts textLong found taken anew hand steps shares choices values latest askedIs above below place partedBy)) (rest := []) (st1 := [.int (M_X7_passesAs x3 (rows (((40 : Int32) * x1) + x5).toNatClampNeg))]) (ws1 := (WModel G a now kept isKept rows rowLong texts textLong found taken anew hand steps shares choices values latest askedIs above below place partedBy)) dX7_kindsBy_47 (c_X7_passesAs rfl) pk_X7_passesAs ml_X7_140 rfl rfl rfl rfl rfl rfl rfl ?_
        refine x_aload_n dX7_kindsBy_50 0 rfl rfl ?_
        refine x_get (ci := 5) 3 0 dX7_kindsBy_51 fl_X7_20 inX7 rfl (by decide) ⟨rfl, rfl, rfl⟩ rfl rfl ?_
        refine x_bipush 40 dX7_kindsBy_54 (by decide) ?_
        refine x_iload_n dX7_kindsBy_56 1 rfl rfl ?_
        refine x_imul dX7_kindsBy_57 ?_
        refine x_iload dX7_kindsBy_58 5 rfl ?_
        refine x_iadd dX7_kindsBy_60 ?_
        refine x_iconst 1 dX7_kindsBy_61 (by decide) ?_
        refine x_iadd dX7_kindsBy_62 ?_
        obtain ⟨b7, h⟩ := x_guard h
        refine x_iald ((((40 : Int32) * x1) + x5) + (1 : Int32)).toNatClampNeg (q0 := 4) dX7_kindsBy_63 rfl rfl b7 ?_
        refine x_icmp_ne 71 dX7_kindsBy_64 (by decide) (fun c8 => ?_) (fun c8 => ?_)
        · have h := x_neg c8 h
          refine x_lv [0, 1, 2, 3, 5] rfl ?_
          exact w_X7_kindsBy_b71 hk4 (fun x1' x2' x3' x4' x5' h => ih x1' x2' x3' x4' x5' h) _ _ _ _ h
        · have h := x_pos c8 h
          refine x_iconst 1 dX7_kindsBy_67 (by decide) ?_
          refine x_goto 72 dX7_kindsBy_68 (by decide) ?_
          refine x_lv [0, 1, 2, 3, 5] rfl ?_
          exact w_X7_kindsBy_b72 hk4 (fun x1' x2' x3' x4' x5' h => ih x1' x2' x3' x4' x5' h) _ _ _ _ _ h
def M_X7_kindsBy_b4 (rows : (Nat → Int32)) (rowLong : (Nat → Int32)) : Nat → Int32 → Int32 → Int32 → Option (Int32)
  | 0, _, _, _ => none
  | n + 1, x1, x2, x3 =>
    if (6 : Int32) ≤ x3 then
    (some (x2))
    else
    (M_X7_kindsBy_b16 rows rowLong (fun (x1' : Int32) (x2' : Int32) (x3' : Int32) => M_X7_kindsBy_b4 rows rowLong n x1' x2' x3') x_fuel x1 x2 x3 (1 : Int32) (0 : Int32))
set_option maxHeartbeats 4000000 in
set_option maxRecDepth 100000 in
theorem w_X7_kindsBy_b4 {G : x_G} {l : Launch} {a : Nat → Nat} {rows : (Nat → Int32)} {rowLong : (Nat → Int32)} {now : (Nat → Int32)} {kept : (Nat → Int32)} {isKept : (Nat → Int32)} {texts : (Nat → Int32)} {textLong : (Nat → Int32)} {found : (Nat → Int32)} {taken : (Nat → Int32)} {anew : (Nat → Int32)} {hand : (Nat → Int32)} {steps : (Nat → Int32)} {shares : (Nat → Int32)} {choices : (Nat → Int32)} {values : (Nat → Int32)} {latest : Int32} {askedIs : Int32} {above : Int64} {below : Int64} {place : Int32} {partedBy : Int32} {res : Int32} : ∀ (n : Nat) (x1 : Int32) (x2 : Int32) (x3 : Int32), M_X7_kindsBy_b4 rows rowLong n x1 x2 x3 = some res → X G l RX7 cX7_kindsBy 6 (x_R 1 0 0) (x_Cm G (some .int) false (x_is (some (.int res)) (WModel G a now kept isKept rows rowLong texts textLong found taken anew hand steps shares choices values latest askedIs above below place partedBy)) 0 0) 0 0 4 [(0, .ref (a 0)), (1, .int x1), (2, .int x2), (3, .int x3)] [] (WModel G a now kept isKept rows rowLong texts textLong found taken anew hand steps shares choices values latest askedIs above below place partedBy) := by
  intro n
  induction n with
  | zero =>
    intro _ _ _ h
    cases h
  | succ n ih =>
    intro x1 x2 x3 h
    rw [M_X7_kindsBy_b4] at h
    refine x_iload_n dX7_kindsBy_4 3 rfl rfl ?_
    refine x_bipush 6 dX7_kindsBy_5 (by decide) ?_
    refine x_icmp_ge 101 dX7_kindsBy_7 (by decide) (fun c1 => ?_) (fun c1 => ?_)
    · have h := x_pos c1 h
      refine x_iload_n dX7_kindsBy_101 2 rfl rfl ?_
      cases h
      exact x_ireturn dX7_kindsBy_102 rfl (x_is.rf _ _)
    · have h := x_neg c1 h
      refine x_iconst 1 dX7_kindsBy_10 (by decide) ?_
      refine x_istore [(4, .int (1 : Int32)), (0, .ref (a 0)), (1, .int x1), (2, .int x2), (3, .int x3)] dX7_kindsBy_11 (by decide) rfl ?_
      refine x_iconst 0 dX7_kindsBy_13 (by decide) ?_
      refine x_istore [(5, .int (0 : Int32)), (4, .int (1 : Int32)), (0, .ref (a 0)), (1, .int x1), (2, .int x2), (3, .int x3)] dX7_kindsBy_14 (by decide) rfl ?_
      refine x_lv [2, 3, 4, 5, 1, 0] rfl ?_
      exact w_X7_kindsBy_b16 (fun x1' x2' x3' h => ih x1' x2' x3' h) _ _ _ _ _ _ h
def M_X7_kindsBy (rows : (Nat → Int32)) (rowLong : (Nat → Int32)) (x1 : Int32) : Option (Int32) :=
  M_X7_kindsBy_b4 rows rowLong x_fuel x1 (0 : Int32) (0 : Int32)
set_option maxHeartbeats 4000000 in
set_option maxRecDepth 100000 in
theorem c_X7_kindsBy {G : x_G} {l : Launch} {a : Nat → Nat} {rows : (Nat → Int32)} {rowLong : (Nat → Int32)} {now : (Nat → Int32)} {kept : (Nat → Int32)} {isKept : (Nat → Int32)} {texts : (Nat → Int32)} {textLong : (Nat → Int32)} {found : (Nat → Int32)} {taken : (Nat → Int32)} {anew : (Nat → Int32)} {hand : (Nat → Int32)} {steps : (Nat → Int32)} {shares : (Nat → Int32)} {choices : (Nat → Int32)} {values : (Nat → Int32)} {latest : Int32} {askedIs : Int32} {above : Int64} {below : Int64} {place : Int32} {partedBy : Int32} {x1 : Int32} {res : Int32} (h : M_X7_kindsBy rows rowLong x1 = some res) : x_M G l yX7_kindsBy cX7_kindsBy 6 (some .int) (1) 0 0 [.ref (a 0), .int x1] (WModel G a now kept isKept rows rowLong texts textLong found taken anew hand steps shares choices values latest askedIs above below place partedBy) (x_is (some (.int res)) (WModel G a now kept isKept rows rowLong texts textLong found taken anew hand steps shares choices values latest askedIs above below place partedBy)) := by
  unfold M_X7_kindsBy at h
  refine x_enter (ini := false) (by decide) rfl (by decide) rfl (Nat.le_of_ble_eq_true rfl) ?_
  refine x_iconst 0 dX7_kindsBy_0 (by decide) ?_
  refine x_istore_n [(2, .int (0 : Int32)), (0, .ref (a 0)), (1, .int x1)] dX7_kindsBy_1 rfl (by decide) rfl ?_
  refine x_iconst 0 dX7_kindsBy_2 (by decide) ?_
  refine x_istore_n [(3, .int (0 : Int32)), (2, .int (0 : Int32)), (0, .ref (a 0)), (1, .int x1)] dX7_kindsBy_3 rfl (by decide) rfl ?_
  refine x_lv [2, 3, 1, 0] rfl ?_
  exact w_X7_kindsBy_b4  _ _ _ _ h
theorem pk_X7_who : x_pv RX7 yX7_who cX7_who 6 (some .int) 1 := ⟨⟨co_X7_who, ni_X7, by decide, by decide +kernel⟩, im_X7_who, se_X7_who⟩
def M_X7_who_b61 (now : (Nat → Int32)) (rows : (Nat → Int32)) (rowLong : (Nat → Int32)) (k24 : (Nat → Int32) → Int32 → Int32 → Int32 → Int32 → Option (Int32 × (Nat → Int32) × Int32)) (found : (Nat → Int32)) (latest : Int32) (x4 : Int32) (x5 : Int32) (s0 : Int32) (s1 : Int32) : Option (Int32 × (Nat → Int32) × Int32) :=
  k24 found latest (s0 ||| s1) x4 (x5 + (1 : Int32))
set_option maxHeartbeats 4000000 in
set_option maxRecDepth 100000 in
theorem w_X7_who_b61 {G : x_G} {l : Launch} {a : Nat → Nat} {now : (Nat → Int32)} {rows : (Nat → Int32)} {rowLong : (Nat → Int32)} {kept : (Nat → Int32)} {isKept : (Nat → Int32)} {texts : (Nat → Int32)} {textLong : (Nat → Int32)} {taken : (Nat → Int32)} {anew : (Nat → Int32)} {hand : (Nat → Int32)} {steps : (Nat → Int32)} {shares : (Nat → Int32)} {choices : (Nat → Int32)} {values : (Nat → Int32)} {askedIs : Int32} {above : Int64} {below : Int64} {place : Int32} {partedBy : Int32} {k24 : (Nat → Int32) → Int32 → Int32 → Int32 → Int32 → Option (Int32 × (Nat → Int32) × Int32)} {res : Int32 × (Nat → Int32) × Int32} (hk24 : ∀ (found : (Nat → Int32)) (latest : Int32) (x3 : Int32) (x4 : Int32) (x5 : Int32), k24 found latest x3 x4 x5 = some res → X G l RX7 cX7_who 6 (x_R 3 0 0) (x_Cm G (some .int) false (x_is (some (.int res.1)) (WModel G a now kept isKept rows rowLong texts textLong res.2.1 taken anew hand steps shares choices values res.2.2 askedIs above below place partedBy)) 0 0) 0 0 24 [(0, .ref (a 0)), (3, .int x3), (4, .int x4), (5, .int x5)] [] (WModel G a now kept isKept rows rowLong texts textLong found taken anew hand steps shares choices values latest askedIs above below place partedBy)) (found : (Nat → Int32)) (latest : Int32) (x4 : Int32) (x5 : Int32) (s0 : Int32) (s1 : Int32) (h : M_X7_who_b61 now rows rowLong k24 found latest x4 x5 s0 s1 = some res) : X G l RX7 cX7_who 6 (x_R 3 0 0) (x_Cm G (some .int) false (x_is (some (.int res.1)) (WModel G a now kept isKept rows rowLong texts textLong res.2.1 taken anew hand steps shares choices values res.2.2 askedIs above below place partedBy)) 0 0) 0 0 61 [(0, .ref (a 0)), (4, .int x4), (5, .int x5)] [.int s1, .int s0] (WModel G a now kept isKept rows rowLong texts textLong found taken anew hand steps shares choices values latest askedIs above below place partedBy) := by
  unfold M_X7_who_b61 at h
  refine x_ior dX7_who_61 ?_
  refine x_istore_n [(3, .int (s0 ||| s1)), (0, .ref (a 0)), (4, .int x4), (5, .int x5)] dX7_who_62 rfl (by decide) rfl ?_
  refine x_iinc (j := 3) (1 : Int32) [(5, .int (x5 + (1 : Int32))), (3, .int (s0 ||| s1)), (0, .ref (a 0)), (4, .int x4)] dX7_who_63 (by decide) rfl (by decide) rfl ?_
  refine x_goto 24 dX7_who_66 (by decide) ?_
  refine x_lv [2, 1, 3, 0] rfl ?_
  exact hk24 _ _ _ _ _ h
def M_X7_who_b24 (now : (Nat → Int32)) (rows : (Nat → Int32)) (rowLong : (Nat → Int32)) : Nat → (Nat → Int32) → Int32 → Int32 → Int32 → Int32 → Option (Int32 × (Nat → Int32) × Int32)
  | 0, _, _, _, _, _ => none
  | n + 1, found, latest, x3, x4, x5 =>
    if (now 0) ≤ x5 then
    (some (x3, found, latest))
    else
    (if inb ((2 : Int32) + x5) 85 then
    if (M_X7_has x4 (now ((2 : Int32) + x5).toNatClampNeg)) = 0 then
    (M_X7_who_b61 now rows rowLong (fun (found' : (Nat → Int32)) (latest' : Int32) (x3' : Int32) (x4' : Int32) (x5' : Int32) => M_X7_who_b24 now rows rowLong n found' latest' x3' x4' x5') found latest x4 x5 x3 (0 : Int32))
    else
    (M_X7_who_b61 now rows rowLong (fun (found' : (Nat → Int32)) (latest' : Int32) (x3' : Int32) (x4' : Int32) (x5' : Int32) => M_X7_who_b24 now rows rowLong n found' latest' x3' x4' x5') found latest x4 x5 x3 ((1 : Int32) <<< (x5 &&& (31 : Int32))))
    else none)
set_option maxHeartbeats 4000000 in
set_option maxRecDepth 100000 in
theorem w_X7_who_b24 {G : x_G} {l : Launch} {a : Nat → Nat} {now : (Nat → Int32)} {rows : (Nat → Int32)} {rowLong : (Nat → Int32)} {kept : (Nat → Int32)} {isKept : (Nat → Int32)} {texts : (Nat → Int32)} {textLong : (Nat → Int32)} {taken : (Nat → Int32)} {anew : (Nat → Int32)} {hand : (Nat → Int32)} {steps : (Nat → Int32)} {shares : (Nat → Int32)} {choices : (Nat → Int32)} {values : (Nat → Int32)} {askedIs : Int32} {above : Int64} {below : Int64} {place : Int32} {partedBy : Int32} {res : Int32 × (Nat → Int32) × Int32} : ∀ (n : Nat) (found : (Nat → Int32)) (latest : Int32) (x3 : Int32) (x4 : Int32) (x5 : Int32), M_X7_who_b24 now rows rowLong n found latest x3 x4 x5 = some res → X G l RX7 cX7_who 6 (x_R 3 0 0) (x_Cm G (some .int) false (x_is (some (.int res.1)) (WModel G a now kept isKept rows rowLong texts textLong res.2.1 taken anew hand steps shares choices values res.2.2 askedIs above below place partedBy)) 0 0) 0 0 24 [(0, .ref (a 0)), (3, .int x3), (4, .int x4), (5, .int x5)] [] (WModel G a now kept isKept rows rowLong texts textLong found taken anew hand steps shares choices values latest askedIs above below place partedBy) := by
  intro n
  induction n with
  | zero =>
    intro _ _ _ _ _ h
    cases h
  | succ n ih =>
    intro found latest x3 x4 x5 h
    rw [M_X7_who_b24] at h
    refine x_iload dX7_who_24 3 rfl ?_
    refine x_aload_n dX7_who_26 0 rfl rfl ?_
    refine x_get (ci := 5) 0 0 dX7_who_27 fl_X7_7 inX7 rfl (by decide) ⟨rfl, rfl, rfl⟩ rfl rfl ?_
    refine x_iconst 0 dX7_who_30 (by decide) ?_
    refine x_iald 0 (q0 := 1) dX7_who_31 (by decide) rfl (by decide) ?_
    refine x_icmp_ge 69 dX7_who_32 (by decide) (fun c1 => ?_) (fun c1 => ?_)
    · have h := x_pos c1 h
      refine x_iload_n dX7_who_69 1 rfl rfl ?_
      cases h
      exact x_ireturn dX7_who_70 rfl (x_is.rf _ _)
    · have h := x_neg c1 h
      refine x_iload_n dX7_who_35 1 rfl rfl ?_
      refine x_iload dX7_who_36 2 rfl ?_
      refine x_aload_n dX7_who_38 0 rfl rfl ?_
      refine x_get (ci := 5) 0 0 dX7_who_39 fl_X7_7 inX7 rfl (by decide) ⟨rfl, rfl, rfl⟩ rfl rfl ?_
      refine x_iconst 2 dX7_who_42 (by decide) ?_
      refine x_iload dX7_who_43 3 rfl ?_
      refine x_iadd dX7_who_45 ?_
      obtain ⟨b2, h⟩ := x_guard h
      refine x_iald ((2 : Int32) + x5).toNatClampNeg (q0 := 1) dX7_who_46 rfl rfl b2 ?_
      refine x_cS (As := [.int x4, .int (now ((2 : Int32) + x5).toNatClampNeg)]) (wc := ([] : va_W)) (w1 := ([] : va_W)) (pre := []) (post := (WModel G a now kept isKept rows rowLong texts textLong found taken anew hand steps shares choices values latest askedIs above below place partedBy)) (rest := [.int x3]) (st1 := [.int (M_X7_has x4 (now ((2 : Int32) + x5).toNatClampNeg)), .int x3]) (ws1 := (WModel G a now kept isKept rows rowLong texts textLong found taken anew hand steps shares choices values latest askedIs above below place partedBy)) dX7_who_47 (c_X7_has rfl) pk_X7_has ml_X7_130 rfl rfl rfl rfl rfl rfl rfl ?_
      refine x_if_eq 60 dX7_who_50 (by decide) (fun c3 => ?_) (fun c3 => ?_)
      · have h := x_pos c3 h
        refine x_iconst 0 dX7_who_60 (by decide) ?_
        refine x_lv [0, 2, 3] rfl ?_
        exact w_X7_who_b61 (fun found' latest' x3' x4' x5' h => ih found' latest' x3' x4' x5' h) _ _ _ _ _ _ h
      · have h := x_neg c3 h
        refine x_iconst 1 dX7_who_53 (by decide) ?_
        refine x_iload dX7_who_54 3 rfl ?_
        refine x_ishl dX7_who_56 ?_
        refine x_goto 61 dX7_who_57 (by decide) ?_
        refine x_lv [0, 2, 3] rfl ?_
        exact w_X7_who_b61 (fun found' latest' x3' x4' x5' h => ih found' latest' x3' x4' x5' h) _ _ _ _ _ _ h
def M_X7_who (now : (Nat → Int32)) (rows : (Nat → Int32)) (rowLong : (Nat → Int32)) (found : (Nat → Int32)) (latest : Int32) (x1 : Int32) : Option (Int32 × (Nat → Int32) × Int32) :=
  (M_X7_refusesPairs rows rowLong found latest x1).bind fun r4 =>
  if r4.1 = 0 then
  ((M_X7_kindsBy rows rowLong x1).bind fun r7 =>
  M_X7_who_b24 now rows rowLong x_fuel r4.2.1 r4.2.2 (0 : Int32) r7 (0 : Int32))
  else
  (some (r4.1, r4.2.1, r4.2.2))
set_option maxHeartbeats 4000000 in
set_option maxRecDepth 100000 in
theorem c_X7_who {G : x_G} {l : Launch} {a : Nat → Nat} {now : (Nat → Int32)} {rows : (Nat → Int32)} {rowLong : (Nat → Int32)} {kept : (Nat → Int32)} {isKept : (Nat → Int32)} {texts : (Nat → Int32)} {textLong : (Nat → Int32)} {taken : (Nat → Int32)} {anew : (Nat → Int32)} {hand : (Nat → Int32)} {steps : (Nat → Int32)} {shares : (Nat → Int32)} {choices : (Nat → Int32)} {values : (Nat → Int32)} {askedIs : Int32} {above : Int64} {below : Int64} {place : Int32} {partedBy : Int32} {found : (Nat → Int32)} {latest : Int32} {x1 : Int32} {res : Int32 × (Nat → Int32) × Int32} (h : M_X7_who now rows rowLong found latest x1 = some res) : x_M G l yX7_who cX7_who 6 (some .int) (3) 0 0 [.ref (a 0), .int x1] (WModel G a now kept isKept rows rowLong texts textLong found taken anew hand steps shares choices values latest askedIs above below place partedBy) (x_is (some (.int res.1)) (WModel G a now kept isKept rows rowLong texts textLong res.2.1 taken anew hand steps shares choices values res.2.2 askedIs above below place partedBy)) := by
  unfold M_X7_who at h
  refine x_enter (ini := false) (by decide) rfl (by decide) rfl (Nat.le_of_ble_eq_true rfl) ?_
  refine x_aload_n dX7_who_0 0 rfl rfl ?_
  refine x_iload_n dX7_who_1 1 rfl rfl ?_
  obtain ⟨r4, e5, h⟩ := x_bind h
  refine x_cV (As := [.int x1]) (wc := (WModel G a now kept isKept rows rowLong texts textLong found taken anew hand steps shares choices values latest askedIs above below place partedBy)) (w1 := (WModel G a now kept isKept rows rowLong texts textLong r4.2.1 taken anew hand steps shares choices values r4.2.2 askedIs above below place partedBy)) (pre := []) (post := []) (rest := []) (st1 := [.int r4.1]) (ws1 := (WModel G a now kept isKept rows rowLong texts textLong r4.2.1 taken anew hand steps shares choices values r4.2.2 askedIs above below place partedBy)) (ci := 5) 0 dX7_who_2 (c_X7_refusesPairs (a := a) e5) pk_X7_refusesPairs ml_X7_209 (x_full _) rfl rfl rfl rfl rfl rfl rfl rfl (x_full _).symm ?_
  refine x_istore_n [(2, .int r4.1), (0, .ref (a 0)), (1, .int x1)] dX7_who_5 rfl (by decide) rfl ?_
  refine x_iload_n dX7_who_6 0 rfl rfl ?_
  refine x_if_eq 12 dX7_who_7 (by decide) (fun c6 => ?_) (fun c6 => ?_)
  · have h := x_pos c6 h
    refine x_iconst 0 dX7_who_12 (by decide) ?_
    refine x_istore_n [(3, .int (0 : Int32)), (2, .int r4.1), (0, .ref (a 0)), (1, .int x1)] dX7_who_13 rfl (by decide) rfl ?_
    refine x_aload_n dX7_who_14 2 rfl rfl ?_
    refine x_iload_n dX7_who_15 3 rfl rfl ?_
    obtain ⟨r7, e8, h⟩ := x_bind h
    refine x_cV (As := [.int x1]) (wc := (WModel G a now kept isKept rows rowLong texts textLong r4.2.1 taken anew hand steps shares choices values r4.2.2 askedIs above below place partedBy)) (w1 := (WModel G a now kept isKept rows rowLong texts textLong r4.2.1 taken anew hand steps shares choices values r4.2.2 askedIs above below place partedBy)) (pre := []) (post := []) (rest := []) (st1 := [.int r7]) (ws1 := (WModel G a now kept isKept rows rowLong texts textLong r4.2.1 taken anew hand steps shares choices values r4.2.2 askedIs above below place partedBy)) (ci := 5) 0 dX7_who_16 (c_X7_kindsBy (a := a) e8) pk_X7_kindsBy ml_X7_212 (x_full _) rfl rfl rfl rfl rfl rfl rfl rfl (x_full _).symm ?_
    refine x_istore [(4, .int r7), (3, .int (0 : Int32)), (2, .int r4.1), (0, .ref (a 0)), (1, .int x1)] dX7_who_19 (by decide) rfl ?_
    refine x_iconst 0 dX7_who_21 (by decide) ?_
    refine x_istore [(5, .int (0 : Int32)), (4, .int r7), (3, .int (0 : Int32)), (2, .int r4.1), (0, .ref (a 0)), (1, .int x1)] dX7_who_22 (by decide) rfl ?_
    refine x_lv [4, 2, 1, 0] rfl ?_
    exact w_X7_who_b24  _ _ _ _ _ _ h
  · have h := x_neg c6 h
    refine x_iload_n dX7_who_10 0 rfl rfl ?_
    cases h
    exact x_ireturn dX7_who_11 rfl (x_is.rf _ _)
theorem pk_X7_kinds : x_pv RX7 yX7_kinds cX7_kinds 3 (some .int) 1 := ⟨⟨co_X7_kinds, ni_X7, by decide, by decide +kernel⟩, im_X7_kinds, se_X7_kinds⟩
def M_X7_kinds (rows : (Nat → Int32)) (rowLong : (Nat → Int32)) (found : (Nat → Int32)) (latest : Int32) (x1 : Int32) : Option (Int32 × (Nat → Int32) × Int32) :=
  (M_X7_refusesPairs rows rowLong found latest x1).bind fun r1 =>
  if r1.1 = 0 then
  ((M_X7_kindsBy rows rowLong x1).bind fun r4 =>
  some (r4, r1.2.1, r1.2.2))
  else
  (some (r1.1, r1.2.1, r1.2.2))
set_option maxHeartbeats 4000000 in
set_option maxRecDepth 100000 in
theorem c_X7_kinds {G : x_G} {l : Launch} {a : Nat → Nat} {rows : (Nat → Int32)} {rowLong : (Nat → Int32)} {now : (Nat → Int32)} {kept : (Nat → Int32)} {isKept : (Nat → Int32)} {texts : (Nat → Int32)} {textLong : (Nat → Int32)} {taken : (Nat → Int32)} {anew : (Nat → Int32)} {hand : (Nat → Int32)} {steps : (Nat → Int32)} {shares : (Nat → Int32)} {choices : (Nat → Int32)} {values : (Nat → Int32)} {askedIs : Int32} {above : Int64} {below : Int64} {place : Int32} {partedBy : Int32} {found : (Nat → Int32)} {latest : Int32} {x1 : Int32} {res : Int32 × (Nat → Int32) × Int32} (h : M_X7_kinds rows rowLong found latest x1 = some res) : x_M G l yX7_kinds cX7_kinds 3 (some .int) (3) 0 0 [.ref (a 0), .int x1] (WModel G a now kept isKept rows rowLong texts textLong found taken anew hand steps shares choices values latest askedIs above below place partedBy) (x_is (some (.int res.1)) (WModel G a now kept isKept rows rowLong texts textLong res.2.1 taken anew hand steps shares choices values res.2.2 askedIs above below place partedBy)) := by
  unfold M_X7_kinds at h
  refine x_enter (ini := false) (by decide) rfl (by decide) rfl (Nat.le_of_ble_eq_true rfl) ?_
  refine x_aload_n dX7_kinds_0 0 rfl rfl ?_
  refine x_iload_n dX7_kinds_1 1 rfl rfl ?_
  obtain ⟨r1, e2, h⟩ := x_bind h
  refine x_cV (As := [.int x1]) (wc := (WModel G a now kept isKept rows rowLong texts textLong found taken anew hand steps shares choices values latest askedIs above below place partedBy)) (w1 := (WModel G a now kept isKept rows rowLong texts textLong r1.2.1 taken anew hand steps shares choices values r1.2.2 askedIs above below place partedBy)) (pre := []) (post := []) (rest := []) (st1 := [.int r1.1]) (ws1 := (WModel G a now kept isKept rows rowLong texts textLong r1.2.1 taken anew hand steps shares choices values r1.2.2 askedIs above below place partedBy)) (ci := 5) 0 dX7_kinds_2 (c_X7_refusesPairs (a := a) e2) pk_X7_refusesPairs ml_X7_209 (x_full _) rfl rfl rfl rfl rfl rfl rfl rfl (x_full _).symm ?_
  refine x_istore_n [(2, .int r1.1), (0, .ref (a 0)), (1, .int x1)] dX7_kinds_5 rfl (by decide) rfl ?_
  refine x_iload_n dX7_kinds_6 0 rfl rfl ?_
  refine x_if_eq 14 dX7_kinds_7 (by decide) (fun c3 => ?_) (fun c3 => ?_)
  · have h := x_pos c3 h
    refine x_aload_n dX7_kinds_14 1 rfl rfl ?_
    refine x_iload_n dX7_kinds_15 2 rfl rfl ?_
    obtain ⟨r4, e5, h⟩ := x_bind h
    refine x_cV (As := [.int x1]) (wc := (WModel G a now kept isKept rows rowLong texts textLong r1.2.1 taken anew hand steps shares choices values r1.2.2 askedIs above below place partedBy)) (w1 := (WModel G a now kept isKept rows rowLong texts textLong r1.2.1 taken anew hand steps shares choices values r1.2.2 askedIs above below place partedBy)) (pre := []) (post := []) (rest := []) (st1 := [.int r4]) (ws1 := (WModel G a now kept isKept rows rowLong texts textLong r1.2.1 taken anew hand steps shares choices values r1.2.2 askedIs above below place partedBy)) (ci := 5) 0 dX7_kinds_16 (c_X7_kindsBy (a := a) e5) pk_X7_kindsBy ml_X7_212 (x_full _) rfl rfl rfl rfl rfl rfl rfl rfl (x_full _).symm ?_
    cases h
    exact x_ireturn dX7_kinds_19 rfl (x_is.rf _ _)
  · have h := x_neg c3 h
    refine x_iload_n dX7_kinds_10 0 rfl rfl ?_
    refine x_goto 19 dX7_kinds_11 (by decide) ?_
    cases h
    exact x_ireturn dX7_kinds_19 rfl (x_is.rf _ _)
theorem pk_X7_greatestPart : x_ps yX7_greatestPart cX7_greatestPart 6 (some .int) 2 := ⟨⟨co_X7_greatestPart, ni_X7, by decide, by decide +kernel⟩, sm_X7_greatestPart⟩
def M_X7_greatestPart_b61 (k4 : Int32 → Int32 → Int32 → Int32 → Option (Int32)) (k16 : Int32 → Int32 → Int32 → Int32 → Int32 → Int32 → Option (Int32)) (x0 : Int32) (x1 : Int32) (x2 : Int32) (x3 : Int32) (x5 : Int32) (s0 : Int32) (s1 : Int32) : Option (Int32) :=
  k16 x0 x1 x2 x3 (s0 + s1) (x5 + (1 : Int32))
set_option maxHeartbeats 4000000 in
set_option maxRecDepth 100000 in
theorem w_X7_greatestPart_b61 {G : x_G} {l : Launch} {k4 : Int32 → Int32 → Int32 → Int32 → Option (Int32)} {k16 : Int32 → Int32 → Int32 → Int32 → Int32 → Int32 → Option (Int32)} {res : Int32} (hk4 : ∀ (x0 : Int32) (x1 : Int32) (x2 : Int32) (x3 : Int32), k4 x0 x1 x2 x3 = some res → X G l RX7 cX7_greatestPart 6 (x_R 1 0 0) (x_Cm G (some .int) false (x_is (some (.int res)) ([] : va_W)) 0 0) 0 0 4 [(0, .int x0), (1, .int x1), (2, .int x2), (3, .int x3)] [] ([] : va_W)) (hk16 : ∀ (x0 : Int32) (x1 : Int32) (x2 : Int32) (x3 : Int32) (x4 : Int32) (x5 : Int32), k16 x0 x1 x2 x3 x4 x5 = some res → X G l RX7 cX7_greatestPart 6 (x_R 1 0 0) (x_Cm G (some .int) false (x_is (some (.int res)) ([] : va_W)) 0 0) 0 0 16 [(0, .int x0), (1, .int x1), (2, .int x2), (3, .int x3), (4, .int x4), (5, .int x5)] [] ([] : va_W)) (x0 : Int32) (x1 : Int32) (x2 : Int32) (x3 : Int32) (x5 : Int32) (s0 : Int32) (s1 : Int32) (h : M_X7_greatestPart_b61 k4 k16 x0 x1 x2 x3 x5 s0 s1 = some res) : X G l RX7 cX7_greatestPart 6 (x_R 1 0 0) (x_Cm G (some .int) false (x_is (some (.int res)) ([] : va_W)) 0 0) 0 0 61 [(0, .int x0), (1, .int x1), (2, .int x2), (3, .int x3), (5, .int x5)] [.int s1, .int s0] ([] : va_W) := by
  unfold M_X7_greatestPart_b61 at h
  refine x_iadd dX7_greatestPart_61 ?_
  refine x_istore [(4, .int (s0 + s1)), (0, .int x0), (1, .int x1), (2, .int x2), (3, .int x3), (5, .int x5)] dX7_greatestPart_62 (by decide) rfl ?_
  refine x_iinc (j := 5) (1 : Int32) [(5, .int (x5 + (1 : Int32))), (4, .int (s0 + s1)), (0, .int x0), (1, .int x1), (2, .int x2), (3, .int x3)] dX7_greatestPart_64 (by decide) rfl (by decide) rfl ?_
  refine x_goto 16 dX7_greatestPart_67 (by decide) ?_
  refine x_lv [2, 3, 4, 5, 1, 0] rfl ?_
  exact hk16 _ _ _ _ _ _ h
def M_X7_greatestPart_b60 (k4 : Int32 → Int32 → Int32 → Int32 → Option (Int32)) (k16 : Int32 → Int32 → Int32 → Int32 → Int32 → Int32 → Option (Int32)) (x0 : Int32) (x1 : Int32) (x2 : Int32) (x3 : Int32) (x5 : Int32) (s0 : Int32) : Option (Int32) :=
  M_X7_greatestPart_b61 k4 k16 x0 x1 x2 x3 x5 s0 (0 : Int32)
set_option maxHeartbeats 4000000 in
set_option maxRecDepth 100000 in
theorem w_X7_greatestPart_b60 {G : x_G} {l : Launch} {k4 : Int32 → Int32 → Int32 → Int32 → Option (Int32)} {k16 : Int32 → Int32 → Int32 → Int32 → Int32 → Int32 → Option (Int32)} {res : Int32} (hk4 : ∀ (x0 : Int32) (x1 : Int32) (x2 : Int32) (x3 : Int32), k4 x0 x1 x2 x3 = some res → X G l RX7 cX7_greatestPart 6 (x_R 1 0 0) (x_Cm G (some .int) false (x_is (some (.int res)) ([] : va_W)) 0 0) 0 0 4 [(0, .int x0), (1, .int x1), (2, .int x2), (3, .int x3)] [] ([] : va_W)) (hk16 : ∀ (x0 : Int32) (x1 : Int32) (x2 : Int32) (x3 : Int32) (x4 : Int32) (x5 : Int32), k16 x0 x1 x2 x3 x4 x5 = some res → X G l RX7 cX7_greatestPart 6 (x_R 1 0 0) (x_Cm G (some .int) false (x_is (some (.int res)) ([] : va_W)) 0 0) 0 0 16 [(0, .int x0), (1, .int x1), (2, .int x2), (3, .int x3), (4, .int x4), (5, .int x5)] [] ([] : va_W)) (x0 : Int32) (x1 : Int32) (x2 : Int32) (x3 : Int32) (x5 : Int32) (s0 : Int32) (h : M_X7_greatestPart_b60 k4 k16 x0 x1 x2 x3 x5 s0 = some res) : X G l RX7 cX7_greatestPart 6 (x_R 1 0 0) (x_Cm G (some .int) false (x_is (some (.int res)) ([] : va_W)) 0 0) 0 0 60 [(0, .int x0), (1, .int x1), (2, .int x2), (3, .int x3), (5, .int x5)] [.int s0] ([] : va_W) := by
  unfold M_X7_greatestPart_b60 at h
  refine x_iconst 0 dX7_greatestPart_60 (by decide) ?_
  exact w_X7_greatestPart_b61 hk4 hk16 _ _ _ _ _ _ _ h
def M_X7_greatestPart_b82 (k4 : Int32 → Int32 → Int32 → Int32 → Option (Int32)) (x0 : Int32) (x1 : Int32) (x3 : Int32) (s0 : Int32) : Option (Int32) :=
  k4 x0 x1 s0 (x3 + (1 : Int32))
set_option maxHeartbeats 4000000 in
set_option maxRecDepth 100000 in
theorem w_X7_greatestPart_b82 {G : x_G} {l : Launch} {k4 : Int32 → Int32 → Int32 → Int32 → Option (Int32)} {res : Int32} (hk4 : ∀ (x0 : Int32) (x1 : Int32) (x2 : Int32) (x3 : Int32), k4 x0 x1 x2 x3 = some res → X G l RX7 cX7_greatestPart 6 (x_R 1 0 0) (x_Cm G (some .int) false (x_is (some (.int res)) ([] : va_W)) 0 0) 0 0 4 [(0, .int x0), (1, .int x1), (2, .int x2), (3, .int x3)] [] ([] : va_W)) (x0 : Int32) (x1 : Int32) (x3 : Int32) (s0 : Int32) (h : M_X7_greatestPart_b82 k4 x0 x1 x3 s0 = some res) : X G l RX7 cX7_greatestPart 6 (x_R 1 0 0) (x_Cm G (some .int) false (x_is (some (.int res)) ([] : va_W)) 0 0) 0 0 82 [(0, .int x0), (1, .int x1), (3, .int x3)] [.int s0] ([] : va_W) := by
  unfold M_X7_greatestPart_b82 at h
  refine x_istore_n [(2, .int s0), (0, .int x0), (1, .int x1), (3, .int x3)] dX7_greatestPart_82 rfl (by decide) rfl ?_
  refine x_iinc (j := 3) (1 : Int32) [(3, .int (x3 + (1 : Int32))), (2, .int s0), (0, .int x0), (1, .int x1)] dX7_greatestPart_83 (by decide) rfl (by decide) rfl ?_
  refine x_goto 4 dX7_greatestPart_86 (by decide) ?_
  refine x_lv [2, 3, 1, 0] rfl ?_
  exact hk4 _ _ _ _ h
def M_X7_greatestPart_b70 (k4 : Int32 → Int32 → Int32 → Int32 → Option (Int32)) (x0 : Int32) (x1 : Int32) (x2 : Int32) (x3 : Int32) (x4 : Int32) : Option (Int32) :=
  if x4 ≤ x2 then
  (M_X7_greatestPart_b82 k4 x0 x1 x3 x2)
  else
  (M_X7_greatestPart_b82 k4 x0 x1 x3 x4)
set_option maxHeartbeats 4000000 in
set_option maxRecDepth 100000 in
theorem w_X7_greatestPart_b70 {G : x_G} {l : Launch} {k4 : Int32 → Int32 → Int32 → Int32 → Option (Int32)} {res : Int32} (hk4 : ∀ (x0 : Int32) (x1 : Int32) (x2 : Int32) (x3 : Int32), k4 x0 x1 x2 x3 = some res → X G l RX7 cX7_greatestPart 6 (x_R 1 0 0) (x_Cm G (some .int) false (x_is (some (.int res)) ([] : va_W)) 0 0) 0 0 4 [(0, .int x0), (1, .int x1), (2, .int x2), (3, .int x3)] [] ([] : va_W)) (x0 : Int32) (x1 : Int32) (x2 : Int32) (x3 : Int32) (x4 : Int32) (h : M_X7_greatestPart_b70 k4 x0 x1 x2 x3 x4 = some res) : X G l RX7 cX7_greatestPart 6 (x_R 1 0 0) (x_Cm G (some .int) false (x_is (some (.int res)) ([] : va_W)) 0 0) 0 0 70 [(0, .int x0), (1, .int x1), (2, .int x2), (3, .int x3), (4, .int x4)] [] ([] : va_W) := by
  unfold M_X7_greatestPart_b70 at h
  refine x_iload dX7_greatestPart_70 4 rfl ?_
  refine x_iload_n dX7_greatestPart_72 2 rfl rfl ?_
  refine x_icmp_le 81 dX7_greatestPart_73 (by decide) (fun c6 => ?_) (fun c6 => ?_)
  · have h := x_pos c6 h
    refine x_iload_n dX7_greatestPart_81 2 rfl rfl ?_
    refine x_lv [0, 1, 3] rfl ?_
    exact w_X7_greatestPart_b82 hk4 _ _ _ _ h
  · have h := x_neg c6 h
    refine x_iload dX7_greatestPart_76 4 rfl ?_
    refine x_goto 82 dX7_greatestPart_78 (by decide) ?_
    refine x_lv [0, 1, 3] rfl ?_
    exact w_X7_greatestPart_b82 hk4 _ _ _ _ h
def M_X7_greatestPart_b16 (k4 : Int32 → Int32 → Int32 → Int32 → Option (Int32)) : Nat → Int32 → Int32 → Int32 → Int32 → Int32 → Int32 → Option (Int32)
  | 0, _, _, _, _, _, _ => none
  | n + 1, x0, x1, x2, x3, x4, x5 =>
    if (6 : Int32) ≤ x5 then
    (M_X7_greatestPart_b70 k4 x0 x1 x2 x3 x4)
    else
    (if (M_X7_has x0 x3) = 0 then
    (M_X7_greatestPart_b70 k4 x0 x1 x2 x3 x4)
    else
    (if (M_X7_has x0 x5) = 0 then
    (M_X7_greatestPart_b60 k4 (fun (x0' : Int32) (x1' : Int32) (x2' : Int32) (x3' : Int32) (x4' : Int32) (x5' : Int32) => M_X7_greatestPart_b16 k4 n x0' x1' x2' x3' x4' x5') x0 x1 x2 x3 x5 x4)
    else
    (if (M_X7_passesAs x3 x1) = (M_X7_passesAs x5 x1) then
    (M_X7_greatestPart_b61 k4 (fun (x0' : Int32) (x1' : Int32) (x2' : Int32) (x3' : Int32) (x4' : Int32) (x5' : Int32) => M_X7_greatestPart_b16 k4 n x0' x1' x2' x3' x4' x5') x0 x1 x2 x3 x5 x4 (1 : Int32))
    else
    (M_X7_greatestPart_b60 k4 (fun (x0' : Int32) (x1' : Int32) (x2' : Int32) (x3' : Int32) (x4' : Int32) (x5' : Int32) => M_X7_greatestPart_b16 k4 n x0' x1' x2' x3' x4' x5') x0 x1 x2 x3 x5 x4))))
set_option maxHeartbeats 4000000 in
set_option maxRecDepth 100000 in
theorem w_X7_greatestPart_b16 {G : x_G} {l : Launch} {k4 : Int32 → Int32 → Int32 → Int32 → Option (Int32)} {res : Int32} (hk4 : ∀ (x0 : Int32) (x1 : Int32) (x2 : Int32) (x3 : Int32), k4 x0 x1 x2 x3 = some res → X G l RX7 cX7_greatestPart 6 (x_R 1 0 0) (x_Cm G (some .int) false (x_is (some (.int res)) ([] : va_W)) 0 0) 0 0 4 [(0, .int x0), (1, .int x1), (2, .int x2), (3, .int x3)] [] ([] : va_W)) : ∀ (n : Nat) (x0 : Int32) (x1 : Int32) (x2 : Int32) (x3 : Int32) (x4 : Int32) (x5 : Int32), M_X7_greatestPart_b16 k4 n x0 x1 x2 x3 x4 x5 = some res → X G l RX7 cX7_greatestPart 6 (x_R 1 0 0) (x_Cm G (some .int) false (x_is (some (.int res)) ([] : va_W)) 0 0) 0 0 16 [(0, .int x0), (1, .int x1), (2, .int x2), (3, .int x3), (4, .int x4), (5, .int x5)] [] ([] : va_W) := by
  intro n
  induction n with
  | zero =>
    intro _ _ _ _ _ _ h
    cases h
  | succ n ih =>
    intro x0 x1 x2 x3 x4 x5 h
    rw [M_X7_greatestPart_b16] at h
    refine x_iload dX7_greatestPart_16 5 rfl ?_
    refine x_bipush 6 dX7_greatestPart_18 (by decide) ?_
    refine x_icmp_ge 70 dX7_greatestPart_20 (by decide) (fun c2 => ?_) (fun c2 => ?_)
    · have h := x_pos c2 h
      refine x_lv [0, 1, 2, 3, 4] rfl ?_
      exact w_X7_greatestPart_b70 hk4 _ _ _ _ _ h
    · have h := x_neg c2 h
      refine x_iload_n dX7_greatestPart_23 0 rfl rfl ?_
      refine x_iload_n dX7_greatestPart_24 3 rfl rfl ?_
      refine x_cS (As := [.int x0, .int x3]) (wc := ([] : va_W)) (w1 := ([] : va_W)) (pre := []) (post := ([] : va_W)) (rest := []) (st1 := [.int (M_X7_has x0 x3)]) (ws1 := ([] : va_W)) dX7_greatestPart_25 (c_X7_has rfl) pk_X7_has ml_X7_130 rfl rfl rfl rfl rfl rfl rfl ?_
      refine x_if_eq 70 dX7_greatestPart_28 (by decide) (fun c3 => ?_) (fun c3 => ?_)
      · have h := x_pos c3 h
        refine x_lv [0, 1, 2, 3, 4] rfl ?_
        exact w_X7_greatestPart_b70 hk4 _ _ _ _ _ h
      · have h := x_neg c3 h
        refine x_iload dX7_greatestPart_31 4 rfl ?_
        refine x_iload_n dX7_greatestPart_33 0 rfl rfl ?_
        refine x_iload dX7_greatestPart_34 5 rfl ?_
        refine x_cS (As := [.int x0, .int x5]) (wc := ([] : va_W)) (w1 := ([] : va_W)) (pre := []) (post := ([] : va_W)) (rest := [.int x4]) (st1 := [.int (M_X7_has x0 x5), .int x4]) (ws1 := ([] : va_W)) dX7_greatestPart_36 (c_X7_has rfl) pk_X7_has ml_X7_130 rfl rfl rfl rfl rfl rfl rfl ?_
        refine x_if_eq 60 dX7_greatestPart_39 (by decide) (fun c4 => ?_) (fun c4 => ?_)
        · have h := x_pos c4 h
          refine x_lv [0, 1, 2, 3, 5] rfl ?_
          exact w_X7_greatestPart_b60 hk4 (fun x0' x1' x2' x3' x4' x5' h => ih x0' x1' x2' x3' x4' x5' h) _ _ _ _ _ _ h
        · have h := x_neg c4 h
          refine x_iload_n dX7_greatestPart_42 3 rfl rfl ?_
          refine x_iload_n dX7_greatestPart_43 1 rfl rfl ?_
          refine x_cS (As := [.int x3, .int x1]) (wc := ([] : va_W)) (w1 := ([] : va_W)) (pre := []) (post := ([] : va_W)) (rest := [.int x4]) (st1 := [.int (M_X7_passesAs x3 x1), .int x4]) (ws1 := ([] : va_W)) dX7_greatestPart_44 (c_X7_passesAs rfl) pk_X7_passesAs ml_X7_140 rfl rfl rfl rfl rfl rfl rfl ?_
          refine x_iload dX7_greatestPart_47 5 rfl ?_
          refine x_iload_n dX7_greatestPart_49 1 rfl rfl ?_
          refine x_cS (As := [.int x5, .int x1]) (wc := ([] : va_W)) (w1 := ([] : va_W)) (pre := []) (post := ([] : va_W)) (rest := [.int (M_X7_passesAs x3 x1), .int x4]) (st1 := [.int (M_X7_passesAs x5 x1), .int (M_X7_passesAs x3 x1), .int x4]) (ws1 := ([] : va_W)) dX7_greatestPart_50 (c_X7_passesAs rfl) pk_X7_passesAs ml_X7_140 rfl rfl rfl rfl rfl rfl rfl ?_
          refine x_icmp_ne 60 dX7_greatestPart_53 (by decide) (fun c5 => ?_) (fun c5 => ?_)
          · have h := x_neg c5 h
            refine x_lv [0, 1, 2, 3, 5] rfl ?_
            exact w_X7_greatestPart_b60 hk4 (fun x0' x1' x2' x3' x4' x5' h => ih x0' x1' x2' x3' x4' x5' h) _ _ _ _ _ _ h
          · have h := x_pos c5 h
            refine x_iconst 1 dX7_greatestPart_56 (by decide) ?_
            refine x_goto 61 dX7_greatestPart_57 (by decide) ?_
            refine x_lv [0, 1, 2, 3, 5] rfl ?_
            exact w_X7_greatestPart_b61 hk4 (fun x0' x1' x2' x3' x4' x5' h => ih x0' x1' x2' x3' x4' x5' h) _ _ _ _ _ _ _ h
def M_X7_greatestPart_b4 : Nat → Int32 → Int32 → Int32 → Int32 → Option (Int32)
  | 0, _, _, _, _ => none
  | n + 1, x0, x1, x2, x3 =>
    if (6 : Int32) ≤ x3 then
    (some (x2))
    else
    (M_X7_greatestPart_b16 (fun (x0' : Int32) (x1' : Int32) (x2' : Int32) (x3' : Int32) => M_X7_greatestPart_b4 n x0' x1' x2' x3') x_fuel x0 x1 x2 x3 (0 : Int32) (0 : Int32))
set_option maxHeartbeats 4000000 in
set_option maxRecDepth 100000 in
theorem w_X7_greatestPart_b4 {G : x_G} {l : Launch} {res : Int32} : ∀ (n : Nat) (x0 : Int32) (x1 : Int32) (x2 : Int32) (x3 : Int32), M_X7_greatestPart_b4 n x0 x1 x2 x3 = some res → X G l RX7 cX7_greatestPart 6 (x_R 1 0 0) (x_Cm G (some .int) false (x_is (some (.int res)) ([] : va_W)) 0 0) 0 0 4 [(0, .int x0), (1, .int x1), (2, .int x2), (3, .int x3)] [] ([] : va_W) := by
  intro n
  induction n with
  | zero =>
    intro _ _ _ _ h
    cases h
  | succ n ih =>
    intro x0 x1 x2 x3 h
    rw [M_X7_greatestPart_b4] at h
    refine x_iload_n dX7_greatestPart_4 3 rfl rfl ?_
    refine x_bipush 6 dX7_greatestPart_5 (by decide) ?_
    refine x_icmp_ge 89 dX7_greatestPart_7 (by decide) (fun c1 => ?_) (fun c1 => ?_)
    · have h := x_pos c1 h
      refine x_iload_n dX7_greatestPart_89 2 rfl rfl ?_
      cases h
      exact x_ireturn dX7_greatestPart_90 rfl (x_is.rf _ _)
    · have h := x_neg c1 h
      refine x_iconst 0 dX7_greatestPart_10 (by decide) ?_
      refine x_istore [(4, .int (0 : Int32)), (0, .int x0), (1, .int x1), (2, .int x2), (3, .int x3)] dX7_greatestPart_11 (by decide) rfl ?_
      refine x_iconst 0 dX7_greatestPart_13 (by decide) ?_
      refine x_istore [(5, .int (0 : Int32)), (4, .int (0 : Int32)), (0, .int x0), (1, .int x1), (2, .int x2), (3, .int x3)] dX7_greatestPart_14 (by decide) rfl ?_
      refine x_lv [2, 3, 4, 5, 1, 0] rfl ?_
      exact w_X7_greatestPart_b16 (fun x0' x1' x2' x3' h => ih x0' x1' x2' x3' h) _ _ _ _ _ _ _ h
def M_X7_greatestPart (x0 : Int32) (x1 : Int32) : Option (Int32) :=
  M_X7_greatestPart_b4 x_fuel x0 x1 (0 : Int32) (0 : Int32)
set_option maxHeartbeats 4000000 in
set_option maxRecDepth 100000 in
theorem c_X7_greatestPart {G : x_G} {l : Launch} {x0 : Int32} {x1 : Int32} {res : Int32} (h : M_X7_greatestPart x0 x1 = some res) : x_M G l yX7_greatestPart cX7_greatestPart 6 (some .int) (1) 0 0 [.int x0, .int x1] ([] : va_W) (x_is (some (.int res)) ([] : va_W)) := by
  unfold M_X7_greatestPart at h
  refine x_enter (ini := false) (by decide) rfl (by decide) rfl (Nat.le_of_ble_eq_true rfl) ?_
  refine x_iconst 0 dX7_greatestPart_0 (by decide) ?_
  refine x_istore_n [(2, .int (0 : Int32)), (0, .int x0), (1, .int x1)] dX7_greatestPart_1 rfl (by decide) rfl ?_
  refine x_iconst 0 dX7_greatestPart_2 (by decide) ?_
  refine x_istore_n [(3, .int (0 : Int32)), (2, .int (0 : Int32)), (0, .int x0), (1, .int x1)] dX7_greatestPart_3 rfl (by decide) rfl ?_
  refine x_lv [2, 3, 1, 0] rfl ?_
  exact w_X7_greatestPart_b4  _ _ _ _ _ h
theorem pk_X7_test : x_pv RX7 yX7_test cX7_test 8 (some .int) 1 := ⟨⟨co_X7_test, ni_X7, by decide, by decide +kernel⟩, im_X7_test, se_X7_test⟩
def M_X7_test_b78 (rows : (Nat → Int32)) (rowLong : (Nat → Int32)) (k29 : (Nat → Int32) → Int32 → Int32 → Int32 → Int32 → Int32 → Int32 → Option (Int32 × (Nat → Int32) × Int32 × Int32)) (found : (Nat → Int32)) (latest : Int32) (askedIs : Int32) (x3 : Int32) (x4 : Int32) (x6 : Int32) (s0 : Int32) : Option (Int32 × (Nat → Int32) × Int32 × Int32) :=
  k29 found latest askedIs x3 x4 s0 (x6 + (1 : Int32))
set_option maxHeartbeats 4000000 in
set_option maxRecDepth 100000 in
theorem w_X7_test_b78 {G : x_G} {l : Launch} {a : Nat → Nat} {rows : (Nat → Int32)} {rowLong : (Nat → Int32)} {now : (Nat → Int32)} {kept : (Nat → Int32)} {isKept : (Nat → Int32)} {texts : (Nat → Int32)} {textLong : (Nat → Int32)} {taken : (Nat → Int32)} {anew : (Nat → Int32)} {hand : (Nat → Int32)} {steps : (Nat → Int32)} {shares : (Nat → Int32)} {choices : (Nat → Int32)} {values : (Nat → Int32)} {above : Int64} {below : Int64} {place : Int32} {partedBy : Int32} {k29 : (Nat → Int32) → Int32 → Int32 → Int32 → Int32 → Int32 → Int32 → Option (Int32 × (Nat → Int32) × Int32 × Int32)} {res : Int32 × (Nat → Int32) × Int32 × Int32} (hk29 : ∀ (found : (Nat → Int32)) (latest : Int32) (askedIs : Int32) (x3 : Int32) (x4 : Int32) (x5 : Int32) (x6 : Int32), k29 found latest askedIs x3 x4 x5 x6 = some res → X G l RX7 cX7_test 8 (x_R 3 0 0) (x_Cm G (some .int) false (x_is (some (.int res.1)) (WModel G a now kept isKept rows rowLong texts textLong res.2.1 taken anew hand steps shares choices values res.2.2.1 res.2.2.2 above below place partedBy)) 0 0) 0 0 29 [(0, .ref (a 0)), (3, .int x3), (4, .int x4), (5, .int x5), (6, .int x6)] [] (WModel G a now kept isKept rows rowLong texts textLong found taken anew hand steps shares choices values latest askedIs above below place partedBy)) (found : (Nat → Int32)) (latest : Int32) (askedIs : Int32) (x3 : Int32) (x4 : Int32) (x6 : Int32) (s0 : Int32) (h : M_X7_test_b78 rows rowLong k29 found latest askedIs x3 x4 x6 s0 = some res) : X G l RX7 cX7_test 8 (x_R 3 0 0) (x_Cm G (some .int) false (x_is (some (.int res.1)) (WModel G a now kept isKept rows rowLong texts textLong res.2.1 taken anew hand steps shares choices values res.2.2.1 res.2.2.2 above below place partedBy)) 0 0) 0 0 78 [(0, .ref (a 0)), (3, .int x3), (4, .int x4), (6, .int x6)] [.int s0] (WModel G a now kept isKept rows rowLong texts textLong found taken anew hand steps shares choices values latest askedIs above below place partedBy) := by
  unfold M_X7_test_b78 at h
  refine x_istore [(5, .int s0), (0, .ref (a 0)), (3, .int x3), (4, .int x4), (6, .int x6)] dX7_test_78 (by decide) rfl ?_
  refine x_iinc (j := 4) (1 : Int32) [(6, .int (x6 + (1 : Int32))), (5, .int s0), (0, .ref (a 0)), (3, .int x3), (4, .int x4)] dX7_test_80 (by decide) rfl (by decide) rfl ?_
  refine x_goto 29 dX7_test_83 (by decide) ?_
  refine x_lv [2, 3, 4, 1, 0] rfl ?_
  exact hk29 _ _ _ _ _ _ _ h
def M_X7_test_b62 (rows : (Nat → Int32)) (rowLong : (Nat → Int32)) (k29 : (Nat → Int32) → Int32 → Int32 → Int32 → Int32 → Int32 → Int32 → Option (Int32 × (Nat → Int32) × Int32 × Int32)) (found : (Nat → Int32)) (latest : Int32) (askedIs : Int32) (x3 : Int32) (x5 : Int32) (x6 : Int32) (x7 : Int32) (s0 : Int32) : Option (Int32 × (Nat → Int32) × Int32 × Int32) :=
  if x5 ≤ x7 then
  (M_X7_test_b78 rows rowLong k29 found latest askedIs x3 s0 x6 x5)
  else
  (M_X7_test_b78 rows rowLong k29 found latest askedIs x3 s0 x6 x7)
set_option maxHeartbeats 4000000 in
set_option maxRecDepth 100000 in
theorem w_X7_test_b62 {G : x_G} {l : Launch} {a : Nat → Nat} {rows : (Nat → Int32)} {rowLong : (Nat → Int32)} {now : (Nat → Int32)} {kept : (Nat → Int32)} {isKept : (Nat → Int32)} {texts : (Nat → Int32)} {textLong : (Nat → Int32)} {taken : (Nat → Int32)} {anew : (Nat → Int32)} {hand : (Nat → Int32)} {steps : (Nat → Int32)} {shares : (Nat → Int32)} {choices : (Nat → Int32)} {values : (Nat → Int32)} {above : Int64} {below : Int64} {place : Int32} {partedBy : Int32} {k29 : (Nat → Int32) → Int32 → Int32 → Int32 → Int32 → Int32 → Int32 → Option (Int32 × (Nat → Int32) × Int32 × Int32)} {res : Int32 × (Nat → Int32) × Int32 × Int32} (hk29 : ∀ (found : (Nat → Int32)) (latest : Int32) (askedIs : Int32) (x3 : Int32) (x4 : Int32) (x5 : Int32) (x6 : Int32), k29 found latest askedIs x3 x4 x5 x6 = some res → X G l RX7 cX7_test 8 (x_R 3 0 0) (x_Cm G (some .int) false (x_is (some (.int res.1)) (WModel G a now kept isKept rows rowLong texts textLong res.2.1 taken anew hand steps shares choices values res.2.2.1 res.2.2.2 above below place partedBy)) 0 0) 0 0 29 [(0, .ref (a 0)), (3, .int x3), (4, .int x4), (5, .int x5), (6, .int x6)] [] (WModel G a now kept isKept rows rowLong texts textLong found taken anew hand steps shares choices values latest askedIs above below place partedBy)) (found : (Nat → Int32)) (latest : Int32) (askedIs : Int32) (x3 : Int32) (x5 : Int32) (x6 : Int32) (x7 : Int32) (s0 : Int32) (h : M_X7_test_b62 rows rowLong k29 found latest askedIs x3 x5 x6 x7 s0 = some res) : X G l RX7 cX7_test 8 (x_R 3 0 0) (x_Cm G (some .int) false (x_is (some (.int res.1)) (WModel G a now kept isKept rows rowLong texts textLong res.2.1 taken anew hand steps shares choices values res.2.2.1 res.2.2.2 above below place partedBy)) 0 0) 0 0 62 [(0, .ref (a 0)), (3, .int x3), (5, .int x5), (6, .int x6), (7, .int x7)] [.int s0] (WModel G a now kept isKept rows rowLong texts textLong found taken anew hand steps shares choices values latest askedIs above below place partedBy) := by
  unfold M_X7_test_b62 at h
  refine x_istore [(4, .int s0), (0, .ref (a 0)), (3, .int x3), (5, .int x5), (6, .int x6), (7, .int x7)] dX7_test_62 (by decide) rfl ?_
  refine x_iload dX7_test_64 5 rfl ?_
  refine x_iload dX7_test_66 3 rfl ?_
  refine x_icmp_ge 76 dX7_test_68 (by decide) (fun c6 => ?_) (fun c6 => ?_)
  · have h := x_pos c6 h
    refine x_iload dX7_test_76 3 rfl ?_
    refine x_lv [1, 2, 0, 4] rfl ?_
    exact w_X7_test_b78 hk29 _ _ _ _ _ _ _ h
  · have h := x_neg c6 h
    refine x_iload dX7_test_71 5 rfl ?_
    refine x_goto 78 dX7_test_73 (by decide) ?_
    refine x_lv [1, 2, 0, 4] rfl ?_
    exact w_X7_test_b78 hk29 _ _ _ _ _ _ _ h
def M_X7_test_b86 (rows : (Nat → Int32)) (rowLong : (Nat → Int32)) (found : (Nat → Int32)) (latest : Int32) (askedIs : Int32) (x4 : Int32) (x5 : Int32) : Option (Int32 × (Nat → Int32) × Int32 × Int32) :=
  if x4 = (-9 : Int32) then
  (some (x4, found, latest, askedIs))
  else
  (some (x4, found, latest, (M_X7_asks askedIs x5).2))
set_option maxHeartbeats 4000000 in
set_option maxRecDepth 100000 in
theorem w_X7_test_b86 {G : x_G} {l : Launch} {a : Nat → Nat} {rows : (Nat → Int32)} {rowLong : (Nat → Int32)} {now : (Nat → Int32)} {kept : (Nat → Int32)} {isKept : (Nat → Int32)} {texts : (Nat → Int32)} {textLong : (Nat → Int32)} {taken : (Nat → Int32)} {anew : (Nat → Int32)} {hand : (Nat → Int32)} {steps : (Nat → Int32)} {shares : (Nat → Int32)} {choices : (Nat → Int32)} {values : (Nat → Int32)} {above : Int64} {below : Int64} {place : Int32} {partedBy : Int32} {res : Int32 × (Nat → Int32) × Int32 × Int32} (found : (Nat → Int32)) (latest : Int32) (askedIs : Int32) (x4 : Int32) (x5 : Int32) (h : M_X7_test_b86 rows rowLong found latest askedIs x4 x5 = some res) : X G l RX7 cX7_test 8 (x_R 3 0 0) (x_Cm G (some .int) false (x_is (some (.int res.1)) (WModel G a now kept isKept rows rowLong texts textLong res.2.1 taken anew hand steps shares choices values res.2.2.1 res.2.2.2 above below place partedBy)) 0 0) 0 0 86 [(0, .ref (a 0)), (4, .int x4), (5, .int x5)] [] (WModel G a now kept isKept rows rowLong texts textLong found taken anew hand steps shares choices values latest askedIs above below place partedBy) := by
  unfold M_X7_test_b86 at h
  refine x_iload dX7_test_86 1 rfl ?_
  refine x_bipush (-9 : Int32) dX7_test_88 (by decide) ?_
  refine x_icmp_ne 97 dX7_test_90 (by decide) (fun c7 => ?_) (fun c7 => ?_)
  · have h := x_neg c7 h
    refine x_aload_n dX7_test_97 0 rfl rfl ?_
    refine x_iload dX7_test_98 2 rfl ?_
    refine x_cV (As := [.int x5]) (wc := (WModel G a now kept isKept rows rowLong texts textLong found taken anew hand steps shares choices values latest askedIs above below place partedBy)) (w1 := (WModel G a now kept isKept rows rowLong texts textLong found taken anew hand steps shares choices values latest ((M_X7_asks askedIs x5).2) above below place partedBy)) (pre := []) (post := []) (rest := []) (st1 := [.int ((M_X7_asks askedIs x5).1)]) (ws1 := (WModel G a now kept isKept rows rowLong texts textLong found taken anew hand steps shares choices values latest ((M_X7_asks askedIs x5).2) above below place partedBy)) (ci := 5) 0 dX7_test_100 (c_X7_asks (a := a) rfl) pk_X7_asks ml_X7_87 (x_full _) rfl rfl rfl rfl rfl rfl rfl rfl (x_full _).symm ?_
    refine x_istore [(6, .int ((M_X7_asks askedIs x5).1)), (0, .ref (a 0)), (4, .int x4), (5, .int x5)] dX7_test_103 (by decide) rfl ?_
    refine x_iload dX7_test_105 2 rfl ?_
    cases h
    exact x_ireturn dX7_test_107 rfl (x_is.rf _ _)
  · have h := x_pos c7 h
    refine x_iconst 0 dX7_test_93 (by decide) ?_
    refine x_goto 103 dX7_test_94 (by decide) ?_
    refine x_istore [(6, .int (0 : Int32)), (0, .ref (a 0)), (4, .int x4), (5, .int x5)] dX7_test_103 (by decide) rfl ?_
    refine x_iload dX7_test_105 2 rfl ?_
    cases h
    exact x_ireturn dX7_test_107 rfl (x_is.rf _ _)
def M_X7_test_b29 (rows : (Nat → Int32)) (rowLong : (Nat → Int32)) : Nat → (Nat → Int32) → Int32 → Int32 → Int32 → Int32 → Int32 → Int32 → Option (Int32 × (Nat → Int32) × Int32 × Int32)
  | 0, _, _, _, _, _, _, _ => none
  | n + 1, found, latest, askedIs, x3, x4, x5, x6 =>
    if (20 : Int32) < x6 then
    (M_X7_test_b86 rows rowLong found latest askedIs x4 x5)
    else
    (if x3 = 0 then
    (M_X7_test_b86 rows rowLong found latest askedIs x4 x5)
    else
    ((M_X7_greatestPart x3 x6).bind fun r3 =>
    if x5 ≤ r3 then
    (M_X7_test_b62 rows rowLong (fun (found' : (Nat → Int32)) (latest' : Int32) (askedIs' : Int32) (x3' : Int32) (x4' : Int32) (x5' : Int32) (x6' : Int32) => M_X7_test_b29 rows rowLong n found' latest' askedIs' x3' x4' x5' x6') found latest askedIs x3 x5 x6 r3 x4)
    else
    (M_X7_test_b62 rows rowLong (fun (found' : (Nat → Int32)) (latest' : Int32) (askedIs' : Int32) (x3' : Int32) (x4' : Int32) (x5' : Int32) (x6' : Int32) => M_X7_test_b29 rows rowLong n found' latest' askedIs' x3' x4' x5' x6') found latest askedIs x3 x5 x6 r3 x6)))
set_option maxHeartbeats 4000000 in
set_option maxRecDepth 100000 in
theorem w_X7_test_b29 {G : x_G} {l : Launch} {a : Nat → Nat} {rows : (Nat → Int32)} {rowLong : (Nat → Int32)} {now : (Nat → Int32)} {kept : (Nat → Int32)} {isKept : (Nat → Int32)} {texts : (Nat → Int32)} {textLong : (Nat → Int32)} {taken : (Nat → Int32)} {anew : (Nat → Int32)} {hand : (Nat → Int32)} {steps : (Nat → Int32)} {shares : (Nat → Int32)} {choices : (Nat → Int32)} {values : (Nat → Int32)} {above : Int64} {below : Int64} {place : Int32} {partedBy : Int32} {res : Int32 × (Nat → Int32) × Int32 × Int32} : ∀ (n : Nat) (found : (Nat → Int32)) (latest : Int32) (askedIs : Int32) (x3 : Int32) (x4 : Int32) (x5 : Int32) (x6 : Int32), M_X7_test_b29 rows rowLong n found latest askedIs x3 x4 x5 x6 = some res → X G l RX7 cX7_test 8 (x_R 3 0 0) (x_Cm G (some .int) false (x_is (some (.int res.1)) (WModel G a now kept isKept rows rowLong texts textLong res.2.1 taken anew hand steps shares choices values res.2.2.1 res.2.2.2 above below place partedBy)) 0 0) 0 0 29 [(0, .ref (a 0)), (3, .int x3), (4, .int x4), (5, .int x5), (6, .int x6)] [] (WModel G a now kept isKept rows rowLong texts textLong found taken anew hand steps shares choices values latest askedIs above below place partedBy) := by
  intro n
  induction n with
  | zero =>
    intro _ _ _ _ _ _ _ h
    cases h
  | succ n ih =>
    intro found latest askedIs x3 x4 x5 x6 h
    rw [M_X7_test_b29] at h
    refine x_iload dX7_test_29 4 rfl ?_
    refine x_bipush 20 dX7_test_31 (by decide) ?_
    refine x_icmp_gt 86 dX7_test_33 (by decide) (fun c1 => ?_) (fun c1 => ?_)
    · have h := x_pos c1 h
      refine x_lv [0, 2, 3] rfl ?_
      exact w_X7_test_b86  _ _ _ _ _ h
    · have h := x_neg c1 h
      refine x_iload_n dX7_test_36 1 rfl rfl ?_
      refine x_if_eq 86 dX7_test_37 (by decide) (fun c2 => ?_) (fun c2 => ?_)
      · have h := x_pos c2 h
        refine x_lv [0, 2, 3] rfl ?_
        exact w_X7_test_b86  _ _ _ _ _ h
      · have h := x_neg c2 h
        refine x_iload_n dX7_test_40 1 rfl rfl ?_
        refine x_iload dX7_test_41 4 rfl ?_
        obtain ⟨r3, e4, h⟩ := x_bind h
        refine x_cS (As := [.int x3, .int x6]) (wc := ([] : va_W)) (w1 := ([] : va_W)) (pre := []) (post := (WModel G a now kept isKept rows rowLong texts textLong found taken anew hand steps shares choices values latest askedIs above below place partedBy)) (rest := []) (st1 := [.int r3]) (ws1 := (WModel G a now kept isKept rows rowLong texts textLong found taken anew hand steps shares choices values latest askedIs above below place partedBy)) dX7_test_43 (c_X7_greatestPart e4) pk_X7_greatestPart ml_X7_216 rfl rfl rfl rfl rfl rfl rfl ?_
        refine x_istore [(7, .int r3), (0, .ref (a 0)), (3, .int x3), (4, .int x4), (5, .int x5), (6, .int x6)] dX7_test_46 (by decide) rfl ?_
        refine x_iload dX7_test_48 0 rfl ?_
        refine x_iload dX7_test_50 4 rfl ?_
        refine x_icmp_ge 60 dX7_test_52 (by decide) (fun c5 => ?_) (fun c5 => ?_)
        · have h := x_pos c5 h
          refine x_iload dX7_test_60 3 rfl ?_
          refine x_lv [1, 2, 4, 5, 0] rfl ?_
          exact w_X7_test_b62 (fun found' latest' askedIs' x3' x4' x5' x6' h => ih found' latest' askedIs' x3' x4' x5' x6' h) _ _ _ _ _ _ _ _ h
        · have h := x_neg c5 h
          refine x_iload dX7_test_55 5 rfl ?_
          refine x_goto 62 dX7_test_57 (by decide) ?_
          refine x_lv [1, 2, 4, 5, 0] rfl ?_
          exact w_X7_test_b62 (fun found' latest' askedIs' x3' x4' x5' x6' h => ih found' latest' askedIs' x3' x4' x5' x6' h) _ _ _ _ _ _ _ _ h
def M_X7_test (rows : (Nat → Int32)) (rowLong : (Nat → Int32)) (found : (Nat → Int32)) (latest : Int32) (askedIs : Int32) (x1 : Int32) : Option (Int32 × (Nat → Int32) × Int32 × Int32) :=
  (M_X7_refusesPairs rows rowLong found latest x1).bind fun r8 =>
  if r8.1 = 0 then
  ((M_X7_kindsBy rows rowLong x1).bind fun r11 =>
  M_X7_test_b29 rows rowLong x_fuel r8.2.1 r8.2.2 askedIs r11 (-9 : Int32) (1000000 : Int32) (0 : Int32))
  else
  (some (r8.1, r8.2.1, r8.2.2, askedIs))
set_option maxHeartbeats 4000000 in
set_option maxRecDepth 100000 in
theorem c_X7_test {G : x_G} {l : Launch} {a : Nat → Nat} {rows : (Nat → Int32)} {rowLong : (Nat → Int32)} {now : (Nat → Int32)} {kept : (Nat → Int32)} {isKept : (Nat → Int32)} {texts : (Nat → Int32)} {textLong : (Nat → Int32)} {taken : (Nat → Int32)} {anew : (Nat → Int32)} {hand : (Nat → Int32)} {steps : (Nat → Int32)} {shares : (Nat → Int32)} {choices : (Nat → Int32)} {values : (Nat → Int32)} {above : Int64} {below : Int64} {place : Int32} {partedBy : Int32} {found : (Nat → Int32)} {latest : Int32} {askedIs : Int32} {x1 : Int32} {res : Int32 × (Nat → Int32) × Int32 × Int32} (h : M_X7_test rows rowLong found latest askedIs x1 = some res) : x_M G l yX7_test cX7_test 8 (some .int) (3) 0 0 [.ref (a 0), .int x1] (WModel G a now kept isKept rows rowLong texts textLong found taken anew hand steps shares choices values latest askedIs above below place partedBy) (x_is (some (.int res.1)) (WModel G a now kept isKept rows rowLong texts textLong res.2.1 taken anew hand steps shares choices values res.2.2.1 res.2.2.2 above below place partedBy)) := by
  unfold M_X7_test at h
  refine x_enter (ini := false) (by decide) rfl (by decide) rfl (Nat.le_of_ble_eq_true rfl) ?_
  refine x_aload_n dX7_test_0 0 rfl rfl ?_
  refine x_iload_n dX7_test_1 1 rfl rfl ?_
  obtain ⟨r8, e9, h⟩ := x_bind h
  refine x_cV (As := [.int x1]) (wc := (WModel G a now kept isKept rows rowLong texts textLong found taken anew hand steps shares choices values latest askedIs above below place partedBy)) (w1 := (WModel G a now kept isKept rows rowLong texts textLong r8.2.1 taken anew hand steps shares choices values r8.2.2 askedIs above below place partedBy)) (pre := []) (post := []) (rest := []) (st1 := [.int r8.1]) (ws1 := (WModel G a now kept isKept rows rowLong texts textLong r8.2.1 taken anew hand steps shares choices values r8.2.2 askedIs above below place partedBy)) (ci := 5) 0 dX7_test_2 (c_X7_refusesPairs (a := a) e9) pk_X7_refusesPairs ml_X7_209 (x_full _) rfl rfl rfl rfl rfl rfl rfl rfl (x_full _).symm ?_
  refine x_istore_n [(2, .int r8.1), (0, .ref (a 0)), (1, .int x1)] dX7_test_5 rfl (by decide) rfl ?_
  refine x_iload_n dX7_test_6 0 rfl rfl ?_
  refine x_if_eq 12 dX7_test_7 (by decide) (fun c10 => ?_) (fun c10 => ?_)
  · have h := x_pos c10 h
    refine x_aload_n dX7_test_12 1 rfl rfl ?_
    refine x_iload_n dX7_test_13 2 rfl rfl ?_
    obtain ⟨r11, e12, h⟩ := x_bind h
    refine x_cV (As := [.int x1]) (wc := (WModel G a now kept isKept rows rowLong texts textLong r8.2.1 taken anew hand steps shares choices values r8.2.2 askedIs above below place partedBy)) (w1 := (WModel G a now kept isKept rows rowLong texts textLong r8.2.1 taken anew hand steps shares choices values r8.2.2 askedIs above below place partedBy)) (pre := []) (post := []) (rest := []) (st1 := [.int r11]) (ws1 := (WModel G a now kept isKept rows rowLong texts textLong r8.2.1 taken anew hand steps shares choices values r8.2.2 askedIs above below place partedBy)) (ci := 5) 0 dX7_test_14 (c_X7_kindsBy (a := a) e12) pk_X7_kindsBy ml_X7_212 (x_full _) rfl rfl rfl rfl rfl rfl rfl rfl (x_full _).symm ?_
    refine x_istore_n [(3, .int r11), (2, .int r8.1), (0, .ref (a 0)), (1, .int x1)] dX7_test_17 rfl (by decide) rfl ?_
    refine x_bipush (-9 : Int32) dX7_test_18 (by decide) ?_
    refine x_istore [(4, .int (-9 : Int32)), (3, .int r11), (2, .int r8.1), (0, .ref (a 0)), (1, .int x1)] dX7_test_20 (by decide) rfl ?_
    refine x_ldc dX7_test_22 kc_X7_215 ?_
    refine x_istore [(5, .int (1000000 : Int32)), (4, .int (-9 : Int32)), (3, .int r11), (2, .int r8.1), (0, .ref (a 0)), (1, .int x1)] dX7_test_24 (by decide) rfl ?_
    refine x_iconst 0 dX7_test_26 (by decide) ?_
    refine x_istore [(6, .int (0 : Int32)), (5, .int (1000000 : Int32)), (4, .int (-9 : Int32)), (3, .int r11), (2, .int r8.1), (0, .ref (a 0)), (1, .int x1)] dX7_test_27 (by decide) rfl ?_
    refine x_lv [5, 3, 2, 1, 0] rfl ?_
    exact w_X7_test_b29  _ _ _ _ _ _ _ _ h
  · have h := x_neg c10 h
    refine x_iload_n dX7_test_10 0 rfl rfl ?_
    cases h
    exact x_ireturn dX7_test_11 rfl (x_is.rf _ _)
theorem pk_X7_startOf : x_ps yX7_startOf cX7_startOf 1 (some .int) 1 := ⟨⟨co_X7_startOf, ni_X7, by decide, by decide +kernel⟩, sm_X7_startOf⟩
def M_X7_startOf (x0 : Int32) : Int32 :=
  if (x0 - x0 / (2 : Int32) * (2 : Int32)) = 0 then
  ((-1000000 : Int32))
  else
  ((1000000 : Int32))
set_option maxHeartbeats 4000000 in
set_option maxRecDepth 100000 in
theorem c_X7_startOf {G : x_G} {l : Launch} {x0 : Int32} {res : Int32} (h : M_X7_startOf x0 = res) : x_M G l yX7_startOf cX7_startOf 1 (some .int) (0) 0 0 [.int x0] ([] : va_W) (x_is (some (.int res)) ([] : va_W)) := by
  unfold M_X7_startOf at h
  refine x_enter (ini := false) (by decide) rfl (by decide) rfl (Nat.le_of_ble_eq_true rfl) ?_
  refine x_iload_n dX7_startOf_0 0 rfl rfl ?_
  refine x_iconst 2 dX7_startOf_1 (by decide) ?_
  refine x_irem dX7_startOf_2 (by decide) ?_
  refine x_if_ne 11 dX7_startOf_3 (by decide) (fun c1 => ?_) (fun c1 => ?_)
  · have h := x_neg c1 h
    refine x_ldc dX7_startOf_11 kc_X7_215 ?_
    subst h
    exact x_ireturn dX7_startOf_13 rfl (x_is.rf _ _)
  · have h := x_pos c1 h
    refine x_ldc dX7_startOf_6 kc_X7_219 ?_
    refine x_goto 13 dX7_startOf_8 (by decide) ?_
    subst h
    exact x_ireturn dX7_startOf_13 rfl (x_is.rf _ _)
theorem pk_X7_goChoices : x_pv RX7 yX7_goChoices cX7_goChoices 5 (some .int) 1 := ⟨⟨co_X7_goChoices, ni_X7, by decide, by decide +kernel⟩, im_X7_goChoices, se_X7_goChoices⟩
def M_X7_goChoices_b97 (now : (Nat → Int32)) (choices : (Nat → Int32)) (k8 : (Nat → Int32) → Int32 → Int32 → Int32 → Int32 → Option (Int32 × (Nat → Int32) × Int32)) (hand : (Nat → Int32)) (partedBy : Int32) (x1 : Int32) (x2 : Int32) (x3 : Int32) : Option (Int32 × (Nat → Int32) × Int32) :=
  k8 hand partedBy x1 x2 (x3 + (1 : Int32))
set_option maxHeartbeats 4000000 in
set_option maxRecDepth 100000 in
theorem w_X7_goChoices_b97 {G : x_G} {l : Launch} {a : Nat → Nat} {now : (Nat → Int32)} {choices : (Nat → Int32)} {kept : (Nat → Int32)} {isKept : (Nat → Int32)} {rows : (Nat → Int32)} {rowLong : (Nat → Int32)} {texts : (Nat → Int32)} {textLong : (Nat → Int32)} {found : (Nat → Int32)} {taken : (Nat → Int32)} {anew : (Nat → Int32)} {steps : (Nat → Int32)} {shares : (Nat → Int32)} {values : (Nat → Int32)} {latest : Int32} {askedIs : Int32} {above : Int64} {below : Int64} {place : Int32} {k8 : (Nat → Int32) → Int32 → Int32 → Int32 → Int32 → Option (Int32 × (Nat → Int32) × Int32)} {res : Int32 × (Nat → Int32) × Int32} (hk8 : ∀ (hand : (Nat → Int32)) (partedBy : Int32) (x1 : Int32) (x2 : Int32) (x3 : Int32), k8 hand partedBy x1 x2 x3 = some res → X G l RX7 cX7_goChoices 5 (x_R 4 0 0) (x_Cm G (some .int) false (x_is (some (.int res.1)) (WModel G a now kept isKept rows rowLong texts textLong found taken anew res.2.1 steps shares choices values latest askedIs above below place res.2.2)) 0 0) 0 0 8 [(0, .ref (a 0)), (1, .int x1), (2, .int x2), (3, .int x3)] [] (WModel G a now kept isKept rows rowLong texts textLong found taken anew hand steps shares choices values latest askedIs above below place partedBy)) (hand : (Nat → Int32)) (partedBy : Int32) (x1 : Int32) (x2 : Int32) (x3 : Int32) (h : M_X7_goChoices_b97 now choices k8 hand partedBy x1 x2 x3 = some res) : X G l RX7 cX7_goChoices 5 (x_R 4 0 0) (x_Cm G (some .int) false (x_is (some (.int res.1)) (WModel G a now kept isKept rows rowLong texts textLong found taken anew res.2.1 steps shares choices values latest askedIs above below place res.2.2)) 0 0) 0 0 97 [(0, .ref (a 0)), (1, .int x1), (2, .int x2), (3, .int x3)] [] (WModel G a now kept isKept rows rowLong texts textLong found taken anew hand steps shares choices values latest askedIs above below place partedBy) := by
  unfold M_X7_goChoices_b97 at h
  refine x_iinc (j := 3) (1 : Int32) [(3, .int (x3 + (1 : Int32))), (0, .ref (a 0)), (1, .int x1), (2, .int x2)] dX7_goChoices_97 (by decide) rfl (by decide) rfl ?_
  refine x_goto 8 dX7_goChoices_100 (by decide) ?_
  refine x_lv [1, 2, 3, 0] rfl ?_
  exact hk8 _ _ _ _ _ h
def M_X7_goChoices_b70 (now : (Nat → Int32)) (choices : (Nat → Int32)) (k8 : (Nat → Int32) → Int32 → Int32 → Int32 → Int32 → Option (Int32 × (Nat → Int32) × Int32)) (hand : (Nat → Int32)) (partedBy : Int32) (x1 : Int32) (x3 : Int32) (x4 : Int32) (s0 : Int32) : Option (Int32 × (Nat → Int32) × Int32) :=
  if s0 = 0 then
  (M_X7_goChoices_b97 now choices k8 hand partedBy x1 s0 x3)
  else
  (if inb x3 6 then
  if (choices x3.toNatClampNeg) ≤ 0 then
  (M_X7_goChoices_b97 now choices k8 hand partedBy x1 s0 x3)
  else
  ((M_X7_goDeed_hand hand partedBy ((110 : Int32) + x4)).bind fun r11 =>
  M_X7_goChoices_b97 now choices k8 r11.1 r11.2 x1 s0 x3)
  else none)
set_option maxHeartbeats 4000000 in
set_option maxRecDepth 100000 in
theorem w_X7_goChoices_b70 {G : x_G} {l : Launch} {a : Nat → Nat} {now : (Nat → Int32)} {choices : (Nat → Int32)} {kept : (Nat → Int32)} {isKept : (Nat → Int32)} {rows : (Nat → Int32)} {rowLong : (Nat → Int32)} {texts : (Nat → Int32)} {textLong : (Nat → Int32)} {found : (Nat → Int32)} {taken : (Nat → Int32)} {anew : (Nat → Int32)} {steps : (Nat → Int32)} {shares : (Nat → Int32)} {values : (Nat → Int32)} {latest : Int32} {askedIs : Int32} {above : Int64} {below : Int64} {place : Int32} {k8 : (Nat → Int32) → Int32 → Int32 → Int32 → Int32 → Option (Int32 × (Nat → Int32) × Int32)} {res : Int32 × (Nat → Int32) × Int32} (hk8 : ∀ (hand : (Nat → Int32)) (partedBy : Int32) (x1 : Int32) (x2 : Int32) (x3 : Int32), k8 hand partedBy x1 x2 x3 = some res → X G l RX7 cX7_goChoices 5 (x_R 4 0 0) (x_Cm G (some .int) false (x_is (some (.int res.1)) (WModel G a now kept isKept rows rowLong texts textLong found taken anew res.2.1 steps shares choices values latest askedIs above below place res.2.2)) 0 0) 0 0 8 [(0, .ref (a 0)), (1, .int x1), (2, .int x2), (3, .int x3)] [] (WModel G a now kept isKept rows rowLong texts textLong found taken anew hand steps shares choices values latest askedIs above below place partedBy)) (hand : (Nat → Int32)) (partedBy : Int32) (x1 : Int32) (x3 : Int32) (x4 : Int32) (s0 : Int32) (h : M_X7_goChoices_b70 now choices k8 hand partedBy x1 x3 x4 s0 = some res) : X G l RX7 cX7_goChoices 5 (x_R 4 0 0) (x_Cm G (some .int) false (x_is (some (.int res.1)) (WModel G a now kept isKept rows rowLong texts textLong found taken anew res.2.1 steps shares choices values latest askedIs above below place res.2.2)) 0 0) 0 0 70 [(0, .ref (a 0)), (1, .int x1), (3, .int x3), (4, .int x4)] [.int s0] (WModel G a now kept isKept rows rowLong texts textLong found taken anew hand steps shares choices values latest askedIs above below place partedBy) := by
  unfold M_X7_goChoices_b70 at h
  refine x_istore_n [(2, .int s0), (0, .ref (a 0)), (1, .int x1), (3, .int x3), (4, .int x4)] dX7_goChoices_70 rfl (by decide) rfl ?_
  refine x_iload_n dX7_goChoices_71 0 rfl rfl ?_
  refine x_if_eq 97 dX7_goChoices_72 (by decide) (fun c8 => ?_) (fun c8 => ?_)
  · have h := x_pos c8 h
    refine x_lv [1, 2, 0, 3] rfl ?_
    exact w_X7_goChoices_b97 hk8 _ _ _ _ _ h
  · have h := x_neg c8 h
    refine x_aload_n dX7_goChoices_75 1 rfl rfl ?_
    refine x_get (ci := 5) 19 0 dX7_goChoices_76 fl_X7_54 inX7 rfl (by decide) ⟨rfl, rfl, rfl⟩ rfl rfl ?_
    refine x_iload_n dX7_goChoices_79 3 rfl rfl ?_
    obtain ⟨b9, h⟩ := x_guard h
    refine x_iald x3.toNatClampNeg (q0 := 14) dX7_goChoices_80 rfl rfl b9 ?_
    refine x_if_le 97 dX7_goChoices_81 (by decide) (fun c10 => ?_) (fun c10 => ?_)
    · have h := x_pos c10 h
      refine x_lv [1, 2, 0, 3] rfl ?_
      exact w_X7_goChoices_b97 hk8 _ _ _ _ _ h
    · have h := x_neg c10 h
      refine x_aload_n dX7_goChoices_84 1 rfl rfl ?_
      refine x_aload_n dX7_goChoices_85 1 rfl rfl ?_
      refine x_get (ci := 5) 16 0 dX7_goChoices_86 fl_X7_45 inX7 rfl (by decide) ⟨rfl, rfl, rfl⟩ rfl rfl ?_
      refine x_bipush 110 dX7_goChoices_89 (by decide) ?_
      refine x_iload dX7_goChoices_91 4 rfl ?_
      refine x_iadd dX7_goChoices_93 ?_
      obtain ⟨r11, e12, h⟩ := x_bind h
      refine x_cV (As := [.ref (a 11), .int ((110 : Int32) + x4)]) (wc := (WModel G a now kept isKept rows rowLong texts textLong found taken anew hand steps shares choices values latest askedIs above below place partedBy)) (w1 := (WModel G a now kept isKept rows rowLong texts textLong found taken anew r11.1 steps shares choices values latest askedIs above below place r11.2)) (pre := []) (post := []) (rest := []) (st1 := []) (ws1 := (WModel G a now kept isKept rows rowLong texts textLong found taken anew r11.1 steps shares choices values latest askedIs above below place r11.2)) (ci := 5) 0 dX7_goChoices_94 (c_X7_goDeed_hand (a := a) e12) pk_X7_goDeed ml_X7_151 (x_full _) rfl rfl rfl rfl rfl rfl rfl rfl (x_full _).symm ?_
      refine x_lv [1, 2, 0, 3] rfl ?_
      exact w_X7_goChoices_b97 hk8 _ _ _ _ _ h
def M_X7_goChoices_b65 (now : (Nat → Int32)) (choices : (Nat → Int32)) (k8 : (Nat → Int32) → Int32 → Int32 → Int32 → Int32 → Option (Int32 × (Nat → Int32) × Int32)) (hand : (Nat → Int32)) (partedBy : Int32) (x1 : Int32) (x3 : Int32) (x4 : Int32) : Option (Int32 × (Nat → Int32) × Int32) :=
  M_X7_goChoices_b70 now choices k8 hand partedBy x1 x3 x4 (1 : Int32)
set_option maxHeartbeats 4000000 in
set_option maxRecDepth 100000 in
theorem w_X7_goChoices_b65 {G : x_G} {l : Launch} {a : Nat → Nat} {now : (Nat → Int32)} {choices : (Nat → Int32)} {kept : (Nat → Int32)} {isKept : (Nat → Int32)} {rows : (Nat → Int32)} {rowLong : (Nat → Int32)} {texts : (Nat → Int32)} {textLong : (Nat → Int32)} {found : (Nat → Int32)} {taken : (Nat → Int32)} {anew : (Nat → Int32)} {steps : (Nat → Int32)} {shares : (Nat → Int32)} {values : (Nat → Int32)} {latest : Int32} {askedIs : Int32} {above : Int64} {below : Int64} {place : Int32} {k8 : (Nat → Int32) → Int32 → Int32 → Int32 → Int32 → Option (Int32 × (Nat → Int32) × Int32)} {res : Int32 × (Nat → Int32) × Int32} (hk8 : ∀ (hand : (Nat → Int32)) (partedBy : Int32) (x1 : Int32) (x2 : Int32) (x3 : Int32), k8 hand partedBy x1 x2 x3 = some res → X G l RX7 cX7_goChoices 5 (x_R 4 0 0) (x_Cm G (some .int) false (x_is (some (.int res.1)) (WModel G a now kept isKept rows rowLong texts textLong found taken anew res.2.1 steps shares choices values latest askedIs above below place res.2.2)) 0 0) 0 0 8 [(0, .ref (a 0)), (1, .int x1), (2, .int x2), (3, .int x3)] [] (WModel G a now kept isKept rows rowLong texts textLong found taken anew hand steps shares choices values latest askedIs above below place partedBy)) (hand : (Nat → Int32)) (partedBy : Int32) (x1 : Int32) (x3 : Int32) (x4 : Int32) (h : M_X7_goChoices_b65 now choices k8 hand partedBy x1 x3 x4 = some res) : X G l RX7 cX7_goChoices 5 (x_R 4 0 0) (x_Cm G (some .int) false (x_is (some (.int res.1)) (WModel G a now kept isKept rows rowLong texts textLong found taken anew res.2.1 steps shares choices values latest askedIs above below place res.2.2)) 0 0) 0 0 65 [(0, .ref (a 0)), (1, .int x1), (3, .int x3), (4, .int x4)] [] (WModel G a now kept isKept rows rowLong texts textLong found taken anew hand steps shares choices values latest askedIs above below place partedBy) := by
  unfold M_X7_goChoices_b65 at h
  refine x_iconst 1 dX7_goChoices_65 (by decide) ?_
  refine x_goto 70 dX7_goChoices_66 (by decide) ?_
  exact w_X7_goChoices_b70 hk8 _ _ _ _ _ _ h
def M_X7_goChoices_b69 (now : (Nat → Int32)) (choices : (Nat → Int32)) (k8 : (Nat → Int32) → Int32 → Int32 → Int32 → Int32 → Option (Int32 × (Nat → Int32) × Int32)) (hand : (Nat → Int32)) (partedBy : Int32) (x1 : Int32) (x3 : Int32) (x4 : Int32) : Option (Int32 × (Nat → Int32) × Int32) :=
  M_X7_goChoices_b70 now choices k8 hand partedBy x1 x3 x4 (0 : Int32)
set_option maxHeartbeats 4000000 in
set_option maxRecDepth 100000 in
theorem w_X7_goChoices_b69 {G : x_G} {l : Launch} {a : Nat → Nat} {now : (Nat → Int32)} {choices : (Nat → Int32)} {kept : (Nat → Int32)} {isKept : (Nat → Int32)} {rows : (Nat → Int32)} {rowLong : (Nat → Int32)} {texts : (Nat → Int32)} {textLong : (Nat → Int32)} {found : (Nat → Int32)} {taken : (Nat → Int32)} {anew : (Nat → Int32)} {steps : (Nat → Int32)} {shares : (Nat → Int32)} {values : (Nat → Int32)} {latest : Int32} {askedIs : Int32} {above : Int64} {below : Int64} {place : Int32} {k8 : (Nat → Int32) → Int32 → Int32 → Int32 → Int32 → Option (Int32 × (Nat → Int32) × Int32)} {res : Int32 × (Nat → Int32) × Int32} (hk8 : ∀ (hand : (Nat → Int32)) (partedBy : Int32) (x1 : Int32) (x2 : Int32) (x3 : Int32), k8 hand partedBy x1 x2 x3 = some res → X G l RX7 cX7_goChoices 5 (x_R 4 0 0) (x_Cm G (some .int) false (x_is (some (.int res.1)) (WModel G a now kept isKept rows rowLong texts textLong found taken anew res.2.1 steps shares choices values latest askedIs above below place res.2.2)) 0 0) 0 0 8 [(0, .ref (a 0)), (1, .int x1), (2, .int x2), (3, .int x3)] [] (WModel G a now kept isKept rows rowLong texts textLong found taken anew hand steps shares choices values latest askedIs above below place partedBy)) (hand : (Nat → Int32)) (partedBy : Int32) (x1 : Int32) (x3 : Int32) (x4 : Int32) (h : M_X7_goChoices_b69 now choices k8 hand partedBy x1 x3 x4 = some res) : X G l RX7 cX7_goChoices 5 (x_R 4 0 0) (x_Cm G (some .int) false (x_is (some (.int res.1)) (WModel G a now kept isKept rows rowLong texts textLong found taken anew res.2.1 steps shares choices values latest askedIs above below place res.2.2)) 0 0) 0 0 69 [(0, .ref (a 0)), (1, .int x1), (3, .int x3), (4, .int x4)] [] (WModel G a now kept isKept rows rowLong texts textLong found taken anew hand steps shares choices values latest askedIs above below place partedBy) := by
  unfold M_X7_goChoices_b69 at h
  refine x_iconst 0 dX7_goChoices_69 (by decide) ?_
  exact w_X7_goChoices_b70 hk8 _ _ _ _ _ _ h
def M_X7_goChoices_b33 (now : (Nat → Int32)) (choices : (Nat → Int32)) (k8 : (Nat → Int32) → Int32 → Int32 → Int32 → Int32 → Option (Int32 × (Nat → Int32) × Int32)) (hand : (Nat → Int32)) (partedBy : Int32) (x1 : Int32) (x3 : Int32) (x4 : Int32) : Option (Int32 × (Nat → Int32) × Int32) :=
  if inb x3 6 then
  if (choices x3.toNatClampNeg) = 0 then
  (M_X7_goChoices_b65 now choices k8 hand partedBy x1 x3 x4)
  else
  (if (now 0) ≤ x4 then
  (M_X7_goChoices_b69 now choices k8 hand partedBy x1 x3 x4)
  else
  (if (M_X7_isFast_85 hand x4) = 0 then
  (M_X7_goChoices_b69 now choices k8 hand partedBy x1 x3 x4)
  else
  (M_X7_goChoices_b65 now choices k8 hand partedBy x1 x3 x4)))
  else none
set_option maxHeartbeats 4000000 in
set_option maxRecDepth 100000 in
theorem w_X7_goChoices_b33 {G : x_G} {l : Launch} {a : Nat → Nat} {now : (Nat → Int32)} {choices : (Nat → Int32)} {kept : (Nat → Int32)} {isKept : (Nat → Int32)} {rows : (Nat → Int32)} {rowLong : (Nat → Int32)} {texts : (Nat → Int32)} {textLong : (Nat → Int32)} {found : (Nat → Int32)} {taken : (Nat → Int32)} {anew : (Nat → Int32)} {steps : (Nat → Int32)} {shares : (Nat → Int32)} {values : (Nat → Int32)} {latest : Int32} {askedIs : Int32} {above : Int64} {below : Int64} {place : Int32} {k8 : (Nat → Int32) → Int32 → Int32 → Int32 → Int32 → Option (Int32 × (Nat → Int32) × Int32)} {res : Int32 × (Nat → Int32) × Int32} (hk8 : ∀ (hand : (Nat → Int32)) (partedBy : Int32) (x1 : Int32) (x2 : Int32) (x3 : Int32), k8 hand partedBy x1 x2 x3 = some res → X G l RX7 cX7_goChoices 5 (x_R 4 0 0) (x_Cm G (some .int) false (x_is (some (.int res.1)) (WModel G a now kept isKept rows rowLong texts textLong found taken anew res.2.1 steps shares choices values latest askedIs above below place res.2.2)) 0 0) 0 0 8 [(0, .ref (a 0)), (1, .int x1), (2, .int x2), (3, .int x3)] [] (WModel G a now kept isKept rows rowLong texts textLong found taken anew hand steps shares choices values latest askedIs above below place partedBy)) (hand : (Nat → Int32)) (partedBy : Int32) (x1 : Int32) (x3 : Int32) (x4 : Int32) (h : M_X7_goChoices_b33 now choices k8 hand partedBy x1 x3 x4 = some res) : X G l RX7 cX7_goChoices 5 (x_R 4 0 0) (x_Cm G (some .int) false (x_is (some (.int res.1)) (WModel G a now kept isKept rows rowLong texts textLong found taken anew res.2.1 steps shares choices values latest askedIs above below place res.2.2)) 0 0) 0 0 33 [(0, .ref (a 0)), (1, .int x1), (3, .int x3), (4, .int x4)] [] (WModel G a now kept isKept rows rowLong texts textLong found taken anew hand steps shares choices values latest askedIs above below place partedBy) := by
  unfold M_X7_goChoices_b33 at h
  refine x_aload_n dX7_goChoices_33 0 rfl rfl ?_
  refine x_get (ci := 5) 19 0 dX7_goChoices_34 fl_X7_54 inX7 rfl (by decide) ⟨rfl, rfl, rfl⟩ rfl rfl ?_
  refine x_iload_n dX7_goChoices_37 2 rfl rfl ?_
  obtain ⟨b4, h⟩ := x_guard h
  refine x_iald x3.toNatClampNeg (q0 := 14) dX7_goChoices_38 rfl rfl b4 ?_
  refine x_if_eq 65 dX7_goChoices_39 (by decide) (fun c5 => ?_) (fun c5 => ?_)
  · have h := x_pos c5 h
    exact w_X7_goChoices_b65 hk8 _ _ _ _ _ h
  · have h := x_neg c5 h
    refine x_iload dX7_goChoices_42 3 rfl ?_
    refine x_aload_n dX7_goChoices_44 0 rfl rfl ?_
    refine x_get (ci := 5) 0 0 dX7_goChoices_45 fl_X7_7 inX7 rfl (by decide) ⟨rfl, rfl, rfl⟩ rfl rfl ?_
    refine x_iconst 0 dX7_goChoices_48 (by decide) ?_
    refine x_iald 0 (q0 := 1) dX7_goChoices_49 (by decide) rfl (by decide) ?_
    refine x_icmp_ge 69 dX7_goChoices_50 (by decide) (fun c6 => ?_) (fun c6 => ?_)
    · have h := x_pos c6 h
      exact w_X7_goChoices_b69 hk8 _ _ _ _ _ h
    · have h := x_neg c6 h
      refine x_aload_n dX7_goChoices_53 0 rfl rfl ?_
      refine x_get (ci := 5) 16 0 dX7_goChoices_54 fl_X7_45 inX7 rfl (by decide) ⟨rfl, rfl, rfl⟩ rfl rfl ?_
      refine x_iload dX7_goChoices_57 3 rfl ?_
      refine x_cS (As := [.ref (a 11), .int x4]) (wc := (WArr G (fun k => a (11 + k)) 85 hand)) (w1 := (WArr G (fun k => a (11 + k)) 85 hand)) (pre := ((WModel G a now kept isKept rows rowLong texts textLong found taken anew hand steps shares choices values latest askedIs above below place partedBy).take 11)) (post := ((WModel G a now kept isKept rows rowLong texts textLong found taken anew hand steps shares choices values latest askedIs above below place partedBy).drop 12)) (rest := []) (st1 := [.int (M_X7_isFast_85 hand x4)]) (ws1 := (WModel G a now kept isKept rows rowLong texts textLong found taken anew hand steps shares choices values latest askedIs above below place partedBy)) dX7_goChoices_59 (c_X7_isFast_85 (aq := (fun k => a (11 + k))) rfl) pk_X7_isFast ml_X7_143 rfl rfl rfl rfl rfl rfl rfl ?_
      refine x_if_eq 69 dX7_goChoices_62 (by decide) (fun c7 => ?_) (fun c7 => ?_)
      · have h := x_pos c7 h
        exact w_X7_goChoices_b69 hk8 _ _ _ _ _ h
      · have h := x_neg c7 h
        exact w_X7_goChoices_b65 hk8 _ _ _ _ _ h
def M_X7_goChoices_b103 (now : (Nat → Int32)) (choices : (Nat → Int32)) (hand : (Nat → Int32)) (partedBy : Int32) (x2 : Int32) : Option (Int32 × (Nat → Int32) × Int32) :=
  if x2 = 0 then
  (some ((1000000 : Int32), hand, partedBy))
  else
  ((M_X7_bits ((hand 83) &&& (42 : Int32))).bind fun r14 =>
  (M_X7_bits ((hand 83) &&& (21 : Int32))).bind fun r16 =>
  some ((r14 - r16), hand, partedBy))
set_option maxHeartbeats 4000000 in
set_option maxRecDepth 100000 in
theorem w_X7_goChoices_b103 {G : x_G} {l : Launch} {a : Nat → Nat} {now : (Nat → Int32)} {choices : (Nat → Int32)} {kept : (Nat → Int32)} {isKept : (Nat → Int32)} {rows : (Nat → Int32)} {rowLong : (Nat → Int32)} {texts : (Nat → Int32)} {textLong : (Nat → Int32)} {found : (Nat → Int32)} {taken : (Nat → Int32)} {anew : (Nat → Int32)} {steps : (Nat → Int32)} {shares : (Nat → Int32)} {values : (Nat → Int32)} {latest : Int32} {askedIs : Int32} {above : Int64} {below : Int64} {place : Int32} {res : Int32 × (Nat → Int32) × Int32} (hand : (Nat → Int32)) (partedBy : Int32) (x2 : Int32) (h : M_X7_goChoices_b103 now choices hand partedBy x2 = some res) : X G l RX7 cX7_goChoices 5 (x_R 4 0 0) (x_Cm G (some .int) false (x_is (some (.int res.1)) (WModel G a now kept isKept rows rowLong texts textLong found taken anew res.2.1 steps shares choices values latest askedIs above below place res.2.2)) 0 0) 0 0 103 [(0, .ref (a 0)), (2, .int x2)] [] (WModel G a now kept isKept rows rowLong texts textLong found taken anew hand steps shares choices values latest askedIs above below place partedBy) := by
  unfold M_X7_goChoices_b103 at h
  refine x_iload_n dX7_goChoices_103 1 rfl rfl ?_
  refine x_if_eq 137 dX7_goChoices_104 (by decide) (fun c13 => ?_) (fun c13 => ?_)
  · have h := x_pos c13 h
    refine x_ldc dX7_goChoices_137 kc_X7_215 ?_
    cases h
    exact x_ireturn dX7_goChoices_139 rfl (x_is.rf _ _)
  · have h := x_neg c13 h
    refine x_aload_n dX7_goChoices_107 0 rfl rfl ?_
    refine x_get (ci := 5) 16 0 dX7_goChoices_108 fl_X7_45 inX7 rfl (by decide) ⟨rfl, rfl, rfl⟩ rfl rfl ?_
    refine x_bipush 83 dX7_goChoices_111 (by decide) ?_
    refine x_iald 83 (q0 := 11) dX7_goChoices_113 (by decide) rfl (by decide) ?_
    refine x_bipush 42 dX7_goChoices_114 (by decide) ?_
    refine x_iand dX7_goChoices_116 ?_
    obtain ⟨r14, e15, h⟩ := x_bind h
    refine x_cS (As := [.int ((hand 83) &&& (42 : Int32))]) (wc := ([] : va_W)) (w1 := ([] : va_W)) (pre := []) (post := (WModel G a now kept isKept rows rowLong texts textLong found taken anew hand steps shares choices values latest askedIs above below place partedBy)) (rest := []) (st1 := [.int r14]) (ws1 := (WModel G a now kept isKept rows rowLong texts textLong found taken anew hand steps shares choices values latest askedIs above below place partedBy)) dX7_goChoices_117 (c_X7_bits e15) pk_X7_bits ml_X7_171 rfl rfl rfl rfl rfl rfl rfl ?_
    refine x_aload_n dX7_goChoices_120 0 rfl rfl ?_
    refine x_get (ci := 5) 16 0 dX7_goChoices_121 fl_X7_45 inX7 rfl (by decide) ⟨rfl, rfl, rfl⟩ rfl rfl ?_
    refine x_bipush 83 dX7_goChoices_124 (by decide) ?_
    refine x_iald 83 (q0 := 11) dX7_goChoices_126 (by decide) rfl (by decide) ?_
    refine x_bipush 21 dX7_goChoices_127 (by decide) ?_
    refine x_iand dX7_goChoices_129 ?_
    obtain ⟨r16, e17, h⟩ := x_bind h
    refine x_cS (As := [.int ((hand 83) &&& (21 : Int32))]) (wc := ([] : va_W)) (w1 := ([] : va_W)) (pre := []) (post := (WModel G a now kept isKept rows rowLong texts textLong found taken anew hand steps shares choices values latest askedIs above below place partedBy)) (rest := [.int r14]) (st1 := [.int r16, .int r14]) (ws1 := (WModel G a now kept isKept rows rowLong texts textLong found taken anew hand steps shares choices values latest askedIs above below place partedBy)) dX7_goChoices_130 (c_X7_bits e17) pk_X7_bits ml_X7_171 rfl rfl rfl rfl rfl rfl rfl ?_
    refine x_isub dX7_goChoices_133 ?_
    refine x_goto 139 dX7_goChoices_134 (by decide) ?_
    cases h
    exact x_ireturn dX7_goChoices_139 rfl (x_is.rf _ _)
def M_X7_goChoices_b8 (now : (Nat → Int32)) (choices : (Nat → Int32)) : Nat → (Nat → Int32) → Int32 → Int32 → Int32 → Int32 → Option (Int32 × (Nat → Int32) × Int32)
  | 0, _, _, _, _, _ => none
  | n + 1, hand, partedBy, x1, x2, x3 =>
    if x1 ≤ x3 then
    (M_X7_goChoices_b103 now choices hand partedBy x2)
    else
    (if x2 = 0 then
    (M_X7_goChoices_b103 now choices hand partedBy x2)
    else
    (if inb x3 6 then
    M_X7_goChoices_b33 now choices (fun (hand' : (Nat → Int32)) (partedBy' : Int32) (x1' : Int32) (x2' : Int32) (x3' : Int32) => M_X7_goChoices_b8 now choices n hand' partedBy' x1' x2' x3') hand partedBy x1 x3 (((2 : Int32) * ((choices x3.toNatClampNeg) - (1 : Int32))) + (x3 - x3 / (2 : Int32) * (2 : Int32)))
    else none))
set_option maxHeartbeats 4000000 in
set_option maxRecDepth 100000 in
theorem w_X7_goChoices_b8 {G : x_G} {l : Launch} {a : Nat → Nat} {now : (Nat → Int32)} {choices : (Nat → Int32)} {kept : (Nat → Int32)} {isKept : (Nat → Int32)} {rows : (Nat → Int32)} {rowLong : (Nat → Int32)} {texts : (Nat → Int32)} {textLong : (Nat → Int32)} {found : (Nat → Int32)} {taken : (Nat → Int32)} {anew : (Nat → Int32)} {steps : (Nat → Int32)} {shares : (Nat → Int32)} {values : (Nat → Int32)} {latest : Int32} {askedIs : Int32} {above : Int64} {below : Int64} {place : Int32} {res : Int32 × (Nat → Int32) × Int32} : ∀ (n : Nat) (hand : (Nat → Int32)) (partedBy : Int32) (x1 : Int32) (x2 : Int32) (x3 : Int32), M_X7_goChoices_b8 now choices n hand partedBy x1 x2 x3 = some res → X G l RX7 cX7_goChoices 5 (x_R 4 0 0) (x_Cm G (some .int) false (x_is (some (.int res.1)) (WModel G a now kept isKept rows rowLong texts textLong found taken anew res.2.1 steps shares choices values latest askedIs above below place res.2.2)) 0 0) 0 0 8 [(0, .ref (a 0)), (1, .int x1), (2, .int x2), (3, .int x3)] [] (WModel G a now kept isKept rows rowLong texts textLong found taken anew hand steps shares choices values latest askedIs above below place partedBy) := by
  intro n
  induction n with
  | zero =>
    intro _ _ _ _ _ h
    cases h
  | succ n ih =>
    intro hand partedBy x1 x2 x3 h
    rw [M_X7_goChoices_b8] at h
    refine x_iload_n dX7_goChoices_8 3 rfl rfl ?_
    refine x_iload_n dX7_goChoices_9 1 rfl rfl ?_
    refine x_icmp_ge 103 dX7_goChoices_10 (by decide) (fun c1 => ?_) (fun c1 => ?_)
    · have h := x_pos c1 h
      refine x_lv [0, 2] rfl ?_
      exact w_X7_goChoices_b103  _ _ _ h
    · have h := x_neg c1 h
      refine x_iload_n dX7_goChoices_13 2 rfl rfl ?_
      refine x_if_eq 103 dX7_goChoices_14 (by decide) (fun c2 => ?_) (fun c2 => ?_)
      · have h := x_pos c2 h
        refine x_lv [0, 2] rfl ?_
        exact w_X7_goChoices_b103  _ _ _ h
      · have h := x_neg c2 h
        refine x_iconst 2 dX7_goChoices_17 (by decide) ?_
        refine x_aload_n dX7_goChoices_18 0 rfl rfl ?_
        refine x_get (ci := 5) 19 0 dX7_goChoices_19 fl_X7_54 inX7 rfl (by decide) ⟨rfl, rfl, rfl⟩ rfl rfl ?_
        refine x_iload_n dX7_goChoices_22 3 rfl rfl ?_
        obtain ⟨b3, h⟩ := x_guard h
        refine x_iald x3.toNatClampNeg (q0 := 14) dX7_goChoices_23 rfl rfl b3 ?_
        refine x_iconst 1 dX7_goChoices_24 (by decide) ?_
        refine x_isub dX7_goChoices_25 ?_
        refine x_imul dX7_goChoices_26 ?_
        refine x_iload_n dX7_goChoices_27 3 rfl rfl ?_
        refine x_iconst 2 dX7_goChoices_28 (by decide) ?_
        refine x_irem dX7_goChoices_29 (by decide) ?_
        refine x_iadd dX7_goChoices_30 ?_
        refine x_istore [(4, .int (((2 : Int32) * ((choices x3.toNatClampNeg) - (1 : Int32))) + (x3 - x3 / (2 : Int32) * (2 : Int32)))), (0, .ref (a 0)), (1, .int x1), (2, .int x2), (3, .int x3)] dX7_goChoices_31 (by decide) rfl ?_
        refine x_lv [1, 2, 4, 0] rfl ?_
        exact w_X7_goChoices_b33 (fun hand' partedBy' x1' x2' x3' h => ih hand' partedBy' x1' x2' x3' h) _ _ _ _ _ h
def M_X7_goChoices (now : (Nat → Int32)) (choices : (Nat → Int32)) (hand : (Nat → Int32)) (partedBy : Int32) (x1 : Int32) : Option (Int32 × (Nat → Int32) × Int32) :=
  (M_X7_layHand now hand).bind fun r18 =>
  M_X7_goChoices_b8 now choices x_fuel r18 partedBy x1 (1 : Int32) (0 : Int32)
set_option maxHeartbeats 4000000 in
set_option maxRecDepth 100000 in
theorem c_X7_goChoices {G : x_G} {l : Launch} {a : Nat → Nat} {now : (Nat → Int32)} {choices : (Nat → Int32)} {kept : (Nat → Int32)} {isKept : (Nat → Int32)} {rows : (Nat → Int32)} {rowLong : (Nat → Int32)} {texts : (Nat → Int32)} {textLong : (Nat → Int32)} {found : (Nat → Int32)} {taken : (Nat → Int32)} {anew : (Nat → Int32)} {steps : (Nat → Int32)} {shares : (Nat → Int32)} {values : (Nat → Int32)} {latest : Int32} {askedIs : Int32} {above : Int64} {below : Int64} {place : Int32} {hand : (Nat → Int32)} {partedBy : Int32} {x1 : Int32} {res : Int32 × (Nat → Int32) × Int32} (h : M_X7_goChoices now choices hand partedBy x1 = some res) : x_M G l yX7_goChoices cX7_goChoices 5 (some .int) (4) 0 0 [.ref (a 0), .int x1] (WModel G a now kept isKept rows rowLong texts textLong found taken anew hand steps shares choices values latest askedIs above below place partedBy) (x_is (some (.int res.1)) (WModel G a now kept isKept rows rowLong texts textLong found taken anew res.2.1 steps shares choices values latest askedIs above below place res.2.2)) := by
  unfold M_X7_goChoices at h
  refine x_enter (ini := false) (by decide) rfl (by decide) rfl (Nat.le_of_ble_eq_true rfl) ?_
  refine x_iconst 1 dX7_goChoices_0 (by decide) ?_
  refine x_istore_n [(2, .int (1 : Int32)), (0, .ref (a 0)), (1, .int x1)] dX7_goChoices_1 rfl (by decide) rfl ?_
  refine x_aload_n dX7_goChoices_2 1 rfl rfl ?_
  obtain ⟨r18, e19, h⟩ := x_bind h
  refine x_cV (As := []) (wc := (WModel G a now kept isKept rows rowLong texts textLong found taken anew hand steps shares choices values latest askedIs above below place partedBy)) (w1 := (WModel G a now kept isKept rows rowLong texts textLong found taken anew r18 steps shares choices values latest askedIs above below place partedBy)) (pre := []) (post := []) (rest := []) (st1 := []) (ws1 := (WModel G a now kept isKept rows rowLong texts textLong found taken anew r18 steps shares choices values latest askedIs above below place partedBy)) (ci := 5) 0 dX7_goChoices_3 (c_X7_layHand (a := a) e19) pk_X7_layHand ml_X7_193 (x_full _) rfl rfl rfl rfl rfl rfl rfl rfl (x_full _).symm ?_
  refine x_iconst 0 dX7_goChoices_6 (by decide) ?_
  refine x_istore_n [(3, .int (0 : Int32)), (2, .int (1 : Int32)), (0, .ref (a 0)), (1, .int x1)] dX7_goChoices_7 rfl (by decide) rfl ?_
  refine x_lv [2, 3, 1, 0] rfl ?_
  exact w_X7_goChoices_b8  _ _ _ _ _ _ h
theorem pk_X7_weigh : x_pv RX7 yX7_weigh cX7_weigh 4 none 2 := ⟨⟨co_X7_weigh, ni_X7, by decide, by decide +kernel⟩, im_X7_weigh, se_X7_weigh⟩
def M_X7_weigh_b71 (values : (Nat → Int32)) (s1 : Int32) (s2 : Int32) : Option ((Nat → Int32)) :=
  if inb s1 6 then
  some (upd values s1.toNatClampNeg s2)
  else none
set_option maxHeartbeats 4000000 in
set_option maxRecDepth 100000 in
theorem w_X7_weigh_b71 {G : x_G} {l : Launch} {a : Nat → Nat} {now : (Nat → Int32)} {kept : (Nat → Int32)} {isKept : (Nat → Int32)} {rows : (Nat → Int32)} {rowLong : (Nat → Int32)} {texts : (Nat → Int32)} {textLong : (Nat → Int32)} {found : (Nat → Int32)} {taken : (Nat → Int32)} {anew : (Nat → Int32)} {hand : (Nat → Int32)} {steps : (Nat → Int32)} {shares : (Nat → Int32)} {choices : (Nat → Int32)} {latest : Int32} {askedIs : Int32} {above : Int64} {below : Int64} {place : Int32} {partedBy : Int32} {res : (Nat → Int32)} (values : (Nat → Int32)) (s1 : Int32) (s2 : Int32) (h : M_X7_weigh_b71 values s1 s2 = some res) : X G l RX7 cX7_weigh 4 (x_R 0 0 0) (x_Cm G none false (x_is none (WModel G a now kept isKept rows rowLong texts textLong found taken anew hand steps shares choices res latest askedIs above below place partedBy)) 0 0) 0 0 71 [] [.int s2, .int s1, .ref (a 15)] (WModel G a now kept isKept rows rowLong texts textLong found taken anew hand steps shares choices values latest askedIs above below place partedBy) := by
  unfold M_X7_weigh_b71 at h
  obtain ⟨b5, h⟩ := x_guard h
  refine x_iast s1.toNatClampNeg (q0 := 15) (WModel G a now kept isKept rows rowLong texts textLong found taken anew hand steps shares choices ((upd values s1.toNatClampNeg s2)) latest askedIs above below place partedBy) dX7_weigh_71 rfl rfl b5 rfl ?_
  cases h
  exact x_return dX7_weigh_72 (x_is.rf _ _)
def M_X7_weigh_b65 (values : (Nat → Int32)) (x1 : Int32) (s1 : Int32) : Option ((Nat → Int32)) :=
  if inb x1 6 then
  M_X7_weigh_b71 values s1 (values x1.toNatClampNeg)
  else none
set_option maxHeartbeats 4000000 in
set_option maxRecDepth 100000 in
theorem w_X7_weigh_b65 {G : x_G} {l : Launch} {a : Nat → Nat} {now : (Nat → Int32)} {kept : (Nat → Int32)} {isKept : (Nat → Int32)} {rows : (Nat → Int32)} {rowLong : (Nat → Int32)} {texts : (Nat → Int32)} {textLong : (Nat → Int32)} {found : (Nat → Int32)} {taken : (Nat → Int32)} {anew : (Nat → Int32)} {hand : (Nat → Int32)} {steps : (Nat → Int32)} {shares : (Nat → Int32)} {choices : (Nat → Int32)} {latest : Int32} {askedIs : Int32} {above : Int64} {below : Int64} {place : Int32} {partedBy : Int32} {res : (Nat → Int32)} (values : (Nat → Int32)) (x1 : Int32) (s1 : Int32) (h : M_X7_weigh_b65 values x1 s1 = some res) : X G l RX7 cX7_weigh 4 (x_R 0 0 0) (x_Cm G none false (x_is none (WModel G a now kept isKept rows rowLong texts textLong found taken anew hand steps shares choices res latest askedIs above below place partedBy)) 0 0) 0 0 65 [(0, .ref (a 0)), (1, .int x1)] [.int s1, .ref (a 15)] (WModel G a now kept isKept rows rowLong texts textLong found taken anew hand steps shares choices values latest askedIs above below place partedBy) := by
  unfold M_X7_weigh_b65 at h
  refine x_aload_n dX7_weigh_65 0 rfl rfl ?_
  refine x_get (ci := 5) 20 0 dX7_weigh_66 fl_X7_57 inX7 rfl (by decide) ⟨rfl, rfl, rfl⟩ rfl rfl ?_
  refine x_iload_n dX7_weigh_69 1 rfl rfl ?_
  obtain ⟨b4, h⟩ := x_guard h
  refine x_iald x1.toNatClampNeg (q0 := 15) dX7_weigh_70 rfl rfl b4 ?_
  refine x_lv [] rfl ?_
  exact w_X7_weigh_b71  _ _ _ h
def M_X7_weigh_b39 (values : (Nat → Int32)) (x1 : Int32) (x2 : Int32) (s0 : Int32) : Option ((Nat → Int32)) :=
  if x2 = (1000000 : Int32) then
  (M_X7_weigh_b65 values x1 x1)
  else
  (if x2 = (-1000000 : Int32) then
  (M_X7_weigh_b65 values x1 x1)
  else
  (if s0 = 0 then
  (M_X7_weigh_b65 values x1 x1)
  else
  (M_X7_weigh_b71 values x1 x2)))
set_option maxHeartbeats 4000000 in
set_option maxRecDepth 100000 in
theorem w_X7_weigh_b39 {G : x_G} {l : Launch} {a : Nat → Nat} {now : (Nat → Int32)} {kept : (Nat → Int32)} {isKept : (Nat → Int32)} {rows : (Nat → Int32)} {rowLong : (Nat → Int32)} {texts : (Nat → Int32)} {textLong : (Nat → Int32)} {found : (Nat → Int32)} {taken : (Nat → Int32)} {anew : (Nat → Int32)} {hand : (Nat → Int32)} {steps : (Nat → Int32)} {shares : (Nat → Int32)} {choices : (Nat → Int32)} {latest : Int32} {askedIs : Int32} {above : Int64} {below : Int64} {place : Int32} {partedBy : Int32} {res : (Nat → Int32)} (values : (Nat → Int32)) (x1 : Int32) (x2 : Int32) (s0 : Int32) (h : M_X7_weigh_b39 values x1 x2 s0 = some res) : X G l RX7 cX7_weigh 4 (x_R 0 0 0) (x_Cm G none false (x_is none (WModel G a now kept isKept rows rowLong texts textLong found taken anew hand steps shares choices res latest askedIs above below place partedBy)) 0 0) 0 0 39 [(0, .ref (a 0)), (1, .int x1), (2, .int x2)] [.int s0] (WModel G a now kept isKept rows rowLong texts textLong found taken anew hand steps shares choices values latest askedIs above below place partedBy) := by
  unfold M_X7_weigh_b39 at h
  refine x_istore_n [(3, .int s0), (0, .ref (a 0)), (1, .int x1), (2, .int x2)] dX7_weigh_39 rfl (by decide) rfl ?_
  refine x_aload_n dX7_weigh_40 1 rfl rfl ?_
  refine x_get (ci := 5) 20 0 dX7_weigh_41 fl_X7_57 inX7 rfl (by decide) ⟨rfl, rfl, rfl⟩ rfl rfl ?_
  refine x_iload_n dX7_weigh_44 2 rfl rfl ?_
  refine x_iload_n dX7_weigh_45 3 rfl rfl ?_
  refine x_ldc dX7_weigh_46 kc_X7_215 ?_
  refine x_icmp_eq 65 dX7_weigh_48 (by decide) (fun c1 => ?_) (fun c1 => ?_)
  · have h := x_pos c1 h
    refine x_lv [1, 2] rfl ?_
    exact w_X7_weigh_b65  _ _ _ h
  · have h := x_neg c1 h
    refine x_iload_n dX7_weigh_51 3 rfl rfl ?_
    refine x_ldc dX7_weigh_52 kc_X7_219 ?_
    refine x_icmp_eq 65 dX7_weigh_54 (by decide) (fun c2 => ?_) (fun c2 => ?_)
    · have h := x_pos c2 h
      refine x_lv [1, 2] rfl ?_
      exact w_X7_weigh_b65  _ _ _ h
    · have h := x_neg c2 h
      refine x_iload_n dX7_weigh_57 0 rfl rfl ?_
      refine x_if_eq 65 dX7_weigh_58 (by decide) (fun c3 => ?_) (fun c3 => ?_)
      · have h := x_pos c3 h
        refine x_lv [1, 2] rfl ?_
        exact w_X7_weigh_b65  _ _ _ h
      · have h := x_neg c3 h
        refine x_iload_n dX7_weigh_61 3 rfl rfl ?_
        refine x_goto 71 dX7_weigh_62 (by decide) ?_
        refine x_lv [] rfl ?_
        exact w_X7_weigh_b71  _ _ _ h
def M_X7_weigh (values : (Nat → Int32)) (x1 : Int32) (x2 : Int32) : Option ((Nat → Int32)) :=
  if (x1 - x1 / (2 : Int32) * (2 : Int32)) = 0 then
  (if inb x1 6 then
  if x2 ≤ (values x1.toNatClampNeg) then
  (M_X7_weigh_b39 values x1 x2 (0 : Int32))
  else
  (M_X7_weigh_b39 values x1 x2 (1 : Int32))
  else none)
  else
  (if inb x1 6 then
  if (values x1.toNatClampNeg) ≤ x2 then
  (M_X7_weigh_b39 values x1 x2 (0 : Int32))
  else
  (M_X7_weigh_b39 values x1 x2 (1 : Int32))
  else none)
set_option maxHeartbeats 4000000 in
set_option maxRecDepth 100000 in
theorem c_X7_weigh {G : x_G} {l : Launch} {a : Nat → Nat} {now : (Nat → Int32)} {kept : (Nat → Int32)} {isKept : (Nat → Int32)} {rows : (Nat → Int32)} {rowLong : (Nat → Int32)} {texts : (Nat → Int32)} {textLong : (Nat → Int32)} {found : (Nat → Int32)} {taken : (Nat → Int32)} {anew : (Nat → Int32)} {hand : (Nat → Int32)} {steps : (Nat → Int32)} {shares : (Nat → Int32)} {choices : (Nat → Int32)} {latest : Int32} {askedIs : Int32} {above : Int64} {below : Int64} {place : Int32} {partedBy : Int32} {values : (Nat → Int32)} {x1 : Int32} {x2 : Int32} {res : (Nat → Int32)} (h : M_X7_weigh values x1 x2 = some res) : x_M G l yX7_weigh cX7_weigh 4 none (0) 0 0 [.ref (a 0), .int x1, .int x2] (WModel G a now kept isKept rows rowLong texts textLong found taken anew hand steps shares choices values latest askedIs above below place partedBy) (x_is none (WModel G a now kept isKept rows rowLong texts textLong found taken anew hand steps shares choices res latest askedIs above below place partedBy)) := by
  unfold M_X7_weigh at h
  refine x_enter (ini := false) (by decide) rfl (by decide) rfl (Nat.le_of_ble_eq_true rfl) ?_
  refine x_iload_n dX7_weigh_0 1 rfl rfl ?_
  refine x_iconst 2 dX7_weigh_1 (by decide) ?_
  refine x_irem dX7_weigh_2 (by decide) ?_
  refine x_if_ne 24 dX7_weigh_3 (by decide) (fun c6 => ?_) (fun c6 => ?_)
  · have h := x_neg c6 h
    refine x_iload_n dX7_weigh_24 2 rfl rfl ?_
    refine x_aload_n dX7_weigh_25 0 rfl rfl ?_
    refine x_get (ci := 5) 20 0 dX7_weigh_26 fl_X7_57 inX7 rfl (by decide) ⟨rfl, rfl, rfl⟩ rfl rfl ?_
    refine x_iload_n dX7_weigh_29 1 rfl rfl ?_
    obtain ⟨b7, h⟩ := x_guard h
    refine x_iald x1.toNatClampNeg (q0 := 15) dX7_weigh_30 rfl rfl b7 ?_
    refine x_icmp_ge 38 dX7_weigh_31 (by decide) (fun c8 => ?_) (fun c8 => ?_)
    · have h := x_pos c8 h
      refine x_iconst 0 dX7_weigh_38 (by decide) ?_
      exact w_X7_weigh_b39  _ _ _ _ h
    · have h := x_neg c8 h
      refine x_iconst 1 dX7_weigh_34 (by decide) ?_
      refine x_goto 39 dX7_weigh_35 (by decide) ?_
      exact w_X7_weigh_b39  _ _ _ _ h
  · have h := x_pos c6 h
    refine x_iload_n dX7_weigh_6 2 rfl rfl ?_
    refine x_aload_n dX7_weigh_7 0 rfl rfl ?_
    refine x_get (ci := 5) 20 0 dX7_weigh_8 fl_X7_57 inX7 rfl (by decide) ⟨rfl, rfl, rfl⟩ rfl rfl ?_
    refine x_iload_n dX7_weigh_11 1 rfl rfl ?_
    obtain ⟨b9, h⟩ := x_guard h
    refine x_iald x1.toNatClampNeg (q0 := 15) dX7_weigh_12 rfl rfl b9 ?_
    refine x_icmp_le 20 dX7_weigh_13 (by decide) (fun c10 => ?_) (fun c10 => ?_)
    · have h := x_pos c10 h
      refine x_iconst 0 dX7_weigh_20 (by decide) ?_
      refine x_goto 39 dX7_weigh_21 (by decide) ?_
      exact w_X7_weigh_b39  _ _ _ _ h
    · have h := x_neg c10 h
      refine x_iconst 1 dX7_weigh_16 (by decide) ?_
      refine x_goto 39 dX7_weigh_17 (by decide) ?_
      exact w_X7_weigh_b39  _ _ _ _ h
theorem pk_X7_duel : x_pv RX7 yX7_duel cX7_duel 7 (some .int) 1 := ⟨⟨co_X7_duel, ni_X7, by decide, by decide +kernel⟩, im_X7_duel, se_X7_duel⟩
def M_X7_duel_b133 (now : (Nat → Int32)) (k70 : (Nat → Int32) → (Nat → Int32) → (Nat → Int32) → Int32 → Int32 → Int32 → Int32 → Int32 → Option (Int32 × (Nat → Int32) × (Nat → Int32) × (Nat → Int32) × Int32 × Int32)) (k89 : (Nat → Int32) → (Nat → Int32) → (Nat → Int32) → Int32 → Int32 → Int32 → Int32 → Int32 → Int32 → Option (Int32 × (Nat → Int32) × (Nat → Int32) × (Nat → Int32) × Int32 × Int32)) (hand : (Nat → Int32)) (choices : (Nat → Int32)) (values : (Nat → Int32)) (askedIs : Int32) (partedBy : Int32) (x2 : Int32) (x3 : Int32) (x5 : Int32) (s0 : Int32) : Option (Int32 × (Nat → Int32) × (Nat → Int32) × (Nat → Int32) × Int32 × Int32) :=
  if s0 = 0 then
  (k89 hand choices values askedIs partedBy x2 x3 x5 s0)
  else
  (if inb x5 6 then
  k89 hand (upd choices x5.toNatClampNeg (0 : Int32)) (upd values x5.toNatClampNeg (M_X7_startOf x5)) askedIs partedBy x2 (values x5.toNatClampNeg) (x5 + (-1 : Int32)) s0
  else none)
set_option maxHeartbeats 4000000 in
set_option maxRecDepth 100000 in
theorem w_X7_duel_b133 {G : x_G} {l : Launch} {a : Nat → Nat} {now : (Nat → Int32)} {kept : (Nat → Int32)} {isKept : (Nat → Int32)} {rows : (Nat → Int32)} {rowLong : (Nat → Int32)} {texts : (Nat → Int32)} {textLong : (Nat → Int32)} {found : (Nat → Int32)} {taken : (Nat → Int32)} {anew : (Nat → Int32)} {steps : (Nat → Int32)} {shares : (Nat → Int32)} {latest : Int32} {above : Int64} {below : Int64} {place : Int32} {k70 : (Nat → Int32) → (Nat → Int32) → (Nat → Int32) → Int32 → Int32 → Int32 → Int32 → Int32 → Option (Int32 × (Nat → Int32) × (Nat → Int32) × (Nat → Int32) × Int32 × Int32)} {k89 : (Nat → Int32) → (Nat → Int32) → (Nat → Int32) → Int32 → Int32 → Int32 → Int32 → Int32 → Int32 → Option (Int32 × (Nat → Int32) × (Nat → Int32) × (Nat → Int32) × Int32 × Int32)} {res : Int32 × (Nat → Int32) × (Nat → Int32) × (Nat → Int32) × Int32 × Int32} (hk70 : ∀ (hand : (Nat → Int32)) (choices : (Nat → Int32)) (values : (Nat → Int32)) (askedIs : Int32) (partedBy : Int32) (x2 : Int32) (x3 : Int32) (x4 : Int32), k70 hand choices values askedIs partedBy x2 x3 x4 = some res → X G l RX7 cX7_duel 7 (x_R 5 0 0) (x_Cm G (some .int) false (x_is (some (.int res.1)) (WModel G a now kept isKept rows rowLong texts textLong found taken anew res.2.1 steps shares res.2.2.1 res.2.2.2.1 latest res.2.2.2.2.1 above below place res.2.2.2.2.2)) 0 0) 0 0 70 [(0, .ref (a 0)), (2, .int x2), (3, .int x3), (4, .int x4)] [] (WModel G a now kept isKept rows rowLong texts textLong found taken anew hand steps shares choices values latest askedIs above below place partedBy)) (hk89 : ∀ (hand : (Nat → Int32)) (choices : (Nat → Int32)) (values : (Nat → Int32)) (askedIs : Int32) (partedBy : Int32) (x2 : Int32) (x3 : Int32) (x5 : Int32) (x6 : Int32), k89 hand choices values askedIs partedBy x2 x3 x5 x6 = some res → X G l RX7 cX7_duel 7 (x_R 5 0 0) (x_Cm G (some .int) false (x_is (some (.int res.1)) (WModel G a now kept isKept rows rowLong texts textLong found taken anew res.2.1 steps shares res.2.2.1 res.2.2.2.1 latest res.2.2.2.2.1 above below place res.2.2.2.2.2)) 0 0) 0 0 89 [(0, .ref (a 0)), (2, .int x2), (3, .int x3), (5, .int x5), (6, .int x6)] [] (WModel G a now kept isKept rows rowLong texts textLong found taken anew hand steps shares choices values latest askedIs above below place partedBy)) (hand : (Nat → Int32)) (choices : (Nat → Int32)) (values : (Nat → Int32)) (askedIs : Int32) (partedBy : Int32) (x2 : Int32) (x3 : Int32) (x5 : Int32) (s0 : Int32) (h : M_X7_duel_b133 now k70 k89 hand choices values askedIs partedBy x2 x3 x5 s0 = some res) : X G l RX7 cX7_duel 7 (x_R 5 0 0) (x_Cm G (some .int) false (x_is (some (.int res.1)) (WModel G a now kept isKept rows rowLong texts textLong found taken anew res.2.1 steps shares res.2.2.1 res.2.2.2.1 latest res.2.2.2.2.1 above below place res.2.2.2.2.2)) 0 0) 0 0 133 [(0, .ref (a 0)), (2, .int x2), (3, .int x3), (5, .int x5)] [.int s0] (WModel G a now kept isKept rows rowLong texts textLong found taken anew hand steps shares choices values latest askedIs above below place partedBy) := by
  unfold M_X7_duel_b133 at h
  refine x_istore [(6, .int s0), (0, .ref (a 0)), (2, .int x2), (3, .int x3), (5, .int x5)] dX7_duel_133 (by decide) rfl ?_
  refine x_iload dX7_duel_135 0 rfl ?_
  refine x_if_eq 89 dX7_duel_137 (by decide) (fun c12 => ?_) (fun c12 => ?_)
  · have h := x_pos c12 h
    refine x_lv [1, 2, 3, 4, 0] rfl ?_
    exact hk89 _ _ _ _ _ _ _ _ _ h
  · have h := x_neg c12 h
    refine x_aload_n dX7_duel_140 1 rfl rfl ?_
    refine x_get (ci := 5) 20 0 dX7_duel_141 fl_X7_57 inX7 rfl (by decide) ⟨rfl, rfl, rfl⟩ rfl rfl ?_
    refine x_iload dX7_duel_144 4 rfl ?_
    obtain ⟨b13, h⟩ := x_guard h
    refine x_iald x5.toNatClampNeg (q0 := 15) dX7_duel_146 rfl rfl b13 ?_
    refine x_istore_n [(3, .int (values x5.toNatClampNeg)), (6, .int s0), (0, .ref (a 0)), (2, .int x2), (5, .int x5)] dX7_duel_147 rfl (by decide) rfl ?_
    refine x_aload_n dX7_duel_148 2 rfl rfl ?_
    refine x_get (ci := 5) 19 0 dX7_duel_149 fl_X7_54 inX7 rfl (by decide) ⟨rfl, rfl, rfl⟩ rfl rfl ?_
    refine x_iload dX7_duel_152 4 rfl ?_
    refine x_iconst 0 dX7_duel_154 (by decide) ?_
    refine x_iast x5.toNatClampNeg (q0 := 14) (WModel G a now kept isKept rows rowLong texts textLong found taken anew hand steps shares ((upd choices x5.toNatClampNeg (0 : Int32))) values latest askedIs above below place partedBy) dX7_duel_155 rfl rfl b13 rfl ?_
    refine x_aload_n dX7_duel_156 2 rfl rfl ?_
    refine x_get (ci := 5) 20 0 dX7_duel_157 fl_X7_57 inX7 rfl (by decide) ⟨rfl, rfl, rfl⟩ rfl rfl ?_
    refine x_iload dX7_duel_160 4 rfl ?_
    refine x_iload dX7_duel_162 4 rfl ?_
    refine x_cS (As := [.int x5]) (wc := ([] : va_W)) (w1 := ([] : va_W)) (pre := []) (post := (WModel G a now kept isKept rows rowLong texts textLong found taken anew hand steps shares ((upd choices x5.toNatClampNeg (0 : Int32))) values latest askedIs above below place partedBy)) (rest := [.int x5, .ref (a 15)]) (st1 := [.int (M_X7_startOf x5), .int x5, .ref (a 15)]) (ws1 := (WModel G a now kept isKept rows rowLong texts textLong found taken anew hand steps shares ((upd choices x5.toNatClampNeg (0 : Int32))) values latest askedIs above below place partedBy)) dX7_duel_164 (c_X7_startOf rfl) pk_X7_startOf ml_X7_220 rfl rfl rfl rfl rfl rfl rfl ?_
    refine x_iast x5.toNatClampNeg (q0 := 15) (WModel G a now kept isKept rows rowLong texts textLong found taken anew hand steps shares ((upd choices x5.toNatClampNeg (0 : Int32))) ((upd values x5.toNatClampNeg (M_X7_startOf x5))) latest askedIs above below place partedBy) dX7_duel_167 rfl rfl b13 rfl ?_
    refine x_iinc (j := 4) (-1 : Int32) [(5, .int (x5 + (-1 : Int32))), (3, .int (values x5.toNatClampNeg)), (6, .int s0), (0, .ref (a 0)), (2, .int x2)] dX7_duel_168 (by decide) rfl (by decide) rfl ?_
    refine x_goto 89 dX7_duel_171 (by decide) ?_
    refine x_lv [3, 4, 1, 0, 2] rfl ?_
    exact hk89 _ _ _ _ _ _ _ _ _ h
def M_X7_duel_b184 (now : (Nat → Int32)) (k70 : (Nat → Int32) → (Nat → Int32) → (Nat → Int32) → Int32 → Int32 → Int32 → Int32 → Int32 → Option (Int32 × (Nat → Int32) × (Nat → Int32) × (Nat → Int32) × Int32 × Int32)) (hand : (Nat → Int32)) (choices : (Nat → Int32)) (values : (Nat → Int32)) (askedIs : Int32) (partedBy : Int32) (x2 : Int32) (x3 : Int32) (s0 : Int32) : Option (Int32 × (Nat → Int32) × (Nat → Int32) × (Nat → Int32) × Int32 × Int32) :=
  k70 hand choices values askedIs partedBy x2 x3 s0
set_option maxHeartbeats 4000000 in
set_option maxRecDepth 100000 in
theorem w_X7_duel_b184 {G : x_G} {l : Launch} {a : Nat → Nat} {now : (Nat → Int32)} {kept : (Nat → Int32)} {isKept : (Nat → Int32)} {rows : (Nat → Int32)} {rowLong : (Nat → Int32)} {texts : (Nat → Int32)} {textLong : (Nat → Int32)} {found : (Nat → Int32)} {taken : (Nat → Int32)} {anew : (Nat → Int32)} {steps : (Nat → Int32)} {shares : (Nat → Int32)} {latest : Int32} {above : Int64} {below : Int64} {place : Int32} {k70 : (Nat → Int32) → (Nat → Int32) → (Nat → Int32) → Int32 → Int32 → Int32 → Int32 → Int32 → Option (Int32 × (Nat → Int32) × (Nat → Int32) × (Nat → Int32) × Int32 × Int32)} {res : Int32 × (Nat → Int32) × (Nat → Int32) × (Nat → Int32) × Int32 × Int32} (hk70 : ∀ (hand : (Nat → Int32)) (choices : (Nat → Int32)) (values : (Nat → Int32)) (askedIs : Int32) (partedBy : Int32) (x2 : Int32) (x3 : Int32) (x4 : Int32), k70 hand choices values askedIs partedBy x2 x3 x4 = some res → X G l RX7 cX7_duel 7 (x_R 5 0 0) (x_Cm G (some .int) false (x_is (some (.int res.1)) (WModel G a now kept isKept rows rowLong texts textLong found taken anew res.2.1 steps shares res.2.2.1 res.2.2.2.1 latest res.2.2.2.2.1 above below place res.2.2.2.2.2)) 0 0) 0 0 70 [(0, .ref (a 0)), (2, .int x2), (3, .int x3), (4, .int x4)] [] (WModel G a now kept isKept rows rowLong texts textLong found taken anew hand steps shares choices values latest askedIs above below place partedBy)) (hand : (Nat → Int32)) (choices : (Nat → Int32)) (values : (Nat → Int32)) (askedIs : Int32) (partedBy : Int32) (x2 : Int32) (x3 : Int32) (s0 : Int32) (h : M_X7_duel_b184 now k70 hand choices values askedIs partedBy x2 x3 s0 = some res) : X G l RX7 cX7_duel 7 (x_R 5 0 0) (x_Cm G (some .int) false (x_is (some (.int res.1)) (WModel G a now kept isKept rows rowLong texts textLong found taken anew res.2.1 steps shares res.2.2.1 res.2.2.2.1 latest res.2.2.2.2.1 above below place res.2.2.2.2.2)) 0 0) 0 0 184 [(0, .ref (a 0)), (2, .int x2), (3, .int x3)] [.int s0] (WModel G a now kept isKept rows rowLong texts textLong found taken anew hand steps shares choices values latest askedIs above below place partedBy) := by
  unfold M_X7_duel_b184 at h
  refine x_istore [(4, .int s0), (0, .ref (a 0)), (2, .int x2), (3, .int x3)] dX7_duel_184 (by decide) rfl ?_
  refine x_goto 70 dX7_duel_186 (by decide) ?_
  refine x_lv [1, 2, 3, 0] rfl ?_
  exact hk70 _ _ _ _ _ _ _ _ h
def M_X7_duel_b174 (now : (Nat → Int32)) (k70 : (Nat → Int32) → (Nat → Int32) → (Nat → Int32) → Int32 → Int32 → Int32 → Int32 → Int32 → Option (Int32 × (Nat → Int32) × (Nat → Int32) × (Nat → Int32) × Int32 × Int32)) (hand : (Nat → Int32)) (choices : (Nat → Int32)) (values : (Nat → Int32)) (askedIs : Int32) (partedBy : Int32) (x2 : Int32) (x3 : Int32) (x5 : Int32) : Option (Int32 × (Nat → Int32) × (Nat → Int32) × (Nat → Int32) × Int32 × Int32) :=
  if x5 < 0 then
  (M_X7_duel_b184 now k70 hand choices values askedIs partedBy x2 x3 (0 : Int32))
  else
  (M_X7_duel_b184 now k70 hand choices values askedIs partedBy x2 x3 (1 : Int32))
set_option maxHeartbeats 4000000 in
set_option maxRecDepth 100000 in
theorem w_X7_duel_b174 {G : x_G} {l : Launch} {a : Nat → Nat} {now : (Nat → Int32)} {kept : (Nat → Int32)} {isKept : (Nat → Int32)} {rows : (Nat → Int32)} {rowLong : (Nat → Int32)} {texts : (Nat → Int32)} {textLong : (Nat → Int32)} {found : (Nat → Int32)} {taken : (Nat → Int32)} {anew : (Nat → Int32)} {steps : (Nat → Int32)} {shares : (Nat → Int32)} {latest : Int32} {above : Int64} {below : Int64} {place : Int32} {k70 : (Nat → Int32) → (Nat → Int32) → (Nat → Int32) → Int32 → Int32 → Int32 → Int32 → Int32 → Option (Int32 × (Nat → Int32) × (Nat → Int32) × (Nat → Int32) × Int32 × Int32)} {res : Int32 × (Nat → Int32) × (Nat → Int32) × (Nat → Int32) × Int32 × Int32} (hk70 : ∀ (hand : (Nat → Int32)) (choices : (Nat → Int32)) (values : (Nat → Int32)) (askedIs : Int32) (partedBy : Int32) (x2 : Int32) (x3 : Int32) (x4 : Int32), k70 hand choices values askedIs partedBy x2 x3 x4 = some res → X G l RX7 cX7_duel 7 (x_R 5 0 0) (x_Cm G (some .int) false (x_is (some (.int res.1)) (WModel G a now kept isKept rows rowLong texts textLong found taken anew res.2.1 steps shares res.2.2.1 res.2.2.2.1 latest res.2.2.2.2.1 above below place res.2.2.2.2.2)) 0 0) 0 0 70 [(0, .ref (a 0)), (2, .int x2), (3, .int x3), (4, .int x4)] [] (WModel G a now kept isKept rows rowLong texts textLong found taken anew hand steps shares choices values latest askedIs above below place partedBy)) (hand : (Nat → Int32)) (choices : (Nat → Int32)) (values : (Nat → Int32)) (askedIs : Int32) (partedBy : Int32) (x2 : Int32) (x3 : Int32) (x5 : Int32) (h : M_X7_duel_b174 now k70 hand choices values askedIs partedBy x2 x3 x5 = some res) : X G l RX7 cX7_duel 7 (x_R 5 0 0) (x_Cm G (some .int) false (x_is (some (.int res.1)) (WModel G a now kept isKept rows rowLong texts textLong found taken anew res.2.1 steps shares res.2.2.1 res.2.2.2.1 latest res.2.2.2.2.1 above below place res.2.2.2.2.2)) 0 0) 0 0 174 [(0, .ref (a 0)), (2, .int x2), (3, .int x3), (5, .int x5)] [] (WModel G a now kept isKept rows rowLong texts textLong found taken anew hand steps shares choices values latest askedIs above below place partedBy) := by
  unfold M_X7_duel_b174 at h
  refine x_iload dX7_duel_174 3 rfl ?_
  refine x_if_lt 183 dX7_duel_176 (by decide) (fun c14 => ?_) (fun c14 => ?_)
  · have h := x_pos c14 h
    refine x_iconst 0 dX7_duel_183 (by decide) ?_
    refine x_lv [0, 1, 2] rfl ?_
    exact w_X7_duel_b184 hk70 _ _ _ _ _ _ _ _ h
  · have h := x_neg c14 h
    refine x_iconst 1 dX7_duel_179 (by decide) ?_
    refine x_goto 184 dX7_duel_180 (by decide) ?_
    refine x_lv [0, 1, 2] rfl ?_
    exact w_X7_duel_b184 hk70 _ _ _ _ _ _ _ _ h
def M_X7_duel_b89 (now : (Nat → Int32)) (k70 : (Nat → Int32) → (Nat → Int32) → (Nat → Int32) → Int32 → Int32 → Int32 → Int32 → Int32 → Option (Int32 × (Nat → Int32) × (Nat → Int32) × (Nat → Int32) × Int32 × Int32)) : Nat → (Nat → Int32) → (Nat → Int32) → (Nat → Int32) → Int32 → Int32 → Int32 → Int32 → Int32 → Int32 → Option (Int32 × (Nat → Int32) × (Nat → Int32) × (Nat → Int32) × Int32 × Int32)
  | 0, _, _, _, _, _, _, _, _, _ => none
  | n + 1, hand, choices, values, askedIs, partedBy, x2, x3, x5, x6 =>
    if x5 < 0 then
    (M_X7_duel_b174 now k70 hand choices values askedIs partedBy x2 x3 x5)
    else
    (if x6 = 0 then
    (M_X7_duel_b174 now k70 hand choices values askedIs partedBy x2 x3 x5)
    else
    ((M_X7_weigh values x5 x3).bind fun r8 =>
    if inb x5 6 then
    if ((upd choices x5.toNatClampNeg ((choices x5.toNatClampNeg) + (1 : Int32))) x5.toNatClampNeg) = (4 : Int32) then
    (M_X7_duel_b133 now k70 (fun (hand' : (Nat → Int32)) (choices' : (Nat → Int32)) (values' : (Nat → Int32)) (askedIs' : Int32) (partedBy' : Int32) (x2' : Int32) (x3' : Int32) (x5' : Int32) (x6' : Int32) => M_X7_duel_b89 now k70 n hand' choices' values' askedIs' partedBy' x2' x3' x5' x6') hand (upd choices x5.toNatClampNeg ((choices x5.toNatClampNeg) + (1 : Int32))) r8 askedIs partedBy x2 x3 x5 (1 : Int32))
    else
    (M_X7_duel_b133 now k70 (fun (hand' : (Nat → Int32)) (choices' : (Nat → Int32)) (values' : (Nat → Int32)) (askedIs' : Int32) (partedBy' : Int32) (x2' : Int32) (x3' : Int32) (x5' : Int32) (x6' : Int32) => M_X7_duel_b89 now k70 n hand' choices' values' askedIs' partedBy' x2' x3' x5' x6') hand (upd choices x5.toNatClampNeg ((choices x5.toNatClampNeg) + (1 : Int32))) r8 askedIs partedBy x2 x3 x5 (0 : Int32))
    else none))
set_option maxHeartbeats 4000000 in
set_option maxRecDepth 100000 in
theorem w_X7_duel_b89 {G : x_G} {l : Launch} {a : Nat → Nat} {now : (Nat → Int32)} {kept : (Nat → Int32)} {isKept : (Nat → Int32)} {rows : (Nat → Int32)} {rowLong : (Nat → Int32)} {texts : (Nat → Int32)} {textLong : (Nat → Int32)} {found : (Nat → Int32)} {taken : (Nat → Int32)} {anew : (Nat → Int32)} {steps : (Nat → Int32)} {shares : (Nat → Int32)} {latest : Int32} {above : Int64} {below : Int64} {place : Int32} {k70 : (Nat → Int32) → (Nat → Int32) → (Nat → Int32) → Int32 → Int32 → Int32 → Int32 → Int32 → Option (Int32 × (Nat → Int32) × (Nat → Int32) × (Nat → Int32) × Int32 × Int32)} {res : Int32 × (Nat → Int32) × (Nat → Int32) × (Nat → Int32) × Int32 × Int32} (hk70 : ∀ (hand : (Nat → Int32)) (choices : (Nat → Int32)) (values : (Nat → Int32)) (askedIs : Int32) (partedBy : Int32) (x2 : Int32) (x3 : Int32) (x4 : Int32), k70 hand choices values askedIs partedBy x2 x3 x4 = some res → X G l RX7 cX7_duel 7 (x_R 5 0 0) (x_Cm G (some .int) false (x_is (some (.int res.1)) (WModel G a now kept isKept rows rowLong texts textLong found taken anew res.2.1 steps shares res.2.2.1 res.2.2.2.1 latest res.2.2.2.2.1 above below place res.2.2.2.2.2)) 0 0) 0 0 70 [(0, .ref (a 0)), (2, .int x2), (3, .int x3), (4, .int x4)] [] (WModel G a now kept isKept rows rowLong texts textLong found taken anew hand steps shares choices values latest askedIs above below place partedBy)) : ∀ (n : Nat) (hand : (Nat → Int32)) (choices : (Nat → Int32)) (values : (Nat → Int32)) (askedIs : Int32) (partedBy : Int32) (x2 : Int32) (x3 : Int32) (x5 : Int32) (x6 : Int32), M_X7_duel_b89 now k70 n hand choices values askedIs partedBy x2 x3 x5 x6 = some res → X G l RX7 cX7_duel 7 (x_R 5 0 0) (x_Cm G (some .int) false (x_is (some (.int res.1)) (WModel G a now kept isKept rows rowLong texts textLong found taken anew res.2.1 steps shares res.2.2.1 res.2.2.2.1 latest res.2.2.2.2.1 above below place res.2.2.2.2.2)) 0 0) 0 0 89 [(0, .ref (a 0)), (2, .int x2), (3, .int x3), (5, .int x5), (6, .int x6)] [] (WModel G a now kept isKept rows rowLong texts textLong found taken anew hand steps shares choices values latest askedIs above below place partedBy) := by
  intro n
  induction n with
  | zero =>
    intro _ _ _ _ _ _ _ _ _ h
    cases h
  | succ n ih =>
    intro hand choices values askedIs partedBy x2 x3 x5 x6 h
    rw [M_X7_duel_b89] at h
    refine x_iload dX7_duel_89 3 rfl ?_
    refine x_if_lt 174 dX7_duel_91 (by decide) (fun c6 => ?_) (fun c6 => ?_)
    · have h := x_pos c6 h
      refine x_lv [0, 1, 2, 3] rfl ?_
      exact w_X7_duel_b174 hk70 _ _ _ _ _ _ _ _ h
    · have h := x_neg c6 h
      refine x_iload dX7_duel_94 4 rfl ?_
      refine x_if_eq 174 dX7_duel_96 (by decide) (fun c7 => ?_) (fun c7 => ?_)
      · have h := x_pos c7 h
        refine x_lv [0, 1, 2, 3] rfl ?_
        exact w_X7_duel_b174 hk70 _ _ _ _ _ _ _ _ h
      · have h := x_neg c7 h
        refine x_aload_n dX7_duel_99 0 rfl rfl ?_
        refine x_iload dX7_duel_100 3 rfl ?_
        refine x_iload_n dX7_duel_102 2 rfl rfl ?_
        obtain ⟨r8, e9, h⟩ := x_bind h
        refine x_cV (As := [.int x5, .int x3]) (wc := (WModel G a now kept isKept rows rowLong texts textLong found taken anew hand steps shares choices values latest askedIs above below place partedBy)) (w1 := (WModel G a now kept isKept rows rowLong texts textLong found taken anew hand steps shares choices r8 latest askedIs above below place partedBy)) (pre := []) (post := []) (rest := []) (st1 := []) (ws1 := (WModel G a now kept isKept rows rowLong texts textLong found taken anew hand steps shares choices r8 latest askedIs above below place partedBy)) (ci := 5) 0 dX7_duel_103 (c_X7_weigh (a := a) e9) pk_X7_weigh ml_X7_226 (x_full _) rfl rfl rfl rfl rfl rfl rfl rfl (x_full _).symm ?_
        refine x_aload_n dX7_duel_106 0 rfl rfl ?_
        refine x_get (ci := 5) 19 0 dX7_duel_107 fl_X7_54 inX7 rfl (by decide) ⟨rfl, rfl, rfl⟩ rfl rfl ?_
        refine x_iload dX7_duel_110 3 rfl ?_
        refine x_dup2 dX7_duel_112 rfl rfl ?_
        obtain ⟨b10, h⟩ := x_guard h
        refine x_iald x5.toNatClampNeg (q0 := 14) dX7_duel_113 rfl rfl b10 ?_
        refine x_iconst 1 dX7_duel_114 (by decide) ?_
        refine x_iadd dX7_duel_115 ?_
        refine x_iast x5.toNatClampNeg (q0 := 14) (WModel G a now kept isKept rows rowLong texts textLong found taken anew hand steps shares ((upd choices x5.toNatClampNeg ((choices x5.toNatClampNeg) + (1 : Int32)))) r8 latest askedIs above below place partedBy) dX7_duel_116 rfl rfl b10 rfl ?_
        refine x_aload_n dX7_duel_117 0 rfl rfl ?_
        refine x_get (ci := 5) 19 0 dX7_duel_118 fl_X7_54 inX7 rfl (by decide) ⟨rfl, rfl, rfl⟩ rfl rfl ?_
        refine x_iload dX7_duel_121 3 rfl ?_
        refine x_iald x5.toNatClampNeg (q0 := 14) dX7_duel_123 rfl rfl b10 ?_
        refine x_iconst 4 dX7_duel_124 (by decide) ?_
        refine x_icmp_ne 132 dX7_duel_125 (by decide) (fun c11 => ?_) (fun c11 => ?_)
        · have h := x_neg c11 h
          refine x_iconst 0 dX7_duel_132 (by decide) ?_
          refine x_lv [0, 1, 2, 3] rfl ?_
          exact w_X7_duel_b133 hk70 (fun hand' choices' values' askedIs' partedBy' x2' x3' x5' x6' h => ih hand' choices' values' askedIs' partedBy' x2' x3' x5' x6' h) _ _ _ _ _ _ _ _ _ h
        · have h := x_pos c11 h
          refine x_iconst 1 dX7_duel_128 (by decide) ?_
          refine x_goto 133 dX7_duel_129 (by decide) ?_
          refine x_lv [0, 1, 2, 3] rfl ?_
          exact w_X7_duel_b133 hk70 (fun hand' choices' values' askedIs' partedBy' x2' x3' x5' x6' h => ih hand' choices' values' askedIs' partedBy' x2' x3' x5' x6' h) _ _ _ _ _ _ _ _ _ h
def M_X7_duel_b70 (now : (Nat → Int32)) : Nat → (Nat → Int32) → (Nat → Int32) → (Nat → Int32) → Int32 → Int32 → Int32 → Int32 → Int32 → Option (Int32 × (Nat → Int32) × (Nat → Int32) × (Nat → Int32) × Int32 × Int32)
  | 0, _, _, _, _, _, _, _, _ => none
  | n + 1, hand, choices, values, askedIs, partedBy, x2, x3, x4 =>
    if x4 = 0 then
    (some ((M_X7_asks askedIs x3).1, hand, choices, values, (M_X7_asks askedIs x3).2, partedBy))
    else
    ((M_X7_goChoices now choices hand partedBy x2).bind fun r4 =>
    M_X7_duel_b89 now (fun (hand' : (Nat → Int32)) (choices' : (Nat → Int32)) (values' : (Nat → Int32)) (askedIs' : Int32) (partedBy' : Int32) (x2' : Int32) (x3' : Int32) (x4' : Int32) => M_X7_duel_b70 now n hand' choices' values' askedIs' partedBy' x2' x3' x4') x_fuel r4.2.1 choices values askedIs r4.2.2 x2 r4.1 (x2 - (1 : Int32)) (1 : Int32))
set_option maxHeartbeats 4000000 in
set_option maxRecDepth 100000 in
theorem w_X7_duel_b70 {G : x_G} {l : Launch} {a : Nat → Nat} {now : (Nat → Int32)} {kept : (Nat → Int32)} {isKept : (Nat → Int32)} {rows : (Nat → Int32)} {rowLong : (Nat → Int32)} {texts : (Nat → Int32)} {textLong : (Nat → Int32)} {found : (Nat → Int32)} {taken : (Nat → Int32)} {anew : (Nat → Int32)} {steps : (Nat → Int32)} {shares : (Nat → Int32)} {latest : Int32} {above : Int64} {below : Int64} {place : Int32} {res : Int32 × (Nat → Int32) × (Nat → Int32) × (Nat → Int32) × Int32 × Int32} : ∀ (n : Nat) (hand : (Nat → Int32)) (choices : (Nat → Int32)) (values : (Nat → Int32)) (askedIs : Int32) (partedBy : Int32) (x2 : Int32) (x3 : Int32) (x4 : Int32), M_X7_duel_b70 now n hand choices values askedIs partedBy x2 x3 x4 = some res → X G l RX7 cX7_duel 7 (x_R 5 0 0) (x_Cm G (some .int) false (x_is (some (.int res.1)) (WModel G a now kept isKept rows rowLong texts textLong found taken anew res.2.1 steps shares res.2.2.1 res.2.2.2.1 latest res.2.2.2.2.1 above below place res.2.2.2.2.2)) 0 0) 0 0 70 [(0, .ref (a 0)), (2, .int x2), (3, .int x3), (4, .int x4)] [] (WModel G a now kept isKept rows rowLong texts textLong found taken anew hand steps shares choices values latest askedIs above below place partedBy) := by
  intro n
  induction n with
  | zero =>
    intro _ _ _ _ _ _ _ _ h
    cases h
  | succ n ih =>
    intro hand choices values askedIs partedBy x2 x3 x4 h
    rw [M_X7_duel_b70] at h
    refine x_iload dX7_duel_70 3 rfl ?_
    refine x_if_eq 189 dX7_duel_72 (by decide) (fun c3 => ?_) (fun c3 => ?_)
    · have h := x_pos c3 h
      refine x_aload_n dX7_duel_189 0 rfl rfl ?_
      refine x_iload_n dX7_duel_190 2 rfl rfl ?_
      refine x_cV (As := [.int x3]) (wc := (WModel G a now kept isKept rows rowLong texts textLong found taken anew hand steps shares choices values latest askedIs above below place partedBy)) (w1 := (WModel G a now kept isKept rows rowLong texts textLong found taken anew hand steps shares choices values latest ((M_X7_asks askedIs x3).2) above below place partedBy)) (pre := []) (post := []) (rest := []) (st1 := [.int ((M_X7_asks askedIs x3).1)]) (ws1 := (WModel G a now kept isKept rows rowLong texts textLong found taken anew hand steps shares choices values latest ((M_X7_asks askedIs x3).2) above below place partedBy)) (ci := 5) 0 dX7_duel_191 (c_X7_asks (a := a) rfl) pk_X7_asks ml_X7_87 (x_full _) rfl rfl rfl rfl rfl rfl rfl rfl (x_full _).symm ?_
      cases h
      exact x_ireturn dX7_duel_194 rfl (x_is.rf _ _)
    · have h := x_neg c3 h
      refine x_aload_n dX7_duel_75 0 rfl rfl ?_
      refine x_iload_n dX7_duel_76 1 rfl rfl ?_
      obtain ⟨r4, e5, h⟩ := x_bind h
      refine x_cV (As := [.int x2]) (wc := (WModel G a now kept isKept rows rowLong texts textLong found taken anew hand steps shares choices values latest askedIs above below place partedBy)) (w1 := (WModel G a now kept isKept rows rowLong texts textLong found taken anew r4.2.1 steps shares choices values latest askedIs above below place r4.2.2)) (pre := []) (post := []) (rest := []) (st1 := [.int r4.1]) (ws1 := (WModel G a now kept isKept rows rowLong texts textLong found taken anew r4.2.1 steps shares choices values latest askedIs above below place r4.2.2)) (ci := 5) 0 dX7_duel_77 (c_X7_goChoices (a := a) e5) pk_X7_goChoices ml_X7_223 (x_full _) rfl rfl rfl rfl rfl rfl rfl rfl (x_full _).symm ?_
      refine x_istore_n [(3, .int r4.1), (0, .ref (a 0)), (2, .int x2), (4, .int x4)] dX7_duel_80 rfl (by decide) rfl ?_
      refine x_iload_n dX7_duel_81 2 rfl rfl ?_
      refine x_iconst 1 dX7_duel_82 (by decide) ?_
      refine x_isub dX7_duel_83 ?_
      refine x_istore [(5, .int (x2 - (1 : Int32))), (3, .int r4.1), (0, .ref (a 0)), (2, .int x2), (4, .int x4)] dX7_duel_84 (by decide) rfl ?_
      refine x_iconst 1 dX7_duel_86 (by decide) ?_
      refine x_istore [(6, .int (1 : Int32)), (5, .int (x2 - (1 : Int32))), (3, .int r4.1), (0, .ref (a 0)), (2, .int x2), (4, .int x4)] dX7_duel_87 (by decide) rfl ?_
      refine x_lv [3, 4, 2, 1, 0] rfl ?_
      exact w_X7_duel_b89 (fun hand' choices' values' askedIs' partedBy' x2' x3' x4' h => ih hand' choices' values' askedIs' partedBy' x2' x3' x4' h) _ _ _ _ _ _ _ _ _ _ h
def M_X7_duel_b35 (now : (Nat → Int32)) : Nat → (Nat → Int32) → (Nat → Int32) → (Nat → Int32) → Int32 → Int32 → Int32 → Int32 → Int32 → Option (Int32 × (Nat → Int32) × (Nat → Int32) × (Nat → Int32) × Int32 × Int32)
  | 0, _, _, _, _, _, _, _, _ => none
  | n + 1, hand, choices, values, askedIs, partedBy, x2, x3, x4 =>
    if x2 ≤ x4 then
    (M_X7_duel_b70 now x_fuel hand choices values askedIs partedBy x2 x3 (1 : Int32))
    else
    (if inb x4 6 then
    M_X7_duel_b35 now n hand (upd choices x4.toNatClampNeg (0 : Int32)) (upd values x4.toNatClampNeg (M_X7_startOf x4)) askedIs partedBy x2 x3 (x4 + (1 : Int32))
    else none)
set_option maxHeartbeats 4000000 in
set_option maxRecDepth 100000 in
theorem w_X7_duel_b35 {G : x_G} {l : Launch} {a : Nat → Nat} {now : (Nat → Int32)} {kept : (Nat → Int32)} {isKept : (Nat → Int32)} {rows : (Nat → Int32)} {rowLong : (Nat → Int32)} {texts : (Nat → Int32)} {textLong : (Nat → Int32)} {found : (Nat → Int32)} {taken : (Nat → Int32)} {anew : (Nat → Int32)} {steps : (Nat → Int32)} {shares : (Nat → Int32)} {latest : Int32} {above : Int64} {below : Int64} {place : Int32} {res : Int32 × (Nat → Int32) × (Nat → Int32) × (Nat → Int32) × Int32 × Int32} : ∀ (n : Nat) (hand : (Nat → Int32)) (choices : (Nat → Int32)) (values : (Nat → Int32)) (askedIs : Int32) (partedBy : Int32) (x2 : Int32) (x3 : Int32) (x4 : Int32), M_X7_duel_b35 now n hand choices values askedIs partedBy x2 x3 x4 = some res → X G l RX7 cX7_duel 7 (x_R 5 0 0) (x_Cm G (some .int) false (x_is (some (.int res.1)) (WModel G a now kept isKept rows rowLong texts textLong found taken anew res.2.1 steps shares res.2.2.1 res.2.2.2.1 latest res.2.2.2.2.1 above below place res.2.2.2.2.2)) 0 0) 0 0 35 [(0, .ref (a 0)), (2, .int x2), (3, .int x3), (4, .int x4)] [] (WModel G a now kept isKept rows rowLong texts textLong found taken anew hand steps shares choices values latest askedIs above below place partedBy) := by
  intro n
  induction n with
  | zero =>
    intro _ _ _ _ _ _ _ _ h
    cases h
  | succ n ih =>
    intro hand choices values askedIs partedBy x2 x3 x4 h
    rw [M_X7_duel_b35] at h
    refine x_iload dX7_duel_35 3 rfl ?_
    refine x_iload_n dX7_duel_37 1 rfl rfl ?_
    refine x_icmp_ge 67 dX7_duel_38 (by decide) (fun c1 => ?_) (fun c1 => ?_)
    · have h := x_pos c1 h
      refine x_iconst 1 dX7_duel_67 (by decide) ?_
      refine x_istore [(4, .int (1 : Int32)), (0, .ref (a 0)), (2, .int x2), (3, .int x3)] dX7_duel_68 (by decide) rfl ?_
      refine x_lv [1, 2, 3, 0] rfl ?_
      exact w_X7_duel_b70  _ _ _ _ _ _ _ _ _ h
    · have h := x_neg c1 h
      refine x_aload_n dX7_duel_41 0 rfl rfl ?_
      refine x_get (ci := 5) 19 0 dX7_duel_42 fl_X7_54 inX7 rfl (by decide) ⟨rfl, rfl, rfl⟩ rfl rfl ?_
      refine x_iload dX7_duel_45 3 rfl ?_
      refine x_iconst 0 dX7_duel_47 (by decide) ?_
      obtain ⟨b2, h⟩ := x_guard h
      refine x_iast x4.toNatClampNeg (q0 := 14) (WModel G a now kept isKept rows rowLong texts textLong found taken anew hand steps shares ((upd choices x4.toNatClampNeg (0 : Int32))) values latest askedIs above below place partedBy) dX7_duel_48 rfl rfl b2 rfl ?_
      refine x_aload_n dX7_duel_49 0 rfl rfl ?_
      refine x_get (ci := 5) 20 0 dX7_duel_50 fl_X7_57 inX7 rfl (by decide) ⟨rfl, rfl, rfl⟩ rfl rfl ?_
      refine x_iload dX7_duel_53 3 rfl ?_
      refine x_iload dX7_duel_55 3 rfl ?_
      refine x_cS (As := [.int x4]) (wc := ([] : va_W)) (w1 := ([] : va_W)) (pre := []) (post := (WModel G a now kept isKept rows rowLong texts textLong found taken anew hand steps shares ((upd choices x4.toNatClampNeg (0 : Int32))) values latest askedIs above below place partedBy)) (rest := [.int x4, .ref (a 15)]) (st1 := [.int (M_X7_startOf x4), .int x4, .ref (a 15)]) (ws1 := (WModel G a now kept isKept rows rowLong texts textLong found taken anew hand steps shares ((upd choices x4.toNatClampNeg (0 : Int32))) values latest askedIs above below place partedBy)) dX7_duel_57 (c_X7_startOf rfl) pk_X7_startOf ml_X7_220 rfl rfl rfl rfl rfl rfl rfl ?_
      refine x_iast x4.toNatClampNeg (q0 := 15) (WModel G a now kept isKept rows rowLong texts textLong found taken anew hand steps shares ((upd choices x4.toNatClampNeg (0 : Int32))) ((upd values x4.toNatClampNeg (M_X7_startOf x4))) latest askedIs above below place partedBy) dX7_duel_60 rfl rfl b2 rfl ?_
      refine x_iinc (j := 3) (1 : Int32) [(4, .int (x4 + (1 : Int32))), (0, .ref (a 0)), (2, .int x2), (3, .int x3)] dX7_duel_61 (by decide) rfl (by decide) rfl ?_
      refine x_goto 35 dX7_duel_64 (by decide) ?_
      refine x_lv [1, 2, 3, 0] rfl ?_
      exact ih _ _ _ _ _ _ _ _ h
def M_X7_duel (now : (Nat → Int32)) (hand : (Nat → Int32)) (choices : (Nat → Int32)) (values : (Nat → Int32)) (askedIs : Int32) (partedBy : Int32) (x1 : Int32) : Option (Int32 × (Nat → Int32) × (Nat → Int32) × (Nat → Int32) × Int32 × Int32) :=
  if (M_X7_in x1.toInt64 (0 : Int64) (3 : Int64)) = 0 then
  (some ((-1 : Int32), hand, choices, values, askedIs, partedBy))
  else
  (if (now 0) = 0 then
  (some ((-4 : Int32), hand, choices, values, askedIs, partedBy))
  else
  (M_X7_duel_b35 now x_fuel hand choices values askedIs partedBy ((2 : Int32) * x1) (0 : Int32) (0 : Int32)))
set_option maxHeartbeats 4000000 in
set_option maxRecDepth 100000 in
theorem c_X7_duel {G : x_G} {l : Launch} {a : Nat → Nat} {now : (Nat → Int32)} {kept : (Nat → Int32)} {isKept : (Nat → Int32)} {rows : (Nat → Int32)} {rowLong : (Nat → Int32)} {texts : (Nat → Int32)} {textLong : (Nat → Int32)} {found : (Nat → Int32)} {taken : (Nat → Int32)} {anew : (Nat → Int32)} {steps : (Nat → Int32)} {shares : (Nat → Int32)} {latest : Int32} {above : Int64} {below : Int64} {place : Int32} {hand : (Nat → Int32)} {choices : (Nat → Int32)} {values : (Nat → Int32)} {askedIs : Int32} {partedBy : Int32} {x1 : Int32} {res : Int32 × (Nat → Int32) × (Nat → Int32) × (Nat → Int32) × Int32 × Int32} (h : M_X7_duel now hand choices values askedIs partedBy x1 = some res) : x_M G l yX7_duel cX7_duel 7 (some .int) (5) 0 0 [.ref (a 0), .int x1] (WModel G a now kept isKept rows rowLong texts textLong found taken anew hand steps shares choices values latest askedIs above below place partedBy) (x_is (some (.int res.1)) (WModel G a now kept isKept rows rowLong texts textLong found taken anew res.2.1 steps shares res.2.2.1 res.2.2.2.1 latest res.2.2.2.2.1 above below place res.2.2.2.2.2)) := by
  unfold M_X7_duel at h
  refine x_enter (ini := false) (by decide) rfl (by decide) rfl (Nat.le_of_ble_eq_true rfl) ?_
  refine x_iload_n dX7_duel_0 1 rfl rfl ?_
  refine x_i2l dX7_duel_1 ?_
  refine x_lconst 0 dX7_duel_2 (by decide) ?_
  refine x_ldc2 dX7_duel_3 kl_X7_73 ?_
  refine x_cS (As := [.long x1.toInt64, .long (0 : Int64), .long (3 : Int64)]) (wc := ([] : va_W)) (w1 := ([] : va_W)) (pre := []) (post := (WModel G a now kept isKept rows rowLong texts textLong found taken anew hand steps shares choices values latest askedIs above below place partedBy)) (rest := []) (st1 := [.int (M_X7_in x1.toInt64 (0 : Int64) (3 : Int64))]) (ws1 := (WModel G a now kept isKept rows rowLong texts textLong found taken anew hand steps shares choices values latest askedIs above below place partedBy)) dX7_duel_6 (c_X7_in rfl) pk_X7_in ml_X7_69 rfl rfl rfl rfl rfl rfl rfl ?_
  refine x_if_ne 14 dX7_duel_9 (by decide) (fun c15 => ?_) (fun c15 => ?_)
  · have h := x_neg c15 h
    refine x_aload_n dX7_duel_14 0 rfl rfl ?_
    refine x_get (ci := 5) 0 0 dX7_duel_15 fl_X7_7 inX7 rfl (by decide) ⟨rfl, rfl, rfl⟩ rfl rfl ?_
    refine x_iconst 0 dX7_duel_18 (by decide) ?_
    refine x_iald 0 (q0 := 1) dX7_duel_19 (by decide) rfl (by decide) ?_
    refine x_if_ne 26 dX7_duel_20 (by decide) (fun c16 => ?_) (fun c16 => ?_)
    · have h := x_neg c16 h
      refine x_iconst 2 dX7_duel_26 (by decide) ?_
      refine x_iload_n dX7_duel_27 1 rfl rfl ?_
      refine x_imul dX7_duel_28 ?_
      refine x_istore_n [(2, .int ((2 : Int32) * x1)), (0, .ref (a 0)), (1, .int x1)] dX7_duel_29 rfl (by decide) rfl ?_
      refine x_iconst 0 dX7_duel_30 (by decide) ?_
      refine x_istore_n [(3, .int (0 : Int32)), (2, .int ((2 : Int32) * x1)), (0, .ref (a 0)), (1, .int x1)] dX7_duel_31 rfl (by decide) rfl ?_
      refine x_iconst 0 dX7_duel_32 (by decide) ?_
      refine x_istore [(4, .int (0 : Int32)), (3, .int (0 : Int32)), (2, .int ((2 : Int32) * x1)), (0, .ref (a 0)), (1, .int x1)] dX7_duel_33 (by decide) rfl ?_
      refine x_lv [3, 2, 1, 0] rfl ?_
      exact w_X7_duel_b35  _ _ _ _ _ _ _ _ _ h
    · have h := x_pos c16 h
      refine x_bipush (-4 : Int32) dX7_duel_23 (by decide) ?_
      cases h
      exact x_ireturn dX7_duel_25 rfl (x_is.rf _ _)
  · have h := x_pos c15 h
    refine x_iconst (-1 : Int32) dX7_duel_12 (by decide) ?_
    cases h
    exact x_ireturn dX7_duel_13 rfl (x_is.rf _ _)
theorem pk_X7_fraction : x_pv RX7 yX7_fraction cX7_fraction 11 none 2 := ⟨⟨co_X7_fraction, ni_X7, by decide, by decide +kernel⟩, im_X7_fraction, se_X7_fraction⟩
def M_X7_fraction_b6 : Nat → Int64 → Int64 → Int64 → Int64 → Int64 → Int64 → Option (Int64 × Int64)
  | 0, _, _, _, _, _, _ => none
  | n + 1, above, below, x1, x3, x5, x7 =>
    if (lg_cmp x7 (0 : Int64)) = 0 then
    (if ¬ x5 = 0 then
    if ¬ x5 = 0 then
    some ((x1 / x5), (x3 / x5))
    else none
    else none)
    else
    (if ¬ x7 = 0 then
    M_X7_fraction_b6 n above below x1 x3 x7 (x5 - x5 / x7 * x7)
    else none)
set_option maxHeartbeats 4000000 in
set_option maxRecDepth 100000 in
theorem w_X7_fraction_b6 {G : x_G} {l : Launch} {a : Nat → Nat} {now : (Nat → Int32)} {kept : (Nat → Int32)} {isKept : (Nat → Int32)} {rows : (Nat → Int32)} {rowLong : (Nat → Int32)} {texts : (Nat → Int32)} {textLong : (Nat → Int32)} {found : (Nat → Int32)} {taken : (Nat → Int32)} {anew : (Nat → Int32)} {hand : (Nat → Int32)} {steps : (Nat → Int32)} {shares : (Nat → Int32)} {choices : (Nat → Int32)} {values : (Nat → Int32)} {latest : Int32} {askedIs : Int32} {place : Int32} {partedBy : Int32} {res : Int64 × Int64} : ∀ (n : Nat) (above : Int64) (below : Int64) (x1 : Int64) (x3 : Int64) (x5 : Int64) (x7 : Int64), M_X7_fraction_b6 n above below x1 x3 x5 x7 = some res → X G l RX7 cX7_fraction 11 (x_R 0 0 0) (x_Cm G none false (x_is none (WModel G a now kept isKept rows rowLong texts textLong found taken anew hand steps shares choices values latest askedIs res.1 res.2 place partedBy)) 0 0) 0 0 6 [(0, .ref (a 0)), (1, .long x1), (3, .long x3), (5, .long x5), (7, .long x7)] [] (WModel G a now kept isKept rows rowLong texts textLong found taken anew hand steps shares choices values latest askedIs above below place partedBy) := by
  intro n
  induction n with
  | zero =>
    intro _ _ _ _ _ _ h
    cases h
  | succ n ih =>
    intro above below x1 x3 x5 x7 h
    rw [M_X7_fraction_b6] at h
    refine x_lload dX7_fraction_6 4 rfl ?_
    refine x_lconst 0 dX7_fraction_8 (by decide) ?_
    refine x_lcmp dX7_fraction_9 ?_
    refine x_if_eq 31 dX7_fraction_10 (by decide) (fun c1 => ?_) (fun c1 => ?_)
    · have h := x_pos c1 h
      refine x_aload_n dX7_fraction_31 0 rfl rfl ?_
      refine x_lload_n dX7_fraction_32 1 rfl rfl ?_
      refine x_lload dX7_fraction_33 3 rfl ?_
      obtain ⟨b2, h⟩ := x_guard h
      refine x_ldiv dX7_fraction_35 b2 ?_
      refine x_put (ci := 5) (ty := .long) 10 0 (WModel G a now kept isKept rows rowLong texts textLong found taken anew hand steps shares choices values latest askedIs ((x1 / x5)) below place partedBy) dX7_fraction_36 fl_X7_230 inX7 tyX7_ok nmX7 rfl (by decide) ⟨rfl, rfl, rfl, rfl, rfl⟩ rfl rfl rfl rfl rfl ?_
      refine x_aload_n dX7_fraction_39 0 rfl rfl ?_
      refine x_lload_n dX7_fraction_40 2 rfl rfl ?_
      refine x_lload dX7_fraction_41 3 rfl ?_
      obtain ⟨b3, h⟩ := x_guard h
      refine x_ldiv dX7_fraction_43 b3 ?_
      refine x_put (ci := 5) (ty := .long) 11 0 (WModel G a now kept isKept rows rowLong texts textLong found taken anew hand steps shares choices values latest askedIs ((x1 / x5)) ((x3 / x5)) place partedBy) dX7_fraction_44 fl_X7_35 inX7 tyX7_ok nmX7 rfl (by decide) ⟨rfl, rfl, rfl, rfl, rfl⟩ rfl rfl rfl rfl rfl ?_
      cases h
      exact x_return dX7_fraction_47 (x_is.rf _ _)
    · have h := x_neg c1 h
      refine x_lload dX7_fraction_13 3 rfl ?_
      refine x_lload dX7_fraction_15 4 rfl ?_
      obtain ⟨b4, h⟩ := x_guard h
      refine x_lrem dX7_fraction_17 b4 ?_
      refine x_lstore [(9, .long (x5 - x5 / x7 * x7)), (0, .ref (a 0)), (1, .long x1), (3, .long x3), (5, .long x5), (7, .long x7)] dX7_fraction_18 (by decide) rfl ?_
      refine x_lload dX7_fraction_20 5 rfl ?_
      refine x_lstore [(5, .long x7), (9, .long (x5 - x5 / x7 * x7)), (0, .ref (a 0)), (1, .long x1), (3, .long x3), (7, .long x7)] dX7_fraction_22 (by decide) rfl ?_
      refine x_lload dX7_fraction_24 1 rfl ?_
      refine x_lstore [(7, .long (x5 - x5 / x7 * x7)), (5, .long x7), (9, .long (x5 - x5 / x7 * x7)), (0, .ref (a 0)), (1, .long x1), (3, .long x3)] dX7_fraction_26 (by decide) rfl ?_
      refine x_goto 6 dX7_fraction_28 (by decide) ?_
      refine x_lv [3, 4, 5, 1, 0] rfl ?_
      exact ih _ _ _ _ _ _ h
def M_X7_fraction (above : Int64) (below : Int64) (x1 : Int64) (x3 : Int64) : Option (Int64 × Int64) :=
  M_X7_fraction_b6 x_fuel above below x1 x3 x1 x3
set_option maxHeartbeats 4000000 in
set_option maxRecDepth 100000 in
theorem c_X7_fraction {G : x_G} {l : Launch} {a : Nat → Nat} {now : (Nat → Int32)} {kept : (Nat → Int32)} {isKept : (Nat → Int32)} {rows : (Nat → Int32)} {rowLong : (Nat → Int32)} {texts : (Nat → Int32)} {textLong : (Nat → Int32)} {found : (Nat → Int32)} {taken : (Nat → Int32)} {anew : (Nat → Int32)} {hand : (Nat → Int32)} {steps : (Nat → Int32)} {shares : (Nat → Int32)} {choices : (Nat → Int32)} {values : (Nat → Int32)} {latest : Int32} {askedIs : Int32} {place : Int32} {partedBy : Int32} {above : Int64} {below : Int64} {x1 : Int64} {x3 : Int64} {res : Int64 × Int64} (h : M_X7_fraction above below x1 x3 = some res) : x_M G l yX7_fraction cX7_fraction 11 none (0) 0 0 [.ref (a 0), .long x1, .long x3] (WModel G a now kept isKept rows rowLong texts textLong found taken anew hand steps shares choices values latest askedIs above below place partedBy) (x_is none (WModel G a now kept isKept rows rowLong texts textLong found taken anew hand steps shares choices values latest askedIs res.1 res.2 place partedBy)) := by
  unfold M_X7_fraction at h
  refine x_enter (ini := false) (by decide) rfl (by decide) rfl (Nat.le_of_ble_eq_true rfl) ?_
  refine x_lload_n dX7_fraction_0 1 rfl rfl ?_
  refine x_lstore [(5, .long x1), (0, .ref (a 0)), (1, .long x1), (3, .long x3)] dX7_fraction_1 (by decide) rfl ?_
  refine x_lload_n dX7_fraction_3 3 rfl rfl ?_
  refine x_lstore [(7, .long x3), (5, .long x1), (0, .ref (a 0)), (1, .long x1), (3, .long x3)] dX7_fraction_4 (by decide) rfl ?_
  refine x_lv [2, 3, 4, 1, 0] rfl ?_
  exact w_X7_fraction_b6  _ _ _ _ _ _ _ h
theorem pk_X7_goOdds : x_pv RX7 yX7_goOdds cX7_goOdds 12 none 2 := ⟨⟨co_X7_goOdds, ni_X7, by decide, by decide +kernel⟩, im_X7_goOdds, se_X7_goOdds⟩
def M_X7_goOdds_b134 (now : (Nat → Int32)) (k56 : Int64 → Int64 → Int32 → Int32 → Int32 → Int64 → Int64 → Int32 → Option (Int64 × Int64)) (k88 : Int64 → Int64 → Int32 → Int32 → Int32 → Int64 → Int64 → Int32 → Int64 → Int32 → Option (Int64 × Int64)) (above : Int64) (below : Int64) (x1 : Int32) (x2 : Int32) (x3 : Int32) (x4 : Int64) (x6 : Int64) (x8 : Int32) (x11 : Int32) (s0 : Int64) (s1 : Int64) : Option (Int64 × Int64) :=
  k88 above below x1 x2 x3 x4 x6 x8 (s0 * s1) (x11 + (1 : Int32))
set_option maxHeartbeats 4000000 in
set_option maxRecDepth 100000 in
theorem w_X7_goOdds_b134 {G : x_G} {l : Launch} {a : Nat → Nat} {now : (Nat → Int32)} {kept : (Nat → Int32)} {isKept : (Nat → Int32)} {rows : (Nat → Int32)} {rowLong : (Nat → Int32)} {texts : (Nat → Int32)} {textLong : (Nat → Int32)} {found : (Nat → Int32)} {taken : (Nat → Int32)} {anew : (Nat → Int32)} {hand : (Nat → Int32)} {steps : (Nat → Int32)} {shares : (Nat → Int32)} {choices : (Nat → Int32)} {values : (Nat → Int32)} {latest : Int32} {askedIs : Int32} {place : Int32} {partedBy : Int32} {k56 : Int64 → Int64 → Int32 → Int32 → Int32 → Int64 → Int64 → Int32 → Option (Int64 × Int64)} {k88 : Int64 → Int64 → Int32 → Int32 → Int32 → Int64 → Int64 → Int32 → Int64 → Int32 → Option (Int64 × Int64)} {res : Int64 × Int64} (hk56 : ∀ (above : Int64) (below : Int64) (x1 : Int32) (x2 : Int32) (x3 : Int32) (x4 : Int64) (x6 : Int64) (x8 : Int32), k56 above below x1 x2 x3 x4 x6 x8 = some res → X G l RX7 cX7_goOdds 12 (x_R 2 0 0) (x_Cm G none false (x_is none (WModel G a now kept isKept rows rowLong texts textLong found taken anew hand steps shares choices values latest askedIs res.1 res.2 place partedBy)) 0 0) 0 0 56 [(0, .ref (a 0)), (1, .int x1), (2, .int x2), (3, .int x3), (4, .long x4), (6, .long x6), (8, .int x8)] [] (WModel G a now kept isKept rows rowLong texts textLong found taken anew hand steps shares choices values latest askedIs above below place partedBy)) (hk88 : ∀ (above : Int64) (below : Int64) (x1 : Int32) (x2 : Int32) (x3 : Int32) (x4 : Int64) (x6 : Int64) (x8 : Int32) (x9 : Int64) (x11 : Int32), k88 above below x1 x2 x3 x4 x6 x8 x9 x11 = some res → X G l RX7 cX7_goOdds 12 (x_R 2 0 0) (x_Cm G none false (x_is none (WModel G a now kept isKept rows rowLong texts textLong found taken anew hand steps shares choices values latest askedIs res.1 res.2 place partedBy)) 0 0) 0 0 88 [(0, .ref (a 0)), (1, .int x1), (2, .int x2), (3, .int x3), (4, .long x4), (6, .long x6), (8, .int x8), (9, .long x9), (11, .int x11)] [] (WModel G a now kept isKept rows rowLong texts textLong found taken anew hand steps shares choices values latest askedIs above below place partedBy)) (above : Int64) (below : Int64) (x1 : Int32) (x2 : Int32) (x3 : Int32) (x4 : Int64) (x6 : Int64) (x8 : Int32) (x11 : Int32) (s0 : Int64) (s1 : Int64) (h : M_X7_goOdds_b134 now k56 k88 above below x1 x2 x3 x4 x6 x8 x11 s0 s1 = some res) : X G l RX7 cX7_goOdds 12 (x_R 2 0 0) (x_Cm G none false (x_is none (WModel G a now kept isKept rows rowLong texts textLong found taken anew hand steps shares choices values latest askedIs res.1 res.2 place partedBy)) 0 0) 0 0 134 [(0, .ref (a 0)), (1, .int x1), (2, .int x2), (3, .int x3), (4, .long x4), (6, .long x6), (8, .int x8), (11, .int x11)] [.long s1, .long s0] (WModel G a now kept isKept rows rowLong texts textLong found taken anew hand steps shares choices values latest askedIs above below place partedBy) := by
  unfold M_X7_goOdds_b134 at h
  refine x_lmul dX7_goOdds_134 ?_
  refine x_lstore [(9, .long (s0 * s1)), (0, .ref (a 0)), (1, .int x1), (2, .int x2), (3, .int x3), (4, .long x4), (6, .long x6), (8, .int x8), (11, .int x11)] dX7_goOdds_135 (by decide) rfl ?_
  refine x_iinc (j := 8) (1 : Int32) [(11, .int (x11 + (1 : Int32))), (9, .long (s0 * s1)), (0, .ref (a 0)), (1, .int x1), (2, .int x2), (3, .int x3), (4, .long x4), (6, .long x6), (8, .int x8)] dX7_goOdds_137 (by decide) rfl (by decide) rfl ?_
  refine x_goto 88 dX7_goOdds_140 (by decide) ?_
  refine x_lv [2, 3, 4, 5, 6, 7, 8, 1, 0] rfl ?_
  exact hk88 _ _ _ _ _ _ _ _ _ _ h
def M_X7_goOdds_b88 (now : (Nat → Int32)) (k56 : Int64 → Int64 → Int32 → Int32 → Int32 → Int64 → Int64 → Int32 → Option (Int64 × Int64)) : Nat → Int64 → Int64 → Int32 → Int32 → Int32 → Int64 → Int64 → Int32 → Int64 → Int32 → Option (Int64 × Int64)
  | 0, _, _, _, _, _, _, _, _, _, _ => none
  | n + 1, above, below, x1, x2, x3, x4, x6, x8, x9, x11 =>
    if (now 0) ≤ x11 then
    ((M_X7_taut_85 now).bind fun r9 =>
    (M_X7_lawfulBy_85 now (r9 &&& (x8 ^^^ (-1 : Int32)))).bind fun r11 =>
    (M_X7_bits (r11 &&& x1)).bind fun r13 =>
    k56 above below x1 x2 x3 (x4 + (x9 * r13.toInt64)) x6 (x8 + (1 : Int32)))
    else
    (if (M_X7_has x3 x11) = 0 then
    (M_X7_goOdds_b134 now k56 (fun (above' : Int64) (below' : Int64) (x1' : Int32) (x2' : Int32) (x3' : Int32) (x4' : Int64) (x6' : Int64) (x8' : Int32) (x9' : Int64) (x11' : Int32) => M_X7_goOdds_b88 now k56 n above' below' x1' x2' x3' x4' x6' x8' x9' x11') above below x1 x2 x3 x4 x6 x8 x11 x9 (1 : Int64))
    else
    (if (M_X7_has x8 x11) = 0 then
    (M_X7_goOdds_b134 now k56 (fun (above' : Int64) (below' : Int64) (x1' : Int32) (x2' : Int32) (x3' : Int32) (x4' : Int64) (x6' : Int64) (x8' : Int32) (x9' : Int64) (x11' : Int32) => M_X7_goOdds_b88 now k56 n above' below' x1' x2' x3' x4' x6' x8' x9' x11') above below x1 x2 x3 x4 x6 x8 x11 x9 (((12 : Int32) - x2).toInt64))
    else
    (M_X7_goOdds_b134 now k56 (fun (above' : Int64) (below' : Int64) (x1' : Int32) (x2' : Int32) (x3' : Int32) (x4' : Int64) (x6' : Int64) (x8' : Int32) (x9' : Int64) (x11' : Int32) => M_X7_goOdds_b88 now k56 n above' below' x1' x2' x3' x4' x6' x8' x9' x11') above below x1 x2 x3 x4 x6 x8 x11 x9 x2.toInt64)))
set_option maxHeartbeats 4000000 in
set_option maxRecDepth 100000 in
theorem w_X7_goOdds_b88 {G : x_G} {l : Launch} {a : Nat → Nat} {now : (Nat → Int32)} {kept : (Nat → Int32)} {isKept : (Nat → Int32)} {rows : (Nat → Int32)} {rowLong : (Nat → Int32)} {texts : (Nat → Int32)} {textLong : (Nat → Int32)} {found : (Nat → Int32)} {taken : (Nat → Int32)} {anew : (Nat → Int32)} {hand : (Nat → Int32)} {steps : (Nat → Int32)} {shares : (Nat → Int32)} {choices : (Nat → Int32)} {values : (Nat → Int32)} {latest : Int32} {askedIs : Int32} {place : Int32} {partedBy : Int32} {k56 : Int64 → Int64 → Int32 → Int32 → Int32 → Int64 → Int64 → Int32 → Option (Int64 × Int64)} {res : Int64 × Int64} (hk56 : ∀ (above : Int64) (below : Int64) (x1 : Int32) (x2 : Int32) (x3 : Int32) (x4 : Int64) (x6 : Int64) (x8 : Int32), k56 above below x1 x2 x3 x4 x6 x8 = some res → X G l RX7 cX7_goOdds 12 (x_R 2 0 0) (x_Cm G none false (x_is none (WModel G a now kept isKept rows rowLong texts textLong found taken anew hand steps shares choices values latest askedIs res.1 res.2 place partedBy)) 0 0) 0 0 56 [(0, .ref (a 0)), (1, .int x1), (2, .int x2), (3, .int x3), (4, .long x4), (6, .long x6), (8, .int x8)] [] (WModel G a now kept isKept rows rowLong texts textLong found taken anew hand steps shares choices values latest askedIs above below place partedBy)) : ∀ (n : Nat) (above : Int64) (below : Int64) (x1 : Int32) (x2 : Int32) (x3 : Int32) (x4 : Int64) (x6 : Int64) (x8 : Int32) (x9 : Int64) (x11 : Int32), M_X7_goOdds_b88 now k56 n above below x1 x2 x3 x4 x6 x8 x9 x11 = some res → X G l RX7 cX7_goOdds 12 (x_R 2 0 0) (x_Cm G none false (x_is none (WModel G a now kept isKept rows rowLong texts textLong found taken anew hand steps shares choices values latest askedIs res.1 res.2 place partedBy)) 0 0) 0 0 88 [(0, .ref (a 0)), (1, .int x1), (2, .int x2), (3, .int x3), (4, .long x4), (6, .long x6), (8, .int x8), (9, .long x9), (11, .int x11)] [] (WModel G a now kept isKept rows rowLong texts textLong found taken anew hand steps shares choices values latest askedIs above below place partedBy) := by
  intro n
  induction n with
  | zero =>
    intro _ _ _ _ _ _ _ _ _ _ h
    cases h
  | succ n ih =>
    intro above below x1 x2 x3 x4 x6 x8 x9 x11 h
    rw [M_X7_goOdds_b88] at h
    refine x_iload dX7_goOdds_88 8 rfl ?_
    refine x_aload_n dX7_goOdds_90 0 rfl rfl ?_
    refine x_get (ci := 5) 0 0 dX7_goOdds_91 fl_X7_7 inX7 rfl (by decide) ⟨rfl, rfl, rfl⟩ rfl rfl ?_
    refine x_iconst 0 dX7_goOdds_94 (by decide) ?_
    refine x_iald 0 (q0 := 1) dX7_goOdds_95 (by decide) rfl (by decide) ?_
    refine x_icmp_ge 143 dX7_goOdds_96 (by decide) (fun c8 => ?_) (fun c8 => ?_)
    · have h := x_pos c8 h
      refine x_lload dX7_goOdds_143 4 rfl ?_
      refine x_lload dX7_goOdds_145 7 rfl ?_
      refine x_aload_n dX7_goOdds_147 0 rfl rfl ?_
      refine x_get (ci := 5) 0 0 dX7_goOdds_148 fl_X7_7 inX7 rfl (by decide) ⟨rfl, rfl, rfl⟩ rfl rfl ?_
      refine x_aload_n dX7_goOdds_151 0 rfl rfl ?_
      refine x_get (ci := 5) 0 0 dX7_goOdds_152 fl_X7_7 inX7 rfl (by decide) ⟨rfl, rfl, rfl⟩ rfl rfl ?_
      obtain ⟨r9, e10, h⟩ := x_bind h
      refine x_cS (As := [.ref (a 1)]) (wc := (WArr G (fun k => a (1 + k)) 85 now)) (w1 := (WArr G (fun k => a (1 + k)) 85 now)) (pre := ((WModel G a now kept isKept rows rowLong texts textLong found taken anew hand steps shares choices values latest askedIs above below place partedBy).take 1)) (post := ((WModel G a now kept isKept rows rowLong texts textLong found taken anew hand steps shares choices values latest askedIs above below place partedBy).drop 2)) (rest := [.ref (a 1), .long x9, .long x4]) (st1 := [.int r9, .ref (a 1), .long x9, .long x4]) (ws1 := (WModel G a now kept isKept rows rowLong texts textLong found taken anew hand steps shares choices values latest askedIs above below place partedBy)) dX7_goOdds_155 (c_X7_taut_85 (aq := (fun k => a (1 + k))) e10) pk_X7_taut ml_X7_167 rfl rfl rfl rfl rfl rfl rfl ?_
      refine x_iload dX7_goOdds_158 6 rfl ?_
      refine x_iconst (-1 : Int32) dX7_goOdds_160 (by decide) ?_
      refine x_ixor dX7_goOdds_161 ?_
      refine x_iand dX7_goOdds_162 ?_
      obtain ⟨r11, e12, h⟩ := x_bind h
      refine x_cS (As := [.ref (a 1), .int (r9 &&& (x8 ^^^ (-1 : Int32)))]) (wc := (WArr G (fun k => a (1 + k)) 85 now)) (w1 := (WArr G (fun k => a (1 + k)) 85 now)) (pre := ((WModel G a now kept isKept rows rowLong texts textLong found taken anew hand steps shares choices values latest askedIs above below place partedBy).take 1)) (post := ((WModel G a now kept isKept rows rowLong texts textLong found taken anew hand steps shares choices values latest askedIs above below place partedBy).drop 2)) (rest := [.long x9, .long x4]) (st1 := [.int r11, .long x9, .long x4]) (ws1 := (WModel G a now kept isKept rows rowLong texts textLong found taken anew hand steps shares choices values latest askedIs above below place partedBy)) dX7_goOdds_163 (c_X7_lawfulBy_85 (aq := (fun k => a (1 + k))) e12) pk_X7_lawfulBy ml_X7_200 rfl rfl rfl rfl rfl rfl rfl ?_
      refine x_iload_n dX7_goOdds_166 1 rfl rfl ?_
      refine x_iand dX7_goOdds_167 ?_
      obtain ⟨r13, e14, h⟩ := x_bind h
      refine x_cS (As := [.int (r11 &&& x1)]) (wc := ([] : va_W)) (w1 := ([] : va_W)) (pre := []) (post := (WModel G a now kept isKept rows rowLong texts textLong found taken anew hand steps shares choices values latest askedIs above below place partedBy)) (rest := [.long x9, .long x4]) (st1 := [.int r13, .long x9, .long x4]) (ws1 := (WModel G a now kept isKept rows rowLong texts textLong found taken anew hand steps shares choices values latest askedIs above below place partedBy)) dX7_goOdds_168 (c_X7_bits e14) pk_X7_bits ml_X7_171 rfl rfl rfl rfl rfl rfl rfl ?_
      refine x_i2l dX7_goOdds_171 ?_
      refine x_lmul dX7_goOdds_172 ?_
      refine x_ladd dX7_goOdds_173 ?_
      refine x_lstore [(4, .long (x4 + (x9 * r13.toInt64))), (0, .ref (a 0)), (1, .int x1), (2, .int x2), (3, .int x3), (6, .long x6), (8, .int x8), (9, .long x9), (11, .int x11)] dX7_goOdds_174 (by decide) rfl ?_
      refine x_iinc (j := 6) (1 : Int32) [(8, .int (x8 + (1 : Int32))), (4, .long (x4 + (x9 * r13.toInt64))), (0, .ref (a 0)), (1, .int x1), (2, .int x2), (3, .int x3), (6, .long x6), (9, .long x9), (11, .int x11)] dX7_goOdds_176 (by decide) rfl (by decide) rfl ?_
      refine x_goto 56 dX7_goOdds_179 (by decide) ?_
      refine x_lv [2, 3, 4, 5, 1, 6, 0] rfl ?_
      exact hk56 _ _ _ _ _ _ _ _ h
    · have h := x_neg c8 h
      refine x_lload dX7_goOdds_99 7 rfl ?_
      refine x_iload_n dX7_goOdds_101 3 rfl rfl ?_
      refine x_iload dX7_goOdds_102 8 rfl ?_
      refine x_cS (As := [.int x3, .int x11]) (wc := ([] : va_W)) (w1 := ([] : va_W)) (pre := []) (post := (WModel G a now kept isKept rows rowLong texts textLong found taken anew hand steps shares choices values latest askedIs above below place partedBy)) (rest := [.long x9]) (st1 := [.int (M_X7_has x3 x11), .long x9]) (ws1 := (WModel G a now kept isKept rows rowLong texts textLong found taken anew hand steps shares choices values latest askedIs above below place partedBy)) dX7_goOdds_104 (c_X7_has rfl) pk_X7_has ml_X7_130 rfl rfl rfl rfl rfl rfl rfl ?_
      refine x_if_ne 114 dX7_goOdds_107 (by decide) (fun c15 => ?_) (fun c15 => ?_)
      · have h := x_neg c15 h
        refine x_iload dX7_goOdds_114 6 rfl ?_
        refine x_iload dX7_goOdds_116 8 rfl ?_
        refine x_cS (As := [.int x8, .int x11]) (wc := ([] : va_W)) (w1 := ([] : va_W)) (pre := []) (post := (WModel G a now kept isKept rows rowLong texts textLong found taken anew hand steps shares choices values latest askedIs above below place partedBy)) (rest := [.long x9]) (st1 := [.int (M_X7_has x8 x11), .long x9]) (ws1 := (WModel G a now kept isKept rows rowLong texts textLong found taken anew hand steps shares choices values latest askedIs above below place partedBy)) dX7_goOdds_118 (c_X7_has rfl) pk_X7_has ml_X7_130 rfl rfl rfl rfl rfl rfl rfl ?_
        refine x_if_eq 129 dX7_goOdds_121 (by decide) (fun c16 => ?_) (fun c16 => ?_)
        · have h := x_pos c16 h
          refine x_bipush 12 dX7_goOdds_129 (by decide) ?_
          refine x_iload_n dX7_goOdds_131 2 rfl rfl ?_
          refine x_isub dX7_goOdds_132 ?_
          refine x_i2l dX7_goOdds_133 ?_
          refine x_lv [0, 1, 2, 3, 4, 5, 6, 8] rfl ?_
          exact w_X7_goOdds_b134 hk56 (fun above' below' x1' x2' x3' x4' x6' x8' x9' x11' h => ih above' below' x1' x2' x3' x4' x6' x8' x9' x11' h) _ _ _ _ _ _ _ _ _ _ _ h
        · have h := x_neg c16 h
          refine x_iload_n dX7_goOdds_124 2 rfl rfl ?_
          refine x_i2l dX7_goOdds_125 ?_
          refine x_goto 134 dX7_goOdds_126 (by decide) ?_
          refine x_lv [0, 1, 2, 3, 4, 5, 6, 8] rfl ?_
          exact w_X7_goOdds_b134 hk56 (fun above' below' x1' x2' x3' x4' x6' x8' x9' x11' h => ih above' below' x1' x2' x3' x4' x6' x8' x9' x11' h) _ _ _ _ _ _ _ _ _ _ _ h
      · have h := x_pos c15 h
        refine x_lconst 1 dX7_goOdds_110 (by decide) ?_
        refine x_goto 134 dX7_goOdds_111 (by decide) ?_
        refine x_lv [0, 1, 2, 3, 4, 5, 6, 8] rfl ?_
        exact w_X7_goOdds_b134 hk56 (fun above' below' x1' x2' x3' x4' x6' x8' x9' x11' h => ih above' below' x1' x2' x3' x4' x6' x8' x9' x11' h) _ _ _ _ _ _ _ _ _ _ _ h
def M_X7_goOdds_b83 (now : (Nat → Int32)) (k56 : Int64 → Int64 → Int32 → Int32 → Int32 → Int64 → Int64 → Int32 → Option (Int64 × Int64)) (above : Int64) (below : Int64) (x1 : Int32) (x2 : Int32) (x3 : Int32) (x4 : Int64) (x6 : Int64) (x8 : Int32) (s0 : Int64) : Option (Int64 × Int64) :=
  M_X7_goOdds_b88 now k56 x_fuel above below x1 x2 x3 x4 x6 x8 s0 (0 : Int32)
set_option maxHeartbeats 4000000 in
set_option maxRecDepth 100000 in
theorem w_X7_goOdds_b83 {G : x_G} {l : Launch} {a : Nat → Nat} {now : (Nat → Int32)} {kept : (Nat → Int32)} {isKept : (Nat → Int32)} {rows : (Nat → Int32)} {rowLong : (Nat → Int32)} {texts : (Nat → Int32)} {textLong : (Nat → Int32)} {found : (Nat → Int32)} {taken : (Nat → Int32)} {anew : (Nat → Int32)} {hand : (Nat → Int32)} {steps : (Nat → Int32)} {shares : (Nat → Int32)} {choices : (Nat → Int32)} {values : (Nat → Int32)} {latest : Int32} {askedIs : Int32} {place : Int32} {partedBy : Int32} {k56 : Int64 → Int64 → Int32 → Int32 → Int32 → Int64 → Int64 → Int32 → Option (Int64 × Int64)} {res : Int64 × Int64} (hk56 : ∀ (above : Int64) (below : Int64) (x1 : Int32) (x2 : Int32) (x3 : Int32) (x4 : Int64) (x6 : Int64) (x8 : Int32), k56 above below x1 x2 x3 x4 x6 x8 = some res → X G l RX7 cX7_goOdds 12 (x_R 2 0 0) (x_Cm G none false (x_is none (WModel G a now kept isKept rows rowLong texts textLong found taken anew hand steps shares choices values latest askedIs res.1 res.2 place partedBy)) 0 0) 0 0 56 [(0, .ref (a 0)), (1, .int x1), (2, .int x2), (3, .int x3), (4, .long x4), (6, .long x6), (8, .int x8)] [] (WModel G a now kept isKept rows rowLong texts textLong found taken anew hand steps shares choices values latest askedIs above below place partedBy)) (above : Int64) (below : Int64) (x1 : Int32) (x2 : Int32) (x3 : Int32) (x4 : Int64) (x6 : Int64) (x8 : Int32) (s0 : Int64) (h : M_X7_goOdds_b83 now k56 above below x1 x2 x3 x4 x6 x8 s0 = some res) : X G l RX7 cX7_goOdds 12 (x_R 2 0 0) (x_Cm G none false (x_is none (WModel G a now kept isKept rows rowLong texts textLong found taken anew hand steps shares choices values latest askedIs res.1 res.2 place partedBy)) 0 0) 0 0 83 [(0, .ref (a 0)), (1, .int x1), (2, .int x2), (3, .int x3), (4, .long x4), (6, .long x6), (8, .int x8)] [.long s0] (WModel G a now kept isKept rows rowLong texts textLong found taken anew hand steps shares choices values latest askedIs above below place partedBy) := by
  unfold M_X7_goOdds_b83 at h
  refine x_lstore [(9, .long s0), (0, .ref (a 0)), (1, .int x1), (2, .int x2), (3, .int x3), (4, .long x4), (6, .long x6), (8, .int x8)] dX7_goOdds_83 (by decide) rfl ?_
  refine x_iconst 0 dX7_goOdds_85 (by decide) ?_
  refine x_istore [(11, .int (0 : Int32)), (9, .long s0), (0, .ref (a 0)), (1, .int x1), (2, .int x2), (3, .int x3), (4, .long x4), (6, .long x6), (8, .int x8)] dX7_goOdds_86 (by decide) rfl ?_
  refine x_lv [2, 3, 4, 5, 6, 7, 8, 1, 0] rfl ?_
  exact w_X7_goOdds_b88 hk56 _ _ _ _ _ _ _ _ _ _ _ h
def M_X7_goOdds_b56 (now : (Nat → Int32)) : Nat → Int64 → Int64 → Int32 → Int32 → Int32 → Int64 → Int64 → Int32 → Option (Int64 × Int64)
  | 0, _, _, _, _, _, _, _, _ => none
  | n + 1, above, below, x1, x2, x3, x4, x6, x8 =>
    if ((1 : Int32) <<< ((now 0) &&& (31 : Int32))) ≤ x8 then
    ((M_X7_fraction above below x4 x6).bind fun r5 =>
    some (r5.1, r5.2))
    else
    (if (x8 &&& (x3 ^^^ (-1 : Int32))) = 0 then
    (M_X7_goOdds_b83 now (fun (above' : Int64) (below' : Int64) (x1' : Int32) (x2' : Int32) (x3' : Int32) (x4' : Int64) (x6' : Int64) (x8' : Int32) => M_X7_goOdds_b56 now n above' below' x1' x2' x3' x4' x6' x8') above below x1 x2 x3 x4 x6 x8 (1 : Int64))
    else
    (M_X7_goOdds_b83 now (fun (above' : Int64) (below' : Int64) (x1' : Int32) (x2' : Int32) (x3' : Int32) (x4' : Int64) (x6' : Int64) (x8' : Int32) => M_X7_goOdds_b56 now n above' below' x1' x2' x3' x4' x6' x8') above below x1 x2 x3 x4 x6 x8 (0 : Int64)))
set_option maxHeartbeats 4000000 in
set_option maxRecDepth 100000 in
theorem w_X7_goOdds_b56 {G : x_G} {l : Launch} {a : Nat → Nat} {now : (Nat → Int32)} {kept : (Nat → Int32)} {isKept : (Nat → Int32)} {rows : (Nat → Int32)} {rowLong : (Nat → Int32)} {texts : (Nat → Int32)} {textLong : (Nat → Int32)} {found : (Nat → Int32)} {taken : (Nat → Int32)} {anew : (Nat → Int32)} {hand : (Nat → Int32)} {steps : (Nat → Int32)} {shares : (Nat → Int32)} {choices : (Nat → Int32)} {values : (Nat → Int32)} {latest : Int32} {askedIs : Int32} {place : Int32} {partedBy : Int32} {res : Int64 × Int64} : ∀ (n : Nat) (above : Int64) (below : Int64) (x1 : Int32) (x2 : Int32) (x3 : Int32) (x4 : Int64) (x6 : Int64) (x8 : Int32), M_X7_goOdds_b56 now n above below x1 x2 x3 x4 x6 x8 = some res → X G l RX7 cX7_goOdds 12 (x_R 2 0 0) (x_Cm G none false (x_is none (WModel G a now kept isKept rows rowLong texts textLong found taken anew hand steps shares choices values latest askedIs res.1 res.2 place partedBy)) 0 0) 0 0 56 [(0, .ref (a 0)), (1, .int x1), (2, .int x2), (3, .int x3), (4, .long x4), (6, .long x6), (8, .int x8)] [] (WModel G a now kept isKept rows rowLong texts textLong found taken anew hand steps shares choices values latest askedIs above below place partedBy) := by
  intro n
  induction n with
  | zero =>
    intro _ _ _ _ _ _ _ _ h
    cases h
  | succ n ih =>
    intro above below x1 x2 x3 x4 x6 x8 h
    rw [M_X7_goOdds_b56] at h
    refine x_iload dX7_goOdds_56 6 rfl ?_
    refine x_iconst 1 dX7_goOdds_58 (by decide) ?_
    refine x_aload_n dX7_goOdds_59 0 rfl rfl ?_
    refine x_get (ci := 5) 0 0 dX7_goOdds_60 fl_X7_7 inX7 rfl (by decide) ⟨rfl, rfl, rfl⟩ rfl rfl ?_
    refine x_iconst 0 dX7_goOdds_63 (by decide) ?_
    refine x_iald 0 (q0 := 1) dX7_goOdds_64 (by decide) rfl (by decide) ?_
    refine x_ishl dX7_goOdds_65 ?_
    refine x_icmp_ge 182 dX7_goOdds_66 (by decide) (fun c4 => ?_) (fun c4 => ?_)
    · have h := x_pos c4 h
      refine x_aload_n dX7_goOdds_182 0 rfl rfl ?_
      refine x_lload dX7_goOdds_183 4 rfl ?_
      refine x_lload dX7_goOdds_185 5 rfl ?_
      obtain ⟨r5, e6, h⟩ := x_bind h
      refine x_cV (As := [.long x4, .long x6]) (wc := (WModel G a now kept isKept rows rowLong texts textLong found taken anew hand steps shares choices values latest askedIs above below place partedBy)) (w1 := (WModel G a now kept isKept rows rowLong texts textLong found taken anew hand steps shares choices values latest askedIs r5.1 r5.2 place partedBy)) (pre := []) (post := []) (rest := []) (st1 := []) (ws1 := (WModel G a now kept isKept rows rowLong texts textLong found taken anew hand steps shares choices values latest askedIs r5.1 r5.2 place partedBy)) (ci := 5) 0 dX7_goOdds_187 (c_X7_fraction (a := a) e6) pk_X7_fraction ml_X7_235 (x_full _) rfl rfl rfl rfl rfl rfl rfl rfl (x_full _).symm ?_
      cases h
      exact x_return dX7_goOdds_190 (x_is.rf _ _)
    · have h := x_neg c4 h
      refine x_iload dX7_goOdds_69 6 rfl ?_
      refine x_iload_n dX7_goOdds_71 3 rfl rfl ?_
      refine x_iconst (-1 : Int32) dX7_goOdds_72 (by decide) ?_
      refine x_ixor dX7_goOdds_73 ?_
      refine x_iand dX7_goOdds_74 ?_
      refine x_if_ne 82 dX7_goOdds_75 (by decide) (fun c7 => ?_) (fun c7 => ?_)
      · have h := x_neg c7 h
        refine x_lconst 0 dX7_goOdds_82 (by decide) ?_
        exact w_X7_goOdds_b83 (fun above' below' x1' x2' x3' x4' x6' x8' h => ih above' below' x1' x2' x3' x4' x6' x8' h) _ _ _ _ _ _ _ _ _ h
      · have h := x_pos c7 h
        refine x_lconst 1 dX7_goOdds_78 (by decide) ?_
        refine x_goto 83 dX7_goOdds_79 (by decide) ?_
        exact w_X7_goOdds_b83 (fun above' below' x1' x2' x3' x4' x6' x8' h => ih above' below' x1' x2' x3' x4' x6' x8' h) _ _ _ _ _ _ _ _ _ h
def M_X7_goOdds_b30 (now : (Nat → Int32)) : Nat → Int64 → Int64 → Int32 → Int32 → Int32 → Int64 → Int64 → Int32 → Option (Int64 × Int64)
  | 0, _, _, _, _, _, _, _, _ => none
  | n + 1, above, below, x1, x2, x3, x4, x6, x8 =>
    (M_X7_bits x3).bind fun r1 =>
    if r1 ≤ x8 then
    (M_X7_goOdds_b56 now x_fuel above below x1 x2 x3 x4 x6 (0 : Int32))
    else
    (M_X7_goOdds_b30 now n above below x1 x2 x3 x4 (x6 * (12 : Int64)) (x8 + (1 : Int32)))
set_option maxHeartbeats 4000000 in
set_option maxRecDepth 100000 in
theorem w_X7_goOdds_b30 {G : x_G} {l : Launch} {a : Nat → Nat} {now : (Nat → Int32)} {kept : (Nat → Int32)} {isKept : (Nat → Int32)} {rows : (Nat → Int32)} {rowLong : (Nat → Int32)} {texts : (Nat → Int32)} {textLong : (Nat → Int32)} {found : (Nat → Int32)} {taken : (Nat → Int32)} {anew : (Nat → Int32)} {hand : (Nat → Int32)} {steps : (Nat → Int32)} {shares : (Nat → Int32)} {choices : (Nat → Int32)} {values : (Nat → Int32)} {latest : Int32} {askedIs : Int32} {place : Int32} {partedBy : Int32} {res : Int64 × Int64} : ∀ (n : Nat) (above : Int64) (below : Int64) (x1 : Int32) (x2 : Int32) (x3 : Int32) (x4 : Int64) (x6 : Int64) (x8 : Int32), M_X7_goOdds_b30 now n above below x1 x2 x3 x4 x6 x8 = some res → X G l RX7 cX7_goOdds 12 (x_R 2 0 0) (x_Cm G none false (x_is none (WModel G a now kept isKept rows rowLong texts textLong found taken anew hand steps shares choices values latest askedIs res.1 res.2 place partedBy)) 0 0) 0 0 30 [(0, .ref (a 0)), (1, .int x1), (2, .int x2), (3, .int x3), (4, .long x4), (6, .long x6), (8, .int x8)] [] (WModel G a now kept isKept rows rowLong texts textLong found taken anew hand steps shares choices values latest askedIs above below place partedBy) := by
  intro n
  induction n with
  | zero =>
    intro _ _ _ _ _ _ _ _ h
    cases h
  | succ n ih =>
    intro above below x1 x2 x3 x4 x6 x8 h
    rw [M_X7_goOdds_b30] at h
    refine x_iload dX7_goOdds_30 6 rfl ?_
    refine x_iload_n dX7_goOdds_32 3 rfl rfl ?_
    obtain ⟨r1, e2, h⟩ := x_bind h
    refine x_cS (As := [.int x3]) (wc := ([] : va_W)) (w1 := ([] : va_W)) (pre := []) (post := (WModel G a now kept isKept rows rowLong texts textLong found taken anew hand steps shares choices values latest askedIs above below place partedBy)) (rest := [.int x8]) (st1 := [.int r1, .int x8]) (ws1 := (WModel G a now kept isKept rows rowLong texts textLong found taken anew hand steps shares choices values latest askedIs above below place partedBy)) dX7_goOdds_33 (c_X7_bits e2) pk_X7_bits ml_X7_171 rfl rfl rfl rfl rfl rfl rfl ?_
    refine x_icmp_ge 53 dX7_goOdds_36 (by decide) (fun c3 => ?_) (fun c3 => ?_)
    · have h := x_pos c3 h
      refine x_iconst 0 dX7_goOdds_53 (by decide) ?_
      refine x_istore [(8, .int (0 : Int32)), (0, .ref (a 0)), (1, .int x1), (2, .int x2), (3, .int x3), (4, .long x4), (6, .long x6)] dX7_goOdds_54 (by decide) rfl ?_
      refine x_lv [1, 2, 3, 4, 5, 6, 0] rfl ?_
      exact w_X7_goOdds_b56  _ _ _ _ _ _ _ _ _ h
    · have h := x_neg c3 h
      refine x_lload dX7_goOdds_39 5 rfl ?_
      refine x_ldc2 dX7_goOdds_41 kl_X7_233 ?_
      refine x_lmul dX7_goOdds_44 ?_
      refine x_lstore [(6, .long (x6 * (12 : Int64))), (0, .ref (a 0)), (1, .int x1), (2, .int x2), (3, .int x3), (4, .long x4), (8, .int x8)] dX7_goOdds_45 (by decide) rfl ?_
      refine x_iinc (j := 6) (1 : Int32) [(8, .int (x8 + (1 : Int32))), (6, .long (x6 * (12 : Int64))), (0, .ref (a 0)), (1, .int x1), (2, .int x2), (3, .int x3), (4, .long x4)] dX7_goOdds_47 (by decide) rfl (by decide) rfl ?_
      refine x_goto 30 dX7_goOdds_50 (by decide) ?_
      refine x_lv [2, 3, 4, 5, 6, 1, 0] rfl ?_
      exact ih _ _ _ _ _ _ _ _ h
def M_X7_goOdds_b21 (now : (Nat → Int32)) (above : Int64) (below : Int64) (x1 : Int32) (x2 : Int32) (x3 : Int32) : Option (Int64 × Int64) :=
  M_X7_goOdds_b30 now x_fuel above below x1 x2 x3 (0 : Int64) (1 : Int64) (0 : Int32)
set_option maxHeartbeats 4000000 in
set_option maxRecDepth 100000 in
theorem w_X7_goOdds_b21 {G : x_G} {l : Launch} {a : Nat → Nat} {now : (Nat → Int32)} {kept : (Nat → Int32)} {isKept : (Nat → Int32)} {rows : (Nat → Int32)} {rowLong : (Nat → Int32)} {texts : (Nat → Int32)} {textLong : (Nat → Int32)} {found : (Nat → Int32)} {taken : (Nat → Int32)} {anew : (Nat → Int32)} {hand : (Nat → Int32)} {steps : (Nat → Int32)} {shares : (Nat → Int32)} {choices : (Nat → Int32)} {values : (Nat → Int32)} {latest : Int32} {askedIs : Int32} {place : Int32} {partedBy : Int32} {res : Int64 × Int64} (above : Int64) (below : Int64) (x1 : Int32) (x2 : Int32) (x3 : Int32) (h : M_X7_goOdds_b21 now above below x1 x2 x3 = some res) : X G l RX7 cX7_goOdds 12 (x_R 2 0 0) (x_Cm G none false (x_is none (WModel G a now kept isKept rows rowLong texts textLong found taken anew hand steps shares choices values latest askedIs res.1 res.2 place partedBy)) 0 0) 0 0 21 [(0, .ref (a 0)), (1, .int x1), (2, .int x2), (3, .int x3)] [] (WModel G a now kept isKept rows rowLong texts textLong found taken anew hand steps shares choices values latest askedIs above below place partedBy) := by
  unfold M_X7_goOdds_b21 at h
  refine x_lconst 0 dX7_goOdds_21 (by decide) ?_
  refine x_lstore [(4, .long (0 : Int64)), (0, .ref (a 0)), (1, .int x1), (2, .int x2), (3, .int x3)] dX7_goOdds_22 (by decide) rfl ?_
  refine x_lconst 1 dX7_goOdds_24 (by decide) ?_
  refine x_lstore [(6, .long (1 : Int64)), (4, .long (0 : Int64)), (0, .ref (a 0)), (1, .int x1), (2, .int x2), (3, .int x3)] dX7_goOdds_25 (by decide) rfl ?_
  refine x_iconst 0 dX7_goOdds_27 (by decide) ?_
  refine x_istore [(8, .int (0 : Int32)), (6, .long (1 : Int64)), (4, .long (0 : Int64)), (0, .ref (a 0)), (1, .int x1), (2, .int x2), (3, .int x3)] dX7_goOdds_28 (by decide) rfl ?_
  refine x_lv [3, 4, 5, 6, 2, 1, 0] rfl ?_
  exact w_X7_goOdds_b30  _ _ _ _ _ _ _ _ _ h
def M_X7_goOdds (now : (Nat → Int32)) (above : Int64) (below : Int64) (x1 : Int32) (x2 : Int32) : Option (Int64 × Int64) :=
  M_X7_goOdds_b21 now above below x1 x2 ((((1 : Int32) <<< ((now 0) &&& (31 : Int32))) - (1 : Int32)) &&& ((now 83) ^^^ (-1 : Int32)))
set_option maxHeartbeats 4000000 in
set_option maxRecDepth 100000 in
theorem c_X7_goOdds {G : x_G} {l : Launch} {a : Nat → Nat} {now : (Nat → Int32)} {kept : (Nat → Int32)} {isKept : (Nat → Int32)} {rows : (Nat → Int32)} {rowLong : (Nat → Int32)} {texts : (Nat → Int32)} {textLong : (Nat → Int32)} {found : (Nat → Int32)} {taken : (Nat → Int32)} {anew : (Nat → Int32)} {hand : (Nat → Int32)} {steps : (Nat → Int32)} {shares : (Nat → Int32)} {choices : (Nat → Int32)} {values : (Nat → Int32)} {latest : Int32} {askedIs : Int32} {place : Int32} {partedBy : Int32} {above : Int64} {below : Int64} {x1 : Int32} {x2 : Int32} {res : Int64 × Int64} (h : M_X7_goOdds now above below x1 x2 = some res) : x_M G l yX7_goOdds cX7_goOdds 12 none (2) 0 0 [.ref (a 0), .int x1, .int x2] (WModel G a now kept isKept rows rowLong texts textLong found taken anew hand steps shares choices values latest askedIs above below place partedBy) (x_is none (WModel G a now kept isKept rows rowLong texts textLong found taken anew hand steps shares choices values latest askedIs res.1 res.2 place partedBy)) := by
  unfold M_X7_goOdds at h
  refine x_enter (ini := false) (by decide) rfl (by decide) rfl (Nat.le_of_ble_eq_true rfl) ?_
  refine x_iconst 1 dX7_goOdds_0 (by decide) ?_
  refine x_aload_n dX7_goOdds_1 0 rfl rfl ?_
  refine x_get (ci := 5) 0 0 dX7_goOdds_2 fl_X7_7 inX7 rfl (by decide) ⟨rfl, rfl, rfl⟩ rfl rfl ?_
  refine x_iconst 0 dX7_goOdds_5 (by decide) ?_
  refine x_iald 0 (q0 := 1) dX7_goOdds_6 (by decide) rfl (by decide) ?_
  refine x_ishl dX7_goOdds_7 ?_
  refine x_iconst 1 dX7_goOdds_8 (by decide) ?_
  refine x_isub dX7_goOdds_9 ?_
  refine x_aload_n dX7_goOdds_10 0 rfl rfl ?_
  refine x_get (ci := 5) 0 0 dX7_goOdds_11 fl_X7_7 inX7 rfl (by decide) ⟨rfl, rfl, rfl⟩ rfl rfl ?_
  refine x_bipush 83 dX7_goOdds_14 (by decide) ?_
  refine x_iald 83 (q0 := 1) dX7_goOdds_16 (by decide) rfl (by decide) ?_
  refine x_iconst (-1 : Int32) dX7_goOdds_17 (by decide) ?_
  refine x_ixor dX7_goOdds_18 ?_
  refine x_iand dX7_goOdds_19 ?_
  refine x_istore_n [(3, .int ((((1 : Int32) <<< ((now 0) &&& (31 : Int32))) - (1 : Int32)) &&& ((now 83) ^^^ (-1 : Int32)))), (0, .ref (a 0)), (1, .int x1), (2, .int x2)] dX7_goOdds_20 rfl (by decide) rfl ?_
  refine x_lv [1, 2, 3, 0] rfl ?_
  exact w_X7_goOdds_b21  _ _ _ _ _ h
theorem pk_X7_odds : x_pv RX7 yX7_odds cX7_odds 3 (some .int) 2 := ⟨⟨co_X7_odds, ni_X7, by decide, by decide +kernel⟩, im_X7_odds, se_X7_odds⟩
def M_X7_odds (now : (Nat → Int32)) (above : Int64) (below : Int64) (x1 : Int32) (x2 : Int32) : Option (Int32 × Int64 × Int64) :=
  if (M_X7_in x1.toInt64 (0 : Int64) (((now 1) - (1 : Int32)).toInt64)) = 0 then
  (some ((-1 : Int32), above, below))
  else
  (if (M_X7_in x2.toInt64 (0 : Int64) (12 : Int64)) = 0 then
  (some ((-1 : Int32), above, below))
  else
  ((M_X7_goOdds now above below ((1 : Int32) <<< (x1 &&& (31 : Int32))) x2).bind fun r3 =>
  some ((1 : Int32), r3.1, r3.2)))
set_option maxHeartbeats 4000000 in
set_option maxRecDepth 100000 in
theorem c_X7_odds {G : x_G} {l : Launch} {a : Nat → Nat} {now : (Nat → Int32)} {kept : (Nat → Int32)} {isKept : (Nat → Int32)} {rows : (Nat → Int32)} {rowLong : (Nat → Int32)} {texts : (Nat → Int32)} {textLong : (Nat → Int32)} {found : (Nat → Int32)} {taken : (Nat → Int32)} {anew : (Nat → Int32)} {hand : (Nat → Int32)} {steps : (Nat → Int32)} {shares : (Nat → Int32)} {choices : (Nat → Int32)} {values : (Nat → Int32)} {latest : Int32} {askedIs : Int32} {place : Int32} {partedBy : Int32} {above : Int64} {below : Int64} {x1 : Int32} {x2 : Int32} {res : Int32 × Int64 × Int64} (h : M_X7_odds now above below x1 x2 = some res) : x_M G l yX7_odds cX7_odds 3 (some .int) (3) 0 0 [.ref (a 0), .int x1, .int x2] (WModel G a now kept isKept rows rowLong texts textLong found taken anew hand steps shares choices values latest askedIs above below place partedBy) (x_is (some (.int res.1)) (WModel G a now kept isKept rows rowLong texts textLong found taken anew hand steps shares choices values latest askedIs res.2.1 res.2.2 place partedBy)) := by
  unfold M_X7_odds at h
  refine x_enter (ini := false) (by decide) rfl (by decide) rfl (Nat.le_of_ble_eq_true rfl) ?_
  refine x_iload_n dX7_odds_0 1 rfl rfl ?_
  refine x_i2l dX7_odds_1 ?_
  refine x_lconst 0 dX7_odds_2 (by decide) ?_
  refine x_aload_n dX7_odds_3 0 rfl rfl ?_
  refine x_get (ci := 5) 0 0 dX7_odds_4 fl_X7_7 inX7 rfl (by decide) ⟨rfl, rfl, rfl⟩ rfl rfl ?_
  refine x_iconst 1 dX7_odds_7 (by decide) ?_
  refine x_iald 1 (q0 := 1) dX7_odds_8 (by decide) rfl (by decide) ?_
  refine x_iconst 1 dX7_odds_9 (by decide) ?_
  refine x_isub dX7_odds_10 ?_
  refine x_i2l dX7_odds_11 ?_
  refine x_cS (As := [.long x1.toInt64, .long (0 : Int64), .long (((now 1) - (1 : Int32)).toInt64)]) (wc := ([] : va_W)) (w1 := ([] : va_W)) (pre := []) (post := (WModel G a now kept isKept rows rowLong texts textLong found taken anew hand steps shares choices values latest askedIs above below place partedBy)) (rest := []) (st1 := [.int (M_X7_in x1.toInt64 (0 : Int64) (((now 1) - (1 : Int32)).toInt64))]) (ws1 := (WModel G a now kept isKept rows rowLong texts textLong found taken anew hand steps shares choices values latest askedIs above below place partedBy)) dX7_odds_12 (c_X7_in rfl) pk_X7_in ml_X7_69 rfl rfl rfl rfl rfl rfl rfl ?_
  refine x_if_eq 30 dX7_odds_15 (by decide) (fun c1 => ?_) (fun c1 => ?_)
  · have h := x_pos c1 h
    refine x_iconst (-1 : Int32) dX7_odds_30 (by decide) ?_
    cases h
    exact x_ireturn dX7_odds_31 rfl (x_is.rf _ _)
  · have h := x_neg c1 h
    refine x_iload_n dX7_odds_18 2 rfl rfl ?_
    refine x_i2l dX7_odds_19 ?_
    refine x_lconst 0 dX7_odds_20 (by decide) ?_
    refine x_ldc2 dX7_odds_21 kl_X7_233 ?_
    refine x_cS (As := [.long x2.toInt64, .long (0 : Int64), .long (12 : Int64)]) (wc := ([] : va_W)) (w1 := ([] : va_W)) (pre := []) (post := (WModel G a now kept isKept rows rowLong texts textLong found taken anew hand steps shares choices values latest askedIs above below place partedBy)) (rest := []) (st1 := [.int (M_X7_in x2.toInt64 (0 : Int64) (12 : Int64))]) (ws1 := (WModel G a now kept isKept rows rowLong texts textLong found taken anew hand steps shares choices values latest askedIs above below place partedBy)) dX7_odds_24 (c_X7_in rfl) pk_X7_in ml_X7_69 rfl rfl rfl rfl rfl rfl rfl ?_
    refine x_if_ne 32 dX7_odds_27 (by decide) (fun c2 => ?_) (fun c2 => ?_)
    · have h := x_neg c2 h
      refine x_aload_n dX7_odds_32 0 rfl rfl ?_
      refine x_iconst 1 dX7_odds_33 (by decide) ?_
      refine x_iload_n dX7_odds_34 1 rfl rfl ?_
      refine x_ishl dX7_odds_35 ?_
      refine x_iload_n dX7_odds_36 2 rfl rfl ?_
      obtain ⟨r3, e4, h⟩ := x_bind h
      refine x_cV (As := [.int ((1 : Int32) <<< (x1 &&& (31 : Int32))), .int x2]) (wc := (WModel G a now kept isKept rows rowLong texts textLong found taken anew hand steps shares choices values latest askedIs above below place partedBy)) (w1 := (WModel G a now kept isKept rows rowLong texts textLong found taken anew hand steps shares choices values latest askedIs r3.1 r3.2 place partedBy)) (pre := []) (post := []) (rest := []) (st1 := []) (ws1 := (WModel G a now kept isKept rows rowLong texts textLong found taken anew hand steps shares choices values latest askedIs r3.1 r3.2 place partedBy)) (ci := 5) 0 dX7_odds_37 (c_X7_goOdds (a := a) e4) pk_X7_goOdds ml_X7_239 (x_full _) rfl rfl rfl rfl rfl rfl rfl rfl (x_full _).symm ?_
      refine x_iconst 1 dX7_odds_40 (by decide) ?_
      cases h
      exact x_ireturn dX7_odds_41 rfl (x_is.rf _ _)
    · have h := x_pos c2 h
      refine x_iconst (-1 : Int32) dX7_odds_30 (by decide) ?_
      cases h
      exact x_ireturn dX7_odds_31 rfl (x_is.rf _ _)
theorem pk_X7_mid : x_pv RX7 yX7_mid cX7_mid 2 (some .int) 1 := ⟨⟨co_X7_mid, ni_X7, by decide, by decide +kernel⟩, im_X7_mid, se_X7_mid⟩
def M_X7_mid (now : (Nat → Int32)) (above : Int64) (below : Int64) (x1 : Int32) : Option (Int32 × Int64 × Int64) :=
  if (M_X7_in x1.toInt64 (0 : Int64) (12 : Int64)) = 0 then
  (some ((-1 : Int32), above, below))
  else
  (if (now 0) = 0 then
  (some ((-4 : Int32), above, below))
  else
  ((M_X7_goOdds now above below (15 : Int32) x1).bind fun r3 =>
  some ((1 : Int32), r3.1, r3.2)))
set_option maxHeartbeats 4000000 in
set_option maxRecDepth 100000 in
theorem c_X7_mid {G : x_G} {l : Launch} {a : Nat → Nat} {now : (Nat → Int32)} {kept : (Nat → Int32)} {isKept : (Nat → Int32)} {rows : (Nat → Int32)} {rowLong : (Nat → Int32)} {texts : (Nat → Int32)} {textLong : (Nat → Int32)} {found : (Nat → Int32)} {taken : (Nat → Int32)} {anew : (Nat → Int32)} {hand : (Nat → Int32)} {steps : (Nat → Int32)} {shares : (Nat → Int32)} {choices : (Nat → Int32)} {values : (Nat → Int32)} {latest : Int32} {askedIs : Int32} {place : Int32} {partedBy : Int32} {above : Int64} {below : Int64} {x1 : Int32} {res : Int32 × Int64 × Int64} (h : M_X7_mid now above below x1 = some res) : x_M G l yX7_mid cX7_mid 2 (some .int) (3) 0 0 [.ref (a 0), .int x1] (WModel G a now kept isKept rows rowLong texts textLong found taken anew hand steps shares choices values latest askedIs above below place partedBy) (x_is (some (.int res.1)) (WModel G a now kept isKept rows rowLong texts textLong found taken anew hand steps shares choices values latest askedIs res.2.1 res.2.2 place partedBy)) := by
  unfold M_X7_mid at h
  refine x_enter (ini := false) (by decide) rfl (by decide) rfl (Nat.le_of_ble_eq_true rfl) ?_
  refine x_iload_n dX7_mid_0 1 rfl rfl ?_
  refine x_i2l dX7_mid_1 ?_
  refine x_lconst 0 dX7_mid_2 (by decide) ?_
  refine x_ldc2 dX7_mid_3 kl_X7_233 ?_
  refine x_cS (As := [.long x1.toInt64, .long (0 : Int64), .long (12 : Int64)]) (wc := ([] : va_W)) (w1 := ([] : va_W)) (pre := []) (post := (WModel G a now kept isKept rows rowLong texts textLong found taken anew hand steps shares choices values latest askedIs above below place partedBy)) (rest := []) (st1 := [.int (M_X7_in x1.toInt64 (0 : Int64) (12 : Int64))]) (ws1 := (WModel G a now kept isKept rows rowLong texts textLong found taken anew hand steps shares choices values latest askedIs above below place partedBy)) dX7_mid_6 (c_X7_in rfl) pk_X7_in ml_X7_69 rfl rfl rfl rfl rfl rfl rfl ?_
  refine x_if_ne 14 dX7_mid_9 (by decide) (fun c1 => ?_) (fun c1 => ?_)
  · have h := x_neg c1 h
    refine x_aload_n dX7_mid_14 0 rfl rfl ?_
    refine x_get (ci := 5) 0 0 dX7_mid_15 fl_X7_7 inX7 rfl (by decide) ⟨rfl, rfl, rfl⟩ rfl rfl ?_
    refine x_iconst 0 dX7_mid_18 (by decide) ?_
    refine x_iald 0 (q0 := 1) dX7_mid_19 (by decide) rfl (by decide) ?_
    refine x_if_ne 26 dX7_mid_20 (by decide) (fun c2 => ?_) (fun c2 => ?_)
    · have h := x_neg c2 h
      refine x_aload_n dX7_mid_26 0 rfl rfl ?_
      refine x_bipush 15 dX7_mid_27 (by decide) ?_
      refine x_iload_n dX7_mid_29 1 rfl rfl ?_
      obtain ⟨r3, e4, h⟩ := x_bind h
      refine x_cV (As := [.int (15 : Int32), .int x1]) (wc := (WModel G a now kept isKept rows rowLong texts textLong found taken anew hand steps shares choices values latest askedIs above below place partedBy)) (w1 := (WModel G a now kept isKept rows rowLong texts textLong found taken anew hand steps shares choices values latest askedIs r3.1 r3.2 place partedBy)) (pre := []) (post := []) (rest := []) (st1 := []) (ws1 := (WModel G a now kept isKept rows rowLong texts textLong found taken anew hand steps shares choices values latest askedIs r3.1 r3.2 place partedBy)) (ci := 5) 0 dX7_mid_30 (c_X7_goOdds (a := a) e4) pk_X7_goOdds ml_X7_239 (x_full _) rfl rfl rfl rfl rfl rfl rfl rfl (x_full _).symm ?_
      refine x_iconst 1 dX7_mid_33 (by decide) ?_
      cases h
      exact x_ireturn dX7_mid_34 rfl (x_is.rf _ _)
    · have h := x_pos c2 h
      refine x_bipush (-4 : Int32) dX7_mid_23 (by decide) ?_
      cases h
      exact x_ireturn dX7_mid_25 rfl (x_is.rf _ _)
  · have h := x_pos c1 h
    refine x_iconst (-1 : Int32) dX7_mid_12 (by decide) ?_
    cases h
    exact x_ireturn dX7_mid_13 rfl (x_is.rf _ _)
theorem pk_X7_deedBy : x_pv RX7 yX7_deedBy cX7_deedBy 5 (some .int) 1 := ⟨⟨co_X7_deedBy, ni_X7, by decide, by decide +kernel⟩, im_X7_deedBy, se_X7_deedBy⟩
def M_X7_deedBy (now : (Nat → Int32)) (x1 : Int64) : Option (Int32) :=
  if ¬ (now 0).toInt64 = 0 then
  if (5 : Int32) ≤ ((x1 / (8 : Int64)) - (x1 / (8 : Int64)) / (8 : Int64) * (8 : Int64)).toInt32 then
  (if ((x1 / (8 : Int64)) - (x1 / (8 : Int64)) / (8 : Int64) * (8 : Int64)).toInt32 = (5 : Int32) then
  (if (M_X7_has (now 83) ((x1 - x1 / (now 0).toInt64 * (now 0).toInt64).toInt32)) = 0 then
  (if (M_X7_has (now 82) ((x1 - x1 / (now 0).toInt64 * (now 0).toInt64).toInt32)) = 0 then
  (some ((200 : Int32) + (x1 - x1 / (now 0).toInt64 * (now 0).toInt64).toInt32))
  else
  (some ((300 : Int32) + (x1 - x1 / (now 0).toInt64 * (now 0).toInt64).toInt32)))
  else
  (some (0 : Int32)))
  else
  (if ((x1 / (8 : Int64)) - (x1 / (8 : Int64)) / (8 : Int64) * (8 : Int64)).toInt32 = (7 : Int32) then
  (some ((601 : Int32) - (now 84)))
  else
  (if (M_X7_has (now 83) ((x1 - x1 / (now 0).toInt64 * (now 0).toInt64).toInt32)) = 0 then
  (some (0 : Int32))
  else
  (some ((500 : Int32) + (x1 - x1 / (now 0).toInt64 * (now 0).toInt64).toInt32)))))
  else
  (if (M_X7_isFast_85 now ((x1 - x1 / (now 0).toInt64 * (now 0).toInt64).toInt32)) = 0 then
  (some (0 : Int32))
  else
  (some (((100 : Int32) + ((10 : Int32) * ((1 : Int32) + ((x1 / (64 : Int64)) - (x1 / (64 : Int64)) / (4 : Int64) * (4 : Int64)).toInt32))) + (x1 - x1 / (now 0).toInt64 * (now 0).toInt64).toInt32)))
  else none
set_option maxHeartbeats 4000000 in
set_option maxRecDepth 100000 in
theorem c_X7_deedBy {G : x_G} {l : Launch} {a : Nat → Nat} {now : (Nat → Int32)} {kept : (Nat → Int32)} {isKept : (Nat → Int32)} {rows : (Nat → Int32)} {rowLong : (Nat → Int32)} {texts : (Nat → Int32)} {textLong : (Nat → Int32)} {found : (Nat → Int32)} {taken : (Nat → Int32)} {anew : (Nat → Int32)} {hand : (Nat → Int32)} {steps : (Nat → Int32)} {shares : (Nat → Int32)} {choices : (Nat → Int32)} {values : (Nat → Int32)} {latest : Int32} {askedIs : Int32} {above : Int64} {below : Int64} {place : Int32} {partedBy : Int32} {x1 : Int64} {res : Int32} (h : M_X7_deedBy now x1 = some res) : x_M G l yX7_deedBy cX7_deedBy 5 (some .int) (2) 0 0 [.ref (a 0), .long x1] (WModel G a now kept isKept rows rowLong texts textLong found taken anew hand steps shares choices values latest askedIs above below place partedBy) (x_is (some (.int res)) (WModel G a now kept isKept rows rowLong texts textLong found taken anew hand steps shares choices values latest askedIs above below place partedBy)) := by
  unfold M_X7_deedBy at h
  refine x_enter (ini := false) (by decide) rfl (by decide) rfl (Nat.le_of_ble_eq_true rfl) ?_
  refine x_lload_n dX7_deedBy_0 1 rfl rfl ?_
  refine x_aload_n dX7_deedBy_1 0 rfl rfl ?_
  refine x_get (ci := 5) 0 0 dX7_deedBy_2 fl_X7_7 inX7 rfl (by decide) ⟨rfl, rfl, rfl⟩ rfl rfl ?_
  refine x_iconst 0 dX7_deedBy_5 (by decide) ?_
  refine x_iald 0 (q0 := 1) dX7_deedBy_6 (by decide) rfl (by decide) ?_
  refine x_i2l dX7_deedBy_7 ?_
  obtain ⟨b1, h⟩ := x_guard h
  refine x_lrem dX7_deedBy_8 b1 ?_
  refine x_l2i dX7_deedBy_9 ?_
  refine x_istore_n [(3, .int ((x1 - x1 / (now 0).toInt64 * (now 0).toInt64).toInt32)), (0, .ref (a 0)), (1, .long x1)] dX7_deedBy_10 rfl (by decide) rfl ?_
  refine x_lload_n dX7_deedBy_11 2 rfl rfl ?_
  refine x_ldc2 dX7_deedBy_12 kl_X7_242 ?_
  refine x_ldiv dX7_deedBy_15 (by decide) ?_
  refine x_ldc2 dX7_deedBy_16 kl_X7_242 ?_
  refine x_lrem dX7_deedBy_19 (by decide) ?_
  refine x_l2i dX7_deedBy_20 ?_
  refine x_istore [(4, .int (((x1 / (8 : Int64)) - (x1 / (8 : Int64)) / (8 : Int64) * (8 : Int64)).toInt32)), (3, .int ((x1 - x1 / (now 0).toInt64 * (now 0).toInt64).toInt32)), (0, .ref (a 0)), (1, .long x1)] dX7_deedBy_21 (by decide) rfl ?_
  refine x_iload dX7_deedBy_23 0 rfl ?_
  refine x_iconst 5 dX7_deedBy_25 (by decide) ?_
  refine x_icmp_ge 65 dX7_deedBy_26 (by decide) (fun c2 => ?_) (fun c2 => ?_)
  · have h := x_pos c2 h
    refine x_iload dX7_deedBy_65 0 rfl ?_
    refine x_iconst 5 dX7_deedBy_67 (by decide) ?_
    refine x_icmp_ne 115 dX7_deedBy_68 (by decide) (fun c3 => ?_) (fun c3 => ?_)
    · have h := x_neg c3 h
      refine x_iload dX7_deedBy_115 0 rfl ?_
      refine x_bipush 7 dX7_deedBy_117 (by decide) ?_
      refine x_icmp_ne 136 dX7_deedBy_119 (by decide) (fun c4 => ?_) (fun c4 => ?_)
      · have h := x_neg c4 h
        refine x_aload_n dX7_deedBy_136 2 rfl rfl ?_
        refine x_get (ci := 5) 0 0 dX7_deedBy_137 fl_X7_7 inX7 rfl (by decide) ⟨rfl, rfl, rfl⟩ rfl rfl ?_
        refine x_bipush 83 dX7_deedBy_140 (by decide) ?_
        refine x_iald 83 (q0 := 1) dX7_deedBy_142 (by decide) rfl (by decide) ?_
        refine x_iload_n dX7_deedBy_143 1 rfl rfl ?_
        refine x_cS (As := [.int (now 83), .int ((x1 - x1 / (now 0).toInt64 * (now 0).toInt64).toInt32)]) (wc := ([] : va_W)) (w1 := ([] : va_W)) (pre := []) (post := (WModel G a now kept isKept rows rowLong texts textLong found taken anew hand steps shares choices values latest askedIs above below place partedBy)) (rest := []) (st1 := [.int (M_X7_has (now 83) ((x1 - x1 / (now 0).toInt64 * (now 0).toInt64).toInt32))]) (ws1 := (WModel G a now kept isKept rows rowLong texts textLong found taken anew hand steps shares choices values latest askedIs above below place partedBy)) dX7_deedBy_144 (c_X7_has rfl) pk_X7_has ml_X7_130 rfl rfl rfl rfl rfl rfl rfl ?_
        refine x_if_eq 158 dX7_deedBy_147 (by decide) (fun c5 => ?_) (fun c5 => ?_)
        · have h := x_pos c5 h
          refine x_iconst 0 dX7_deedBy_158 (by decide) ?_
          cases h
          exact x_ireturn dX7_deedBy_159 rfl (x_is.rf _ _)
        · have h := x_neg c5 h
          refine x_sipush 500 dX7_deedBy_150 (by decide) ?_
          refine x_iload_n dX7_deedBy_153 1 rfl rfl ?_
          refine x_iadd dX7_deedBy_154 ?_
          refine x_goto 159 dX7_deedBy_155 (by decide) ?_
          cases h
          exact x_ireturn dX7_deedBy_159 rfl (x_is.rf _ _)
      · have h := x_pos c4 h
        refine x_sipush 601 dX7_deedBy_122 (by decide) ?_
        refine x_aload_n dX7_deedBy_125 2 rfl rfl ?_
        refine x_get (ci := 5) 0 0 dX7_deedBy_126 fl_X7_7 inX7 rfl (by decide) ⟨rfl, rfl, rfl⟩ rfl rfl ?_
        refine x_bipush 84 dX7_deedBy_129 (by decide) ?_
        refine x_iald 84 (q0 := 1) dX7_deedBy_131 (by decide) rfl (by decide) ?_
        refine x_isub dX7_deedBy_132 ?_
        refine x_goto 159 dX7_deedBy_133 (by decide) ?_
        cases h
        exact x_ireturn dX7_deedBy_159 rfl (x_is.rf _ _)
    · have h := x_pos c3 h
      refine x_aload_n dX7_deedBy_71 2 rfl rfl ?_
      refine x_get (ci := 5) 0 0 dX7_deedBy_72 fl_X7_7 inX7 rfl (by decide) ⟨rfl, rfl, rfl⟩ rfl rfl ?_
      refine x_bipush 83 dX7_deedBy_75 (by decide) ?_
      refine x_iald 83 (q0 := 1) dX7_deedBy_77 (by decide) rfl (by decide) ?_
      refine x_iload_n dX7_deedBy_78 1 rfl rfl ?_
      refine x_cS (As := [.int (now 83), .int ((x1 - x1 / (now 0).toInt64 * (now 0).toInt64).toInt32)]) (wc := ([] : va_W)) (w1 := ([] : va_W)) (pre := []) (post := (WModel G a now kept isKept rows rowLong texts textLong found taken anew hand steps shares choices values latest askedIs above below place partedBy)) (rest := []) (st1 := [.int (M_X7_has (now 83) ((x1 - x1 / (now 0).toInt64 * (now 0).toInt64).toInt32))]) (ws1 := (WModel G a now kept isKept rows rowLong texts textLong found taken anew hand steps shares choices values latest askedIs above below place partedBy)) dX7_deedBy_79 (c_X7_has rfl) pk_X7_has ml_X7_130 rfl rfl rfl rfl rfl rfl rfl ?_
      refine x_if_eq 89 dX7_deedBy_82 (by decide) (fun c6 => ?_) (fun c6 => ?_)
      · have h := x_pos c6 h
        refine x_aload_n dX7_deedBy_89 2 rfl rfl ?_
        refine x_get (ci := 5) 0 0 dX7_deedBy_90 fl_X7_7 inX7 rfl (by decide) ⟨rfl, rfl, rfl⟩ rfl rfl ?_
        refine x_bipush 82 dX7_deedBy_93 (by decide) ?_
        refine x_iald 82 (q0 := 1) dX7_deedBy_95 (by decide) rfl (by decide) ?_
        refine x_iload_n dX7_deedBy_96 1 rfl rfl ?_
        refine x_cS (As := [.int (now 82), .int ((x1 - x1 / (now 0).toInt64 * (now 0).toInt64).toInt32)]) (wc := ([] : va_W)) (w1 := ([] : va_W)) (pre := []) (post := (WModel G a now kept isKept rows rowLong texts textLong found taken anew hand steps shares choices values latest askedIs above below place partedBy)) (rest := []) (st1 := [.int (M_X7_has (now 82) ((x1 - x1 / (now 0).toInt64 * (now 0).toInt64).toInt32))]) (ws1 := (WModel G a now kept isKept rows rowLong texts textLong found taken anew hand steps shares choices values latest askedIs above below place partedBy)) dX7_deedBy_97 (c_X7_has rfl) pk_X7_has ml_X7_130 rfl rfl rfl rfl rfl rfl rfl ?_
        refine x_if_eq 109 dX7_deedBy_100 (by decide) (fun c7 => ?_) (fun c7 => ?_)
        · have h := x_pos c7 h
          refine x_sipush 200 dX7_deedBy_109 (by decide) ?_
          refine x_iload_n dX7_deedBy_112 1 rfl rfl ?_
          refine x_iadd dX7_deedBy_113 ?_
          cases h
          exact x_ireturn dX7_deedBy_114 rfl (x_is.rf _ _)
        · have h := x_neg c7 h
          refine x_sipush 300 dX7_deedBy_103 (by decide) ?_
          refine x_goto 112 dX7_deedBy_106 (by decide) ?_
          refine x_iload_n dX7_deedBy_112 1 rfl rfl ?_
          refine x_iadd dX7_deedBy_113 ?_
          cases h
          exact x_ireturn dX7_deedBy_114 rfl (x_is.rf _ _)
      · have h := x_neg c6 h
        refine x_iconst 0 dX7_deedBy_85 (by decide) ?_
        refine x_goto 114 dX7_deedBy_86 (by decide) ?_
        cases h
        exact x_ireturn dX7_deedBy_114 rfl (x_is.rf _ _)
  · have h := x_neg c2 h
    refine x_aload_n dX7_deedBy_29 2 rfl rfl ?_
    refine x_get (ci := 5) 0 0 dX7_deedBy_30 fl_X7_7 inX7 rfl (by decide) ⟨rfl, rfl, rfl⟩ rfl rfl ?_
    refine x_iload_n dX7_deedBy_33 1 rfl rfl ?_
    refine x_cS (As := [.ref (a 1), .int ((x1 - x1 / (now 0).toInt64 * (now 0).toInt64).toInt32)]) (wc := (WArr G (fun k => a (1 + k)) 85 now)) (w1 := (WArr G (fun k => a (1 + k)) 85 now)) (pre := ((WModel G a now kept isKept rows rowLong texts textLong found taken anew hand steps shares choices values latest askedIs above below place partedBy).take 1)) (post := ((WModel G a now kept isKept rows rowLong texts textLong found taken anew hand steps shares choices values latest askedIs above below place partedBy).drop 2)) (rest := []) (st1 := [.int (M_X7_isFast_85 now ((x1 - x1 / (now 0).toInt64 * (now 0).toInt64).toInt32))]) (ws1 := (WModel G a now kept isKept rows rowLong texts textLong found taken anew hand steps shares choices values latest askedIs above below place partedBy)) dX7_deedBy_34 (c_X7_isFast_85 (aq := (fun k => a (1 + k))) rfl) pk_X7_isFast ml_X7_143 rfl rfl rfl rfl rfl rfl rfl ?_
    refine x_if_eq 63 dX7_deedBy_37 (by decide) (fun c8 => ?_) (fun c8 => ?_)
    · have h := x_pos c8 h
      refine x_iconst 0 dX7_deedBy_63 (by decide) ?_
      cases h
      exact x_ireturn dX7_deedBy_64 rfl (x_is.rf _ _)
    · have h := x_neg c8 h
      refine x_bipush 100 dX7_deedBy_40 (by decide) ?_
      refine x_bipush 10 dX7_deedBy_42 (by decide) ?_
      refine x_iconst 1 dX7_deedBy_44 (by decide) ?_
      refine x_lload_n dX7_deedBy_45 3 rfl rfl ?_
      refine x_ldc2 dX7_deedBy_46 kl_X7_244 ?_
      refine x_ldiv dX7_deedBy_49 (by decide) ?_
      refine x_ldc2 dX7_deedBy_50 kl_X7_246 ?_
      refine x_lrem dX7_deedBy_53 (by decide) ?_
      refine x_l2i dX7_deedBy_54 ?_
      refine x_iadd dX7_deedBy_55 ?_
      refine x_imul dX7_deedBy_56 ?_
      refine x_iadd dX7_deedBy_57 ?_
      refine x_iload_n dX7_deedBy_58 1 rfl rfl ?_
      refine x_iadd dX7_deedBy_59 ?_
      refine x_goto 64 dX7_deedBy_60 (by decide) ?_
      cases h
      exact x_ireturn dX7_deedBy_64 rfl (x_is.rf _ _)
theorem pk_X7_lots : x_pv RX7 yX7_lots cX7_lots 6 (some .int) 2 := ⟨⟨co_X7_lots, ni_X7, by decide, by decide +kernel⟩, im_X7_lots, se_X7_lots⟩
def M_X7_lots_b77 (k61 : (Nat → Int32) → Int32 → Int32 → Int64 → Int32 → Option (Int32 × (Nat → Int32) × Int32)) (now : (Nat → Int32)) (partedBy : Int32) (x1 : Int32) (x3 : Int64) (x5 : Int32) : Option (Int32 × (Nat → Int32) × Int32) :=
  (M_X7_deedBy now x3).bind fun r8 =>
  (M_X7_does now partedBy r8).bind fun r10 =>
  k61 r10.1 r10.2 x1 x3 (x5 + (1 : Int32))
set_option maxHeartbeats 4000000 in
set_option maxRecDepth 100000 in
theorem w_X7_lots_b77 {G : x_G} {l : Launch} {a : Nat → Nat} {kept : (Nat → Int32)} {isKept : (Nat → Int32)} {rows : (Nat → Int32)} {rowLong : (Nat → Int32)} {texts : (Nat → Int32)} {textLong : (Nat → Int32)} {found : (Nat → Int32)} {taken : (Nat → Int32)} {anew : (Nat → Int32)} {hand : (Nat → Int32)} {steps : (Nat → Int32)} {shares : (Nat → Int32)} {choices : (Nat → Int32)} {values : (Nat → Int32)} {latest : Int32} {askedIs : Int32} {above : Int64} {below : Int64} {place : Int32} {k61 : (Nat → Int32) → Int32 → Int32 → Int64 → Int32 → Option (Int32 × (Nat → Int32) × Int32)} {res : Int32 × (Nat → Int32) × Int32} (hk61 : ∀ (now : (Nat → Int32)) (partedBy : Int32) (x1 : Int32) (x3 : Int64) (x5 : Int32), k61 now partedBy x1 x3 x5 = some res → X G l RX7 cX7_lots 6 (x_R 5 0 0) (x_Cm G (some .int) false (x_is (some (.int res.1)) (WModel G a res.2.1 kept isKept rows rowLong texts textLong found taken anew hand steps shares choices values latest askedIs above below place res.2.2)) 0 0) 0 0 61 [(0, .ref (a 0)), (1, .int x1), (3, .long x3), (5, .int x5)] [] (WModel G a now kept isKept rows rowLong texts textLong found taken anew hand steps shares choices values latest askedIs above below place partedBy)) (now : (Nat → Int32)) (partedBy : Int32) (x1 : Int32) (x3 : Int64) (x5 : Int32) (h : M_X7_lots_b77 k61 now partedBy x1 x3 x5 = some res) : X G l RX7 cX7_lots 6 (x_R 5 0 0) (x_Cm G (some .int) false (x_is (some (.int res.1)) (WModel G a res.2.1 kept isKept rows rowLong texts textLong found taken anew hand steps shares choices values latest askedIs above below place res.2.2)) 0 0) 0 0 77 [(0, .ref (a 0)), (1, .int x1), (3, .long x3), (5, .int x5)] [] (WModel G a now kept isKept rows rowLong texts textLong found taken anew hand steps shares choices values latest askedIs above below place partedBy) := by
  unfold M_X7_lots_b77 at h
  refine x_aload_n dX7_lots_77 0 rfl rfl ?_
  refine x_aload_n dX7_lots_78 0 rfl rfl ?_
  refine x_lload_n dX7_lots_79 2 rfl rfl ?_
  obtain ⟨r8, e9, h⟩ := x_bind h
  refine x_cV (As := [.long x3]) (wc := (WModel G a now kept isKept rows rowLong texts textLong found taken anew hand steps shares choices values latest askedIs above below place partedBy)) (w1 := (WModel G a now kept isKept rows rowLong texts textLong found taken anew hand steps shares choices values latest askedIs above below place partedBy)) (pre := []) (post := []) (rest := [.ref (a 0)]) (st1 := [.int r8, .ref (a 0)]) (ws1 := (WModel G a now kept isKept rows rowLong texts textLong found taken anew hand steps shares choices values latest askedIs above below place partedBy)) (ci := 5) 0 dX7_lots_80 (c_X7_deedBy (a := a) e9) pk_X7_deedBy ml_X7_256 (x_full _) rfl rfl rfl rfl rfl rfl rfl rfl (x_full _).symm ?_
  obtain ⟨r10, e11, h⟩ := x_bind h
  refine x_cV (As := [.int r8]) (wc := (WModel G a now kept isKept rows rowLong texts textLong found taken anew hand steps shares choices values latest askedIs above below place partedBy)) (w1 := (WModel G a r10.1 kept isKept rows rowLong texts textLong found taken anew hand steps shares choices values latest askedIs above below place r10.2)) (pre := []) (post := []) (rest := []) (st1 := []) (ws1 := (WModel G a r10.1 kept isKept rows rowLong texts textLong found taken anew hand steps shares choices values latest askedIs above below place r10.2)) (ci := 5) 0 dX7_lots_83 (c_X7_does (a := a) e11) pk_X7_does ml_X7_177 (x_full _) rfl rfl rfl rfl rfl rfl rfl rfl (x_full _).symm ?_
  refine x_iinc (j := 3) (1 : Int32) [(5, .int (x5 + (1 : Int32))), (0, .ref (a 0)), (1, .int x1), (3, .long x3)] dX7_lots_86 (by decide) rfl (by decide) rfl ?_
  refine x_goto 61 dX7_lots_89 (by decide) ?_
  refine x_lv [1, 2, 3, 0] rfl ?_
  exact hk61 _ _ _ _ _ h
def M_X7_lots_b61 : Nat → (Nat → Int32) → Int32 → Int32 → Int64 → Int32 → Option (Int32 × (Nat → Int32) × Int32)
  | 0, _, _, _, _, _ => none
  | n + 1, now, partedBy, x1, x3, x5 =>
    if x1 ≤ x5 then
    ((M_X7_taut_85 now).bind fun r2 =>
    (M_X7_lawfulBy_85 now r2).bind fun r4 =>
    (M_X7_bits r4).bind fun r6 =>
    some (r6, now, partedBy))
    else
    (M_X7_lots_b77 (fun (now' : (Nat → Int32)) (partedBy' : Int32) (x1' : Int32) (x3' : Int64) (x5' : Int32) => M_X7_lots_b61 n now' partedBy' x1' x3' x5') now partedBy x1 ((x3 * (48271 : Int64)) - (x3 * (48271 : Int64)) / (2147483647 : Int64) * (2147483647 : Int64)) x5)
set_option maxHeartbeats 4000000 in
set_option maxRecDepth 100000 in
theorem w_X7_lots_b61 {G : x_G} {l : Launch} {a : Nat → Nat} {kept : (Nat → Int32)} {isKept : (Nat → Int32)} {rows : (Nat → Int32)} {rowLong : (Nat → Int32)} {texts : (Nat → Int32)} {textLong : (Nat → Int32)} {found : (Nat → Int32)} {taken : (Nat → Int32)} {anew : (Nat → Int32)} {hand : (Nat → Int32)} {steps : (Nat → Int32)} {shares : (Nat → Int32)} {choices : (Nat → Int32)} {values : (Nat → Int32)} {latest : Int32} {askedIs : Int32} {above : Int64} {below : Int64} {place : Int32} {res : Int32 × (Nat → Int32) × Int32} : ∀ (n : Nat) (now : (Nat → Int32)) (partedBy : Int32) (x1 : Int32) (x3 : Int64) (x5 : Int32), M_X7_lots_b61 n now partedBy x1 x3 x5 = some res → X G l RX7 cX7_lots 6 (x_R 5 0 0) (x_Cm G (some .int) false (x_is (some (.int res.1)) (WModel G a res.2.1 kept isKept rows rowLong texts textLong found taken anew hand steps shares choices values latest askedIs above below place res.2.2)) 0 0) 0 0 61 [(0, .ref (a 0)), (1, .int x1), (3, .long x3), (5, .int x5)] [] (WModel G a now kept isKept rows rowLong texts textLong found taken anew hand steps shares choices values latest askedIs above below place partedBy) := by
  intro n
  induction n with
  | zero =>
    intro _ _ _ _ _ h
    cases h
  | succ n ih =>
    intro now partedBy x1 x3 x5 h
    rw [M_X7_lots_b61] at h
    refine x_iload dX7_lots_61 3 rfl ?_
    refine x_iload_n dX7_lots_63 1 rfl rfl ?_
    refine x_icmp_ge 92 dX7_lots_64 (by decide) (fun c1 => ?_) (fun c1 => ?_)
    · have h := x_pos c1 h
      refine x_aload_n dX7_lots_92 0 rfl rfl ?_
      refine x_get (ci := 5) 0 0 dX7_lots_93 fl_X7_7 inX7 rfl (by decide) ⟨rfl, rfl, rfl⟩ rfl rfl ?_
      refine x_aload_n dX7_lots_96 0 rfl rfl ?_
      refine x_get (ci := 5) 0 0 dX7_lots_97 fl_X7_7 inX7 rfl (by decide) ⟨rfl, rfl, rfl⟩ rfl rfl ?_
      obtain ⟨r2, e3, h⟩ := x_bind h
      refine x_cS (As := [.ref (a 1)]) (wc := (WArr G (fun k => a (1 + k)) 85 now)) (w1 := (WArr G (fun k => a (1 + k)) 85 now)) (pre := ((WModel G a now kept isKept rows rowLong texts textLong found taken anew hand steps shares choices values latest askedIs above below place partedBy).take 1)) (post := ((WModel G a now kept isKept rows rowLong texts textLong found taken anew hand steps shares choices values latest askedIs above below place partedBy).drop 2)) (rest := [.ref (a 1)]) (st1 := [.int r2, .ref (a 1)]) (ws1 := (WModel G a now kept isKept rows rowLong texts textLong found taken anew hand steps shares choices values latest askedIs above below place partedBy)) dX7_lots_100 (c_X7_taut_85 (aq := (fun k => a (1 + k))) e3) pk_X7_taut ml_X7_167 rfl rfl rfl rfl rfl rfl rfl ?_
      obtain ⟨r4, e5, h⟩ := x_bind h
      refine x_cS (As := [.ref (a 1), .int r2]) (wc := (WArr G (fun k => a (1 + k)) 85 now)) (w1 := (WArr G (fun k => a (1 + k)) 85 now)) (pre := ((WModel G a now kept isKept rows rowLong texts textLong found taken anew hand steps shares choices values latest askedIs above below place partedBy).take 1)) (post := ((WModel G a now kept isKept rows rowLong texts textLong found taken anew hand steps shares choices values latest askedIs above below place partedBy).drop 2)) (rest := []) (st1 := [.int r4]) (ws1 := (WModel G a now kept isKept rows rowLong texts textLong found taken anew hand steps shares choices values latest askedIs above below place partedBy)) dX7_lots_103 (c_X7_lawfulBy_85 (aq := (fun k => a (1 + k))) e5) pk_X7_lawfulBy ml_X7_200 rfl rfl rfl rfl rfl rfl rfl ?_
      obtain ⟨r6, e7, h⟩ := x_bind h
      refine x_cS (As := [.int r4]) (wc := ([] : va_W)) (w1 := ([] : va_W)) (pre := []) (post := (WModel G a now kept isKept rows rowLong texts textLong found taken anew hand steps shares choices values latest askedIs above below place partedBy)) (rest := []) (st1 := [.int r6]) (ws1 := (WModel G a now kept isKept rows rowLong texts textLong found taken anew hand steps shares choices values latest askedIs above below place partedBy)) dX7_lots_106 (c_X7_bits e7) pk_X7_bits ml_X7_171 rfl rfl rfl rfl rfl rfl rfl ?_
      cases h
      exact x_ireturn dX7_lots_109 rfl (x_is.rf _ _)
    · have h := x_neg c1 h
      refine x_lload_n dX7_lots_67 2 rfl rfl ?_
      refine x_ldc2 dX7_lots_68 kl_X7_252 ?_
      refine x_lmul dX7_lots_71 ?_
      refine x_ldc2 dX7_lots_72 kl_X7_254 ?_
      refine x_lrem dX7_lots_75 (by decide) ?_
      refine x_lstore_n [(3, .long ((x3 * (48271 : Int64)) - (x3 * (48271 : Int64)) / (2147483647 : Int64) * (2147483647 : Int64))), (0, .ref (a 0)), (1, .int x1), (5, .int x5)] dX7_lots_76 rfl (by decide) rfl ?_
      refine x_lv [1, 2, 0, 3] rfl ?_
      exact w_X7_lots_b77 (fun now' partedBy' x1' x3' x5' h => ih now' partedBy' x1' x3' x5' h) _ _ _ _ _ h
def M_X7_lots (now : (Nat → Int32)) (partedBy : Int32) (x1 : Int32) (x2 : Int32) : Option (Int32 × (Nat → Int32) × Int32) :=
  if (M_X7_in x1.toInt64 (1 : Int64) (20 : Int64)) = 0 then
  (some ((-1 : Int32), now, partedBy))
  else
  (if (M_X7_in x2.toInt64 (1 : Int64) (2147483646 : Int64)) = 0 then
  (some ((-1 : Int32), now, partedBy))
  else
  (if (now 0) = 0 then
  (some ((-4 : Int32), now, partedBy))
  else
  (if ((now 35) + x1) ≤ (40 : Int32) then
  (M_X7_lots_b61 x_fuel now partedBy x1 x2.toInt64 (0 : Int32))
  else
  (some ((-2 : Int32), now, partedBy)))))
set_option maxHeartbeats 4000000 in
set_option maxRecDepth 100000 in
theorem c_X7_lots {G : x_G} {l : Launch} {a : Nat → Nat} {kept : (Nat → Int32)} {isKept : (Nat → Int32)} {rows : (Nat → Int32)} {rowLong : (Nat → Int32)} {texts : (Nat → Int32)} {textLong : (Nat → Int32)} {found : (Nat → Int32)} {taken : (Nat → Int32)} {anew : (Nat → Int32)} {hand : (Nat → Int32)} {steps : (Nat → Int32)} {shares : (Nat → Int32)} {choices : (Nat → Int32)} {values : (Nat → Int32)} {latest : Int32} {askedIs : Int32} {above : Int64} {below : Int64} {place : Int32} {now : (Nat → Int32)} {partedBy : Int32} {x1 : Int32} {x2 : Int32} {res : Int32 × (Nat → Int32) × Int32} (h : M_X7_lots now partedBy x1 x2 = some res) : x_M G l yX7_lots cX7_lots 6 (some .int) (5) 0 0 [.ref (a 0), .int x1, .int x2] (WModel G a now kept isKept rows rowLong texts textLong found taken anew hand steps shares choices values latest askedIs above below place partedBy) (x_is (some (.int res.1)) (WModel G a res.2.1 kept isKept rows rowLong texts textLong found taken anew hand steps shares choices values latest askedIs above below place res.2.2)) := by
  unfold M_X7_lots at h
  refine x_enter (ini := false) (by decide) rfl (by decide) rfl (Nat.le_of_ble_eq_true rfl) ?_
  refine x_iload_n dX7_lots_0 1 rfl rfl ?_
  refine x_i2l dX7_lots_1 ?_
  refine x_lconst 1 dX7_lots_2 (by decide) ?_
  refine x_ldc2 dX7_lots_3 kl_X7_248 ?_
  refine x_cS (As := [.long x1.toInt64, .long (1 : Int64), .long (20 : Int64)]) (wc := ([] : va_W)) (w1 := ([] : va_W)) (pre := []) (post := (WModel G a now kept isKept rows rowLong texts textLong found taken anew hand steps shares choices values latest askedIs above below place partedBy)) (rest := []) (st1 := [.int (M_X7_in x1.toInt64 (1 : Int64) (20 : Int64))]) (ws1 := (WModel G a now kept isKept rows rowLong texts textLong found taken anew hand steps shares choices values latest askedIs above below place partedBy)) dX7_lots_6 (c_X7_in rfl) pk_X7_in ml_X7_69 rfl rfl rfl rfl rfl rfl rfl ?_
  refine x_if_eq 24 dX7_lots_9 (by decide) (fun c12 => ?_) (fun c12 => ?_)
  · have h := x_pos c12 h
    refine x_iconst (-1 : Int32) dX7_lots_24 (by decide) ?_
    cases h
    exact x_ireturn dX7_lots_25 rfl (x_is.rf _ _)
  · have h := x_neg c12 h
    refine x_iload_n dX7_lots_12 2 rfl rfl ?_
    refine x_i2l dX7_lots_13 ?_
    refine x_lconst 1 dX7_lots_14 (by decide) ?_
    refine x_ldc2 dX7_lots_15 kl_X7_250 ?_
    refine x_cS (As := [.long x2.toInt64, .long (1 : Int64), .long (2147483646 : Int64)]) (wc := ([] : va_W)) (w1 := ([] : va_W)) (pre := []) (post := (WModel G a now kept isKept rows rowLong texts textLong found taken anew hand steps shares choices values latest askedIs above below place partedBy)) (rest := []) (st1 := [.int (M_X7_in x2.toInt64 (1 : Int64) (2147483646 : Int64))]) (ws1 := (WModel G a now kept isKept rows rowLong texts textLong found taken anew hand steps shares choices values latest askedIs above below place partedBy)) dX7_lots_18 (c_X7_in rfl) pk_X7_in ml_X7_69 rfl rfl rfl rfl rfl rfl rfl ?_
    refine x_if_ne 26 dX7_lots_21 (by decide) (fun c13 => ?_) (fun c13 => ?_)
    · have h := x_neg c13 h
      refine x_aload_n dX7_lots_26 0 rfl rfl ?_
      refine x_get (ci := 5) 0 0 dX7_lots_27 fl_X7_7 inX7 rfl (by decide) ⟨rfl, rfl, rfl⟩ rfl rfl ?_
      refine x_iconst 0 dX7_lots_30 (by decide) ?_
      refine x_iald 0 (q0 := 1) dX7_lots_31 (by decide) rfl (by decide) ?_
      refine x_if_ne 38 dX7_lots_32 (by decide) (fun c14 => ?_) (fun c14 => ?_)
      · have h := x_neg c14 h
        refine x_aload_n dX7_lots_38 0 rfl rfl ?_
        refine x_get (ci := 5) 0 0 dX7_lots_39 fl_X7_7 inX7 rfl (by decide) ⟨rfl, rfl, rfl⟩ rfl rfl ?_
        refine x_bipush 35 dX7_lots_42 (by decide) ?_
        refine x_iald 35 (q0 := 1) dX7_lots_44 (by decide) rfl (by decide) ?_
        refine x_iload_n dX7_lots_45 1 rfl rfl ?_
        refine x_iadd dX7_lots_46 ?_
        refine x_bipush 40 dX7_lots_47 (by decide) ?_
        refine x_icmp_le 55 dX7_lots_49 (by decide) (fun c15 => ?_) (fun c15 => ?_)
        · have h := x_pos c15 h
          refine x_iload_n dX7_lots_55 2 rfl rfl ?_
          refine x_i2l dX7_lots_56 ?_
          refine x_lstore_n [(3, .long x2.toInt64), (0, .ref (a 0)), (1, .int x1), (2, .int x2)] dX7_lots_57 rfl (by decide) rfl ?_
          refine x_iconst 0 dX7_lots_58 (by decide) ?_
          refine x_istore [(5, .int (0 : Int32)), (3, .long x2.toInt64), (0, .ref (a 0)), (1, .int x1), (2, .int x2)] dX7_lots_59 (by decide) rfl ?_
          refine x_lv [2, 3, 1, 0] rfl ?_
          exact w_X7_lots_b61  _ _ _ _ _ _ h
        · have h := x_neg c15 h
          refine x_bipush (-2 : Int32) dX7_lots_52 (by decide) ?_
          cases h
          exact x_ireturn dX7_lots_54 rfl (x_is.rf _ _)
      · have h := x_pos c14 h
        refine x_bipush (-4 : Int32) dX7_lots_35 (by decide) ?_
        cases h
        exact x_ireturn dX7_lots_37 rfl (x_is.rf _ _)
    · have h := x_pos c13 h
      refine x_iconst (-1 : Int32) dX7_lots_24 (by decide) ?_
      cases h
      exact x_ireturn dX7_lots_25 rfl (x_is.rf _ _)
theorem pk_X7_asked : x_pv RX7 yX7_asked cX7_asked 1 (some .int) 0 := ⟨⟨co_X7_asked, ni_X7, by decide, by decide +kernel⟩, im_X7_asked, se_X7_asked⟩
def M_X7_asked (askedIs : Int32) : Int32 :=
  askedIs
set_option maxHeartbeats 4000000 in
set_option maxRecDepth 100000 in
theorem c_X7_asked {G : x_G} {l : Launch} {a : Nat → Nat} {askedIs : Int32} {now : (Nat → Int32)} {kept : (Nat → Int32)} {isKept : (Nat → Int32)} {rows : (Nat → Int32)} {rowLong : (Nat → Int32)} {texts : (Nat → Int32)} {textLong : (Nat → Int32)} {found : (Nat → Int32)} {taken : (Nat → Int32)} {anew : (Nat → Int32)} {hand : (Nat → Int32)} {steps : (Nat → Int32)} {shares : (Nat → Int32)} {choices : (Nat → Int32)} {values : (Nat → Int32)} {latest : Int32} {above : Int64} {below : Int64} {place : Int32} {partedBy : Int32} {res : Int32} (h : M_X7_asked askedIs = res) : x_M G l yX7_asked cX7_asked 1 (some .int) (0) 0 0 [.ref (a 0)] (WModel G a now kept isKept rows rowLong texts textLong found taken anew hand steps shares choices values latest askedIs above below place partedBy) (x_is (some (.int res)) (WModel G a now kept isKept rows rowLong texts textLong found taken anew hand steps shares choices values latest askedIs above below place partedBy)) := by
  unfold M_X7_asked at h
  refine x_enter (ini := false) (by decide) rfl (by decide) rfl (Nat.le_of_ble_eq_true rfl) ?_
  refine x_aload_n dX7_asked_0 0 rfl rfl ?_
  refine x_get (ci := 5) 9 0 dX7_asked_1 fl_X7_64 inX7 rfl (by decide) ⟨rfl, rfl, rfl⟩ rfl rfl ?_
  subst h
  exact x_ireturn dX7_asked_4 rfl (x_is.rf _ _)
theorem pk_X7_upper : x_pv RX7 yX7_upper cX7_upper 1 (some .long) 0 := ⟨⟨co_X7_upper, ni_X7, by decide, by decide +kernel⟩, im_X7_upper, se_X7_upper⟩
def M_X7_upper (above : Int64) : Int64 :=
  above
set_option maxHeartbeats 4000000 in
set_option maxRecDepth 100000 in
theorem c_X7_upper {G : x_G} {l : Launch} {a : Nat → Nat} {above : Int64} {now : (Nat → Int32)} {kept : (Nat → Int32)} {isKept : (Nat → Int32)} {rows : (Nat → Int32)} {rowLong : (Nat → Int32)} {texts : (Nat → Int32)} {textLong : (Nat → Int32)} {found : (Nat → Int32)} {taken : (Nat → Int32)} {anew : (Nat → Int32)} {hand : (Nat → Int32)} {steps : (Nat → Int32)} {shares : (Nat → Int32)} {choices : (Nat → Int32)} {values : (Nat → Int32)} {latest : Int32} {askedIs : Int32} {below : Int64} {place : Int32} {partedBy : Int32} {res : Int64} (h : M_X7_upper above = res) : x_M G l yX7_upper cX7_upper 1 (some .long) (0) 0 0 [.ref (a 0)] (WModel G a now kept isKept rows rowLong texts textLong found taken anew hand steps shares choices values latest askedIs above below place partedBy) (x_is (some (.long res)) (WModel G a now kept isKept rows rowLong texts textLong found taken anew hand steps shares choices values latest askedIs above below place partedBy)) := by
  unfold M_X7_upper at h
  refine x_enter (ini := false) (by decide) rfl (by decide) rfl (Nat.le_of_ble_eq_true rfl) ?_
  refine x_aload_n dX7_upper_0 0 rfl rfl ?_
  refine x_get (ci := 5) 10 0 dX7_upper_1 fl_X7_230 inX7 rfl (by decide) ⟨rfl, rfl, rfl⟩ rfl rfl ?_
  subst h
  exact x_lreturn dX7_upper_4 (x_is.rf _ _)
theorem pk_X7_lower : x_pv RX7 yX7_lower cX7_lower 1 (some .long) 0 := ⟨⟨co_X7_lower, ni_X7, by decide, by decide +kernel⟩, im_X7_lower, se_X7_lower⟩
def M_X7_lower (below : Int64) : Int64 :=
  below
set_option maxHeartbeats 4000000 in
set_option maxRecDepth 100000 in
theorem c_X7_lower {G : x_G} {l : Launch} {a : Nat → Nat} {below : Int64} {now : (Nat → Int32)} {kept : (Nat → Int32)} {isKept : (Nat → Int32)} {rows : (Nat → Int32)} {rowLong : (Nat → Int32)} {texts : (Nat → Int32)} {textLong : (Nat → Int32)} {found : (Nat → Int32)} {taken : (Nat → Int32)} {anew : (Nat → Int32)} {hand : (Nat → Int32)} {steps : (Nat → Int32)} {shares : (Nat → Int32)} {choices : (Nat → Int32)} {values : (Nat → Int32)} {latest : Int32} {askedIs : Int32} {above : Int64} {place : Int32} {partedBy : Int32} {res : Int64} (h : M_X7_lower below = res) : x_M G l yX7_lower cX7_lower 1 (some .long) (0) 0 0 [.ref (a 0)] (WModel G a now kept isKept rows rowLong texts textLong found taken anew hand steps shares choices values latest askedIs above below place partedBy) (x_is (some (.long res)) (WModel G a now kept isKept rows rowLong texts textLong found taken anew hand steps shares choices values latest askedIs above below place partedBy)) := by
  unfold M_X7_lower at h
  refine x_enter (ini := false) (by decide) rfl (by decide) rfl (Nat.le_of_ble_eq_true rfl) ?_
  refine x_aload_n dX7_lower_0 0 rfl rfl ?_
  refine x_get (ci := 5) 11 0 dX7_lower_1 fl_X7_35 inX7 rfl (by decide) ⟨rfl, rfl, rfl⟩ rfl rfl ?_
  subst h
  exact x_lreturn dX7_lower_4 (x_is.rf _ _)
theorem pk_X7_allStrain : x_pv RX7 yX7_allStrain cX7_allStrain 3 (some .int) 0 := ⟨⟨co_X7_allStrain, ni_X7, by decide, by decide +kernel⟩, im_X7_allStrain, se_X7_allStrain⟩
def M_X7_allStrain_b4 (now : (Nat → Int32)) : Nat → Int32 → Int32 → Option (Int32)
  | 0, _, _ => none
  | n + 1, x1, x2 =>
    if (now 0) ≤ x2 then
    (some (x1))
    else
    (if inb ((76 : Int32) + x2) 85 then
    M_X7_allStrain_b4 now n (x1 + (now ((76 : Int32) + x2).toNatClampNeg)) (x2 + (1 : Int32))
    else none)
set_option maxHeartbeats 4000000 in
set_option maxRecDepth 100000 in
theorem w_X7_allStrain_b4 {G : x_G} {l : Launch} {a : Nat → Nat} {now : (Nat → Int32)} {kept : (Nat → Int32)} {isKept : (Nat → Int32)} {rows : (Nat → Int32)} {rowLong : (Nat → Int32)} {texts : (Nat → Int32)} {textLong : (Nat → Int32)} {found : (Nat → Int32)} {taken : (Nat → Int32)} {anew : (Nat → Int32)} {hand : (Nat → Int32)} {steps : (Nat → Int32)} {shares : (Nat → Int32)} {choices : (Nat → Int32)} {values : (Nat → Int32)} {latest : Int32} {askedIs : Int32} {above : Int64} {below : Int64} {place : Int32} {partedBy : Int32} {res : Int32} : ∀ (n : Nat) (x1 : Int32) (x2 : Int32), M_X7_allStrain_b4 now n x1 x2 = some res → X G l RX7 cX7_allStrain 3 (x_R 0 0 0) (x_Cm G (some .int) false (x_is (some (.int res)) (WModel G a now kept isKept rows rowLong texts textLong found taken anew hand steps shares choices values latest askedIs above below place partedBy)) 0 0) 0 0 4 [(0, .ref (a 0)), (1, .int x1), (2, .int x2)] [] (WModel G a now kept isKept rows rowLong texts textLong found taken anew hand steps shares choices values latest askedIs above below place partedBy) := by
  intro n
  induction n with
  | zero =>
    intro _ _ h
    cases h
  | succ n ih =>
    intro x1 x2 h
    rw [M_X7_allStrain_b4] at h
    refine x_iload_n dX7_allStrain_4 2 rfl rfl ?_
    refine x_aload_n dX7_allStrain_5 0 rfl rfl ?_
    refine x_get (ci := 5) 0 0 dX7_allStrain_6 fl_X7_7 inX7 rfl (by decide) ⟨rfl, rfl, rfl⟩ rfl rfl ?_
    refine x_iconst 0 dX7_allStrain_9 (by decide) ?_
    refine x_iald 0 (q0 := 1) dX7_allStrain_10 (by decide) rfl (by decide) ?_
    refine x_icmp_ge 32 dX7_allStrain_11 (by decide) (fun c1 => ?_) (fun c1 => ?_)
    · have h := x_pos c1 h
      refine x_iload_n dX7_allStrain_32 1 rfl rfl ?_
      cases h
      exact x_ireturn dX7_allStrain_33 rfl (x_is.rf _ _)
    · have h := x_neg c1 h
      refine x_iload_n dX7_allStrain_14 1 rfl rfl ?_
      refine x_aload_n dX7_allStrain_15 0 rfl rfl ?_
      refine x_get (ci := 5) 0 0 dX7_allStrain_16 fl_X7_7 inX7 rfl (by decide) ⟨rfl, rfl, rfl⟩ rfl rfl ?_
      refine x_bipush 76 dX7_allStrain_19 (by decide) ?_
      refine x_iload_n dX7_allStrain_21 2 rfl rfl ?_
      refine x_iadd dX7_allStrain_22 ?_
      obtain ⟨b2, h⟩ := x_guard h
      refine x_iald ((76 : Int32) + x2).toNatClampNeg (q0 := 1) dX7_allStrain_23 rfl rfl b2 ?_
      refine x_iadd dX7_allStrain_24 ?_
      refine x_istore_n [(1, .int (x1 + (now ((76 : Int32) + x2).toNatClampNeg))), (0, .ref (a 0)), (2, .int x2)] dX7_allStrain_25 rfl (by decide) rfl ?_
      refine x_iinc (j := 2) (1 : Int32) [(2, .int (x2 + (1 : Int32))), (1, .int (x1 + (now ((76 : Int32) + x2).toNatClampNeg))), (0, .ref (a 0))] dX7_allStrain_26 (by decide) rfl (by decide) rfl ?_
      refine x_goto 4 dX7_allStrain_29 (by decide) ?_
      refine x_lv [2, 1, 0] rfl ?_
      exact ih _ _ h
def M_X7_allStrain (now : (Nat → Int32)) : Option (Int32) :=
  M_X7_allStrain_b4 now x_fuel (0 : Int32) (0 : Int32)
set_option maxHeartbeats 4000000 in
set_option maxRecDepth 100000 in
theorem c_X7_allStrain {G : x_G} {l : Launch} {a : Nat → Nat} {now : (Nat → Int32)} {kept : (Nat → Int32)} {isKept : (Nat → Int32)} {rows : (Nat → Int32)} {rowLong : (Nat → Int32)} {texts : (Nat → Int32)} {textLong : (Nat → Int32)} {found : (Nat → Int32)} {taken : (Nat → Int32)} {anew : (Nat → Int32)} {hand : (Nat → Int32)} {steps : (Nat → Int32)} {shares : (Nat → Int32)} {choices : (Nat → Int32)} {values : (Nat → Int32)} {latest : Int32} {askedIs : Int32} {above : Int64} {below : Int64} {place : Int32} {partedBy : Int32} {res : Int32} (h : M_X7_allStrain now = some res) : x_M G l yX7_allStrain cX7_allStrain 3 (some .int) (0) 0 0 [.ref (a 0)] (WModel G a now kept isKept rows rowLong texts textLong found taken anew hand steps shares choices values latest askedIs above below place partedBy) (x_is (some (.int res)) (WModel G a now kept isKept rows rowLong texts textLong found taken anew hand steps shares choices values latest askedIs above below place partedBy)) := by
  unfold M_X7_allStrain at h
  refine x_enter (ini := false) (by decide) rfl (by decide) rfl (Nat.le_of_ble_eq_true rfl) ?_
  refine x_iconst 0 dX7_allStrain_0 (by decide) ?_
  refine x_istore_n [(1, .int (0 : Int32)), (0, .ref (a 0))] dX7_allStrain_1 rfl (by decide) rfl ?_
  refine x_iconst 0 dX7_allStrain_2 (by decide) ?_
  refine x_istore_n [(2, .int (0 : Int32)), (1, .int (0 : Int32)), (0, .ref (a 0))] dX7_allStrain_3 rfl (by decide) rfl ?_
  refine x_lv [2, 1, 0] rfl ?_
  exact w_X7_allStrain_b4  _ _ _ h
theorem pk_X7_manyOf : x_pv RX7 yX7_manyOf cX7_manyOf 4 (some .int) 1 := ⟨⟨co_X7_manyOf, ni_X7, by decide, by decide +kernel⟩, im_X7_manyOf, se_X7_manyOf⟩
def M_X7_manyOf_b35 (now : (Nat → Int32)) (k4 : Int32 → Int32 → Int32 → Option (Int32)) (x1 : Int32) (x3 : Int32) (s0 : Int32) (s1 : Int32) : Option (Int32) :=
  k4 x1 (s0 + s1) (x3 + (1 : Int32))
set_option maxHeartbeats 4000000 in
set_option maxRecDepth 100000 in
theorem w_X7_manyOf_b35 {G : x_G} {l : Launch} {a : Nat → Nat} {now : (Nat → Int32)} {kept : (Nat → Int32)} {isKept : (Nat → Int32)} {rows : (Nat → Int32)} {rowLong : (Nat → Int32)} {texts : (Nat → Int32)} {textLong : (Nat → Int32)} {found : (Nat → Int32)} {taken : (Nat → Int32)} {anew : (Nat → Int32)} {hand : (Nat → Int32)} {steps : (Nat → Int32)} {shares : (Nat → Int32)} {choices : (Nat → Int32)} {values : (Nat → Int32)} {latest : Int32} {askedIs : Int32} {above : Int64} {below : Int64} {place : Int32} {partedBy : Int32} {k4 : Int32 → Int32 → Int32 → Option (Int32)} {res : Int32} (hk4 : ∀ (x1 : Int32) (x2 : Int32) (x3 : Int32), k4 x1 x2 x3 = some res → X G l RX7 cX7_manyOf 4 (x_R 1 0 0) (x_Cm G (some .int) false (x_is (some (.int res)) (WModel G a now kept isKept rows rowLong texts textLong found taken anew hand steps shares choices values latest askedIs above below place partedBy)) 0 0) 0 0 4 [(0, .ref (a 0)), (1, .int x1), (2, .int x2), (3, .int x3)] [] (WModel G a now kept isKept rows rowLong texts textLong found taken anew hand steps shares choices values latest askedIs above below place partedBy)) (x1 : Int32) (x3 : Int32) (s0 : Int32) (s1 : Int32) (h : M_X7_manyOf_b35 now k4 x1 x3 s0 s1 = some res) : X G l RX7 cX7_manyOf 4 (x_R 1 0 0) (x_Cm G (some .int) false (x_is (some (.int res)) (WModel G a now kept isKept rows rowLong texts textLong found taken anew hand steps shares choices values latest askedIs above below place partedBy)) 0 0) 0 0 35 [(0, .ref (a 0)), (1, .int x1), (3, .int x3)] [.int s1, .int s0] (WModel G a now kept isKept rows rowLong texts textLong found taken anew hand steps shares choices values latest askedIs above below place partedBy) := by
  unfold M_X7_manyOf_b35 at h
  refine x_iadd dX7_manyOf_35 ?_
  refine x_istore_n [(2, .int (s0 + s1)), (0, .ref (a 0)), (1, .int x1), (3, .int x3)] dX7_manyOf_36 rfl (by decide) rfl ?_
  refine x_iinc (j := 3) (1 : Int32) [(3, .int (x3 + (1 : Int32))), (2, .int (s0 + s1)), (0, .ref (a 0)), (1, .int x1)] dX7_manyOf_37 (by decide) rfl (by decide) rfl ?_
  refine x_goto 4 dX7_manyOf_40 (by decide) ?_
  refine x_lv [2, 3, 1, 0] rfl ?_
  exact hk4 _ _ _ h
def M_X7_manyOf_b4 (now : (Nat → Int32)) : Nat → Int32 → Int32 → Int32 → Option (Int32)
  | 0, _, _, _ => none
  | n + 1, x1, x2, x3 =>
    if (now 0) ≤ x3 then
    (some (x2))
    else
    (if inb ((2 : Int32) + x3) 85 then
    if (M_X7_isOf (now ((2 : Int32) + x3).toNatClampNeg) x1) = 0 then
    (M_X7_manyOf_b35 now (fun (x1' : Int32) (x2' : Int32) (x3' : Int32) => M_X7_manyOf_b4 now n x1' x2' x3') x1 x3 x2 (0 : Int32))
    else
    (M_X7_manyOf_b35 now (fun (x1' : Int32) (x2' : Int32) (x3' : Int32) => M_X7_manyOf_b4 now n x1' x2' x3') x1 x3 x2 (1 : Int32))
    else none)
set_option maxHeartbeats 4000000 in
set_option maxRecDepth 100000 in
theorem w_X7_manyOf_b4 {G : x_G} {l : Launch} {a : Nat → Nat} {now : (Nat → Int32)} {kept : (Nat → Int32)} {isKept : (Nat → Int32)} {rows : (Nat → Int32)} {rowLong : (Nat → Int32)} {texts : (Nat → Int32)} {textLong : (Nat → Int32)} {found : (Nat → Int32)} {taken : (Nat → Int32)} {anew : (Nat → Int32)} {hand : (Nat → Int32)} {steps : (Nat → Int32)} {shares : (Nat → Int32)} {choices : (Nat → Int32)} {values : (Nat → Int32)} {latest : Int32} {askedIs : Int32} {above : Int64} {below : Int64} {place : Int32} {partedBy : Int32} {res : Int32} : ∀ (n : Nat) (x1 : Int32) (x2 : Int32) (x3 : Int32), M_X7_manyOf_b4 now n x1 x2 x3 = some res → X G l RX7 cX7_manyOf 4 (x_R 1 0 0) (x_Cm G (some .int) false (x_is (some (.int res)) (WModel G a now kept isKept rows rowLong texts textLong found taken anew hand steps shares choices values latest askedIs above below place partedBy)) 0 0) 0 0 4 [(0, .ref (a 0)), (1, .int x1), (2, .int x2), (3, .int x3)] [] (WModel G a now kept isKept rows rowLong texts textLong found taken anew hand steps shares choices values latest askedIs above below place partedBy) := by
  intro n
  induction n with
  | zero =>
    intro _ _ _ h
    cases h
  | succ n ih =>
    intro x1 x2 x3 h
    rw [M_X7_manyOf_b4] at h
    refine x_iload_n dX7_manyOf_4 3 rfl rfl ?_
    refine x_aload_n dX7_manyOf_5 0 rfl rfl ?_
    refine x_get (ci := 5) 0 0 dX7_manyOf_6 fl_X7_7 inX7 rfl (by decide) ⟨rfl, rfl, rfl⟩ rfl rfl ?_
    refine x_iconst 0 dX7_manyOf_9 (by decide) ?_
    refine x_iald 0 (q0 := 1) dX7_manyOf_10 (by decide) rfl (by decide) ?_
    refine x_icmp_ge 43 dX7_manyOf_11 (by decide) (fun c1 => ?_) (fun c1 => ?_)
    · have h := x_pos c1 h
      refine x_iload_n dX7_manyOf_43 2 rfl rfl ?_
      cases h
      exact x_ireturn dX7_manyOf_44 rfl (x_is.rf _ _)
    · have h := x_neg c1 h
      refine x_iload_n dX7_manyOf_14 2 rfl rfl ?_
      refine x_aload_n dX7_manyOf_15 0 rfl rfl ?_
      refine x_get (ci := 5) 0 0 dX7_manyOf_16 fl_X7_7 inX7 rfl (by decide) ⟨rfl, rfl, rfl⟩ rfl rfl ?_
      refine x_iconst 2 dX7_manyOf_19 (by decide) ?_
      refine x_iload_n dX7_manyOf_20 3 rfl rfl ?_
      refine x_iadd dX7_manyOf_21 ?_
      obtain ⟨b2, h⟩ := x_guard h
      refine x_iald ((2 : Int32) + x3).toNatClampNeg (q0 := 1) dX7_manyOf_22 rfl rfl b2 ?_
      refine x_iload_n dX7_manyOf_23 1 rfl rfl ?_
      refine x_cS (As := [.int (now ((2 : Int32) + x3).toNatClampNeg), .int x1]) (wc := ([] : va_W)) (w1 := ([] : va_W)) (pre := []) (post := (WModel G a now kept isKept rows rowLong texts textLong found taken anew hand steps shares choices values latest askedIs above below place partedBy)) (rest := [.int x2]) (st1 := [.int (M_X7_isOf (now ((2 : Int32) + x3).toNatClampNeg) x1), .int x2]) (ws1 := (WModel G a now kept isKept rows rowLong texts textLong found taken anew hand steps shares choices values latest askedIs above below place partedBy)) dX7_manyOf_24 (c_X7_isOf rfl) pk_X7_isOf ml_X7_161 rfl rfl rfl rfl rfl rfl rfl ?_
      refine x_if_eq 34 dX7_manyOf_27 (by decide) (fun c3 => ?_) (fun c3 => ?_)
      · have h := x_pos c3 h
        refine x_iconst 0 dX7_manyOf_34 (by decide) ?_
        refine x_lv [0, 1, 3] rfl ?_
        exact w_X7_manyOf_b35 (fun x1' x2' x3' h => ih x1' x2' x3' h) _ _ _ _ h
      · have h := x_neg c3 h
        refine x_iconst 1 dX7_manyOf_30 (by decide) ?_
        refine x_goto 35 dX7_manyOf_31 (by decide) ?_
        refine x_lv [0, 1, 3] rfl ?_
        exact w_X7_manyOf_b35 (fun x1' x2' x3' h => ih x1' x2' x3' h) _ _ _ _ h
def M_X7_manyOf (now : (Nat → Int32)) (x1 : Int32) : Option (Int32) :=
  M_X7_manyOf_b4 now x_fuel x1 (0 : Int32) (0 : Int32)
set_option maxHeartbeats 4000000 in
set_option maxRecDepth 100000 in
theorem c_X7_manyOf {G : x_G} {l : Launch} {a : Nat → Nat} {now : (Nat → Int32)} {kept : (Nat → Int32)} {isKept : (Nat → Int32)} {rows : (Nat → Int32)} {rowLong : (Nat → Int32)} {texts : (Nat → Int32)} {textLong : (Nat → Int32)} {found : (Nat → Int32)} {taken : (Nat → Int32)} {anew : (Nat → Int32)} {hand : (Nat → Int32)} {steps : (Nat → Int32)} {shares : (Nat → Int32)} {choices : (Nat → Int32)} {values : (Nat → Int32)} {latest : Int32} {askedIs : Int32} {above : Int64} {below : Int64} {place : Int32} {partedBy : Int32} {x1 : Int32} {res : Int32} (h : M_X7_manyOf now x1 = some res) : x_M G l yX7_manyOf cX7_manyOf 4 (some .int) (1) 0 0 [.ref (a 0), .int x1] (WModel G a now kept isKept rows rowLong texts textLong found taken anew hand steps shares choices values latest askedIs above below place partedBy) (x_is (some (.int res)) (WModel G a now kept isKept rows rowLong texts textLong found taken anew hand steps shares choices values latest askedIs above below place partedBy)) := by
  unfold M_X7_manyOf at h
  refine x_enter (ini := false) (by decide) rfl (by decide) rfl (Nat.le_of_ble_eq_true rfl) ?_
  refine x_iconst 0 dX7_manyOf_0 (by decide) ?_
  refine x_istore_n [(2, .int (0 : Int32)), (0, .ref (a 0)), (1, .int x1)] dX7_manyOf_1 rfl (by decide) rfl ?_
  refine x_iconst 0 dX7_manyOf_2 (by decide) ?_
  refine x_istore_n [(3, .int (0 : Int32)), (2, .int (0 : Int32)), (0, .ref (a 0)), (1, .int x1)] dX7_manyOf_3 rfl (by decide) rfl ?_
  refine x_lv [2, 3, 1, 0] rfl ?_
  exact w_X7_manyOf_b4  _ _ _ _ h
theorem pk_X7_manyThere : x_ps yX7_manyThere cX7_manyThere 4 (some .int) 2 := ⟨⟨co_X7_manyThere, ni_X7, by decide, by decide +kernel⟩, sm_X7_manyThere⟩
def M_X7_manyThere_6_b21 (c : (Nat → Int32)) (k4 : Int32 → Int32 → Int32 → Option (Int32)) (x1 : Int32) (x3 : Int32) (s0 : Int32) (s1 : Int32) : Option (Int32) :=
  k4 x1 (s0 + s1) (x3 + (1 : Int32))
set_option maxHeartbeats 4000000 in
set_option maxRecDepth 100000 in
theorem w_X7_manyThere_6_b21 {G : x_G} {l : Launch} {aq : Nat → Nat} {c : (Nat → Int32)} {k4 : Int32 → Int32 → Int32 → Option (Int32)} {res : Int32} (hk4 : ∀ (x1 : Int32) (x2 : Int32) (x3 : Int32), k4 x1 x2 x3 = some res → X G l RX7 cX7_manyThere 4 (x_R 0 0 0) (x_Cm G (some .int) false (x_is (some (.int res)) (WArr G aq 6 c)) 0 0) 0 0 4 [(0, .ref (aq 0)), (1, .int x1), (2, .int x2), (3, .int x3)] [] (WArr G aq 6 c)) (x1 : Int32) (x3 : Int32) (s0 : Int32) (s1 : Int32) (h : M_X7_manyThere_6_b21 c k4 x1 x3 s0 s1 = some res) : X G l RX7 cX7_manyThere 4 (x_R 0 0 0) (x_Cm G (some .int) false (x_is (some (.int res)) (WArr G aq 6 c)) 0 0) 0 0 21 [(0, .ref (aq 0)), (1, .int x1), (3, .int x3)] [.int s1, .int s0] (WArr G aq 6 c) := by
  unfold M_X7_manyThere_6_b21 at h
  refine x_iadd dX7_manyThere_21 ?_
  refine x_istore_n [(2, .int (s0 + s1)), (0, .ref (aq 0)), (1, .int x1), (3, .int x3)] dX7_manyThere_22 rfl (by decide) rfl ?_
  refine x_iinc (j := 3) (1 : Int32) [(3, .int (x3 + (1 : Int32))), (2, .int (s0 + s1)), (0, .ref (aq 0)), (1, .int x1)] dX7_manyThere_23 (by decide) rfl (by decide) rfl ?_
  refine x_goto 4 dX7_manyThere_26 (by decide) ?_
  refine x_lv [2, 3, 1, 0] rfl ?_
  exact hk4 _ _ _ h
def M_X7_manyThere_6_b4 (c : (Nat → Int32)) : Nat → Int32 → Int32 → Int32 → Option (Int32)
  | 0, _, _, _ => none
  | n + 1, x1, x2, x3 =>
    if x1 ≤ x3 then
    (some (x2))
    else
    (if inb x3 6 then
    if 0 ≤ (c x3.toNatClampNeg) then
    (M_X7_manyThere_6_b21 c (fun (x1' : Int32) (x2' : Int32) (x3' : Int32) => M_X7_manyThere_6_b4 c n x1' x2' x3') x1 x3 x2 (1 : Int32))
    else
    (M_X7_manyThere_6_b21 c (fun (x1' : Int32) (x2' : Int32) (x3' : Int32) => M_X7_manyThere_6_b4 c n x1' x2' x3') x1 x3 x2 (0 : Int32))
    else none)
set_option maxHeartbeats 4000000 in
set_option maxRecDepth 100000 in
theorem w_X7_manyThere_6_b4 {G : x_G} {l : Launch} {aq : Nat → Nat} {c : (Nat → Int32)} {res : Int32} : ∀ (n : Nat) (x1 : Int32) (x2 : Int32) (x3 : Int32), M_X7_manyThere_6_b4 c n x1 x2 x3 = some res → X G l RX7 cX7_manyThere 4 (x_R 0 0 0) (x_Cm G (some .int) false (x_is (some (.int res)) (WArr G aq 6 c)) 0 0) 0 0 4 [(0, .ref (aq 0)), (1, .int x1), (2, .int x2), (3, .int x3)] [] (WArr G aq 6 c) := by
  intro n
  induction n with
  | zero =>
    intro _ _ _ h
    cases h
  | succ n ih =>
    intro x1 x2 x3 h
    rw [M_X7_manyThere_6_b4] at h
    refine x_iload_n dX7_manyThere_4 3 rfl rfl ?_
    refine x_iload_n dX7_manyThere_5 1 rfl rfl ?_
    refine x_icmp_ge 29 dX7_manyThere_6 (by decide) (fun c1 => ?_) (fun c1 => ?_)
    · have h := x_pos c1 h
      refine x_iload_n dX7_manyThere_29 2 rfl rfl ?_
      cases h
      exact x_ireturn dX7_manyThere_30 rfl (x_is.rf _ _)
    · have h := x_neg c1 h
      refine x_iload_n dX7_manyThere_9 2 rfl rfl ?_
      refine x_aload_n dX7_manyThere_10 0 rfl rfl ?_
      refine x_iload_n dX7_manyThere_11 3 rfl rfl ?_
      obtain ⟨b2, h⟩ := x_guard h
      refine x_iald x3.toNatClampNeg (q0 := 0) dX7_manyThere_12 rfl rfl b2 ?_
      refine x_if_ge 20 dX7_manyThere_13 (by decide) (fun c3 => ?_) (fun c3 => ?_)
      · have h := x_pos c3 h
        refine x_iconst 1 dX7_manyThere_20 (by decide) ?_
        refine x_lv [0, 1, 3] rfl ?_
        exact w_X7_manyThere_6_b21 (fun x1' x2' x3' h => ih x1' x2' x3' h) _ _ _ _ h
      · have h := x_neg c3 h
        refine x_iconst 0 dX7_manyThere_16 (by decide) ?_
        refine x_goto 21 dX7_manyThere_17 (by decide) ?_
        refine x_lv [0, 1, 3] rfl ?_
        exact w_X7_manyThere_6_b21 (fun x1' x2' x3' h => ih x1' x2' x3' h) _ _ _ _ h
def M_X7_manyThere_6 (c : (Nat → Int32)) (x1 : Int32) : Option (Int32) :=
  M_X7_manyThere_6_b4 c x_fuel x1 (0 : Int32) (0 : Int32)
set_option maxHeartbeats 4000000 in
set_option maxRecDepth 100000 in
theorem c_X7_manyThere_6 {G : x_G} {l : Launch} {aq : Nat → Nat} {c : (Nat → Int32)} {x1 : Int32} {res : Int32} (h : M_X7_manyThere_6 c x1 = some res) : x_M G l yX7_manyThere cX7_manyThere 4 (some .int) (0) 0 0 [.ref (aq 0), .int x1] (WArr G aq 6 c) (x_is (some (.int res)) (WArr G aq 6 c)) := by
  unfold M_X7_manyThere_6 at h
  refine x_enter (ini := false) (by decide) rfl (by decide) rfl (Nat.le_of_ble_eq_true rfl) ?_
  refine x_iconst 0 dX7_manyThere_0 (by decide) ?_
  refine x_istore_n [(2, .int (0 : Int32)), (0, .ref (aq 0)), (1, .int x1)] dX7_manyThere_1 rfl (by decide) rfl ?_
  refine x_iconst 0 dX7_manyThere_2 (by decide) ?_
  refine x_istore_n [(3, .int (0 : Int32)), (2, .int (0 : Int32)), (0, .ref (aq 0)), (1, .int x1)] dX7_manyThere_3 rfl (by decide) rfl ?_
  refine x_lv [2, 3, 1, 0] rfl ?_
  exact w_X7_manyThere_6_b4  _ _ _ _ h
def M_X7_manyThere_4_b21 (c : (Nat → Int32)) (k4 : Int32 → Int32 → Int32 → Option (Int32)) (x1 : Int32) (x3 : Int32) (s0 : Int32) (s1 : Int32) : Option (Int32) :=
  k4 x1 (s0 + s1) (x3 + (1 : Int32))
set_option maxHeartbeats 4000000 in
set_option maxRecDepth 100000 in
theorem w_X7_manyThere_4_b21 {G : x_G} {l : Launch} {aq : Nat → Nat} {c : (Nat → Int32)} {k4 : Int32 → Int32 → Int32 → Option (Int32)} {res : Int32} (hk4 : ∀ (x1 : Int32) (x2 : Int32) (x3 : Int32), k4 x1 x2 x3 = some res → X G l RX7 cX7_manyThere 4 (x_R 0 0 0) (x_Cm G (some .int) false (x_is (some (.int res)) (WArr G aq 4 c)) 0 0) 0 0 4 [(0, .ref (aq 0)), (1, .int x1), (2, .int x2), (3, .int x3)] [] (WArr G aq 4 c)) (x1 : Int32) (x3 : Int32) (s0 : Int32) (s1 : Int32) (h : M_X7_manyThere_4_b21 c k4 x1 x3 s0 s1 = some res) : X G l RX7 cX7_manyThere 4 (x_R 0 0 0) (x_Cm G (some .int) false (x_is (some (.int res)) (WArr G aq 4 c)) 0 0) 0 0 21 [(0, .ref (aq 0)), (1, .int x1), (3, .int x3)] [.int s1, .int s0] (WArr G aq 4 c) := by
  unfold M_X7_manyThere_4_b21 at h
  refine x_iadd dX7_manyThere_21 ?_
  refine x_istore_n [(2, .int (s0 + s1)), (0, .ref (aq 0)), (1, .int x1), (3, .int x3)] dX7_manyThere_22 rfl (by decide) rfl ?_
  refine x_iinc (j := 3) (1 : Int32) [(3, .int (x3 + (1 : Int32))), (2, .int (s0 + s1)), (0, .ref (aq 0)), (1, .int x1)] dX7_manyThere_23 (by decide) rfl (by decide) rfl ?_
  refine x_goto 4 dX7_manyThere_26 (by decide) ?_
  refine x_lv [2, 3, 1, 0] rfl ?_
  exact hk4 _ _ _ h
def M_X7_manyThere_4_b4 (c : (Nat → Int32)) : Nat → Int32 → Int32 → Int32 → Option (Int32)
  | 0, _, _, _ => none
  | n + 1, x1, x2, x3 =>
    if x1 ≤ x3 then
    (some (x2))
    else
    (if inb x3 4 then
    if 0 ≤ (c x3.toNatClampNeg) then
    (M_X7_manyThere_4_b21 c (fun (x1' : Int32) (x2' : Int32) (x3' : Int32) => M_X7_manyThere_4_b4 c n x1' x2' x3') x1 x3 x2 (1 : Int32))
    else
    (M_X7_manyThere_4_b21 c (fun (x1' : Int32) (x2' : Int32) (x3' : Int32) => M_X7_manyThere_4_b4 c n x1' x2' x3') x1 x3 x2 (0 : Int32))
    else none)
set_option maxHeartbeats 4000000 in
set_option maxRecDepth 100000 in
theorem w_X7_manyThere_4_b4 {G : x_G} {l : Launch} {aq : Nat → Nat} {c : (Nat → Int32)} {res : Int32} : ∀ (n : Nat) (x1 : Int32) (x2 : Int32) (x3 : Int32), M_X7_manyThere_4_b4 c n x1 x2 x3 = some res → X G l RX7 cX7_manyThere 4 (x_R 0 0 0) (x_Cm G (some .int) false (x_is (some (.int res)) (WArr G aq 4 c)) 0 0) 0 0 4 [(0, .ref (aq 0)), (1, .int x1), (2, .int x2), (3, .int x3)] [] (WArr G aq 4 c) := by
  intro n
  induction n with
  | zero =>
    intro _ _ _ h
    cases h
  | succ n ih =>
    intro x1 x2 x3 h
    rw [M_X7_manyThere_4_b4] at h
    refine x_iload_n dX7_manyThere_4 3 rfl rfl ?_
    refine x_iload_n dX7_manyThere_5 1 rfl rfl ?_
    refine x_icmp_ge 29 dX7_manyThere_6 (by decide) (fun c1 => ?_) (fun c1 => ?_)
    · have h := x_pos c1 h
      refine x_iload_n dX7_manyThere_29 2 rfl rfl ?_
      cases h
      exact x_ireturn dX7_manyThere_30 rfl (x_is.rf _ _)
    · have h := x_neg c1 h
      refine x_iload_n dX7_manyThere_9 2 rfl rfl ?_
      refine x_aload_n dX7_manyThere_10 0 rfl rfl ?_
      refine x_iload_n dX7_manyThere_11 3 rfl rfl ?_
      obtain ⟨b2, h⟩ := x_guard h
      refine x_iald x3.toNatClampNeg (q0 := 0) dX7_manyThere_12 rfl rfl b2 ?_
      refine x_if_ge 20 dX7_manyThere_13 (by decide) (fun c3 => ?_) (fun c3 => ?_)
      · have h := x_pos c3 h
        refine x_iconst 1 dX7_manyThere_20 (by decide) ?_
        refine x_lv [0, 1, 3] rfl ?_
        exact w_X7_manyThere_4_b21 (fun x1' x2' x3' h => ih x1' x2' x3' h) _ _ _ _ h
      · have h := x_neg c3 h
        refine x_iconst 0 dX7_manyThere_16 (by decide) ?_
        refine x_goto 21 dX7_manyThere_17 (by decide) ?_
        refine x_lv [0, 1, 3] rfl ?_
        exact w_X7_manyThere_4_b21 (fun x1' x2' x3' h => ih x1' x2' x3' h) _ _ _ _ h
def M_X7_manyThere_4 (c : (Nat → Int32)) (x1 : Int32) : Option (Int32) :=
  M_X7_manyThere_4_b4 c x_fuel x1 (0 : Int32) (0 : Int32)
set_option maxHeartbeats 4000000 in
set_option maxRecDepth 100000 in
theorem c_X7_manyThere_4 {G : x_G} {l : Launch} {aq : Nat → Nat} {c : (Nat → Int32)} {x1 : Int32} {res : Int32} (h : M_X7_manyThere_4 c x1 = some res) : x_M G l yX7_manyThere cX7_manyThere 4 (some .int) (0) 0 0 [.ref (aq 0), .int x1] (WArr G aq 4 c) (x_is (some (.int res)) (WArr G aq 4 c)) := by
  unfold M_X7_manyThere_4 at h
  refine x_enter (ini := false) (by decide) rfl (by decide) rfl (Nat.le_of_ble_eq_true rfl) ?_
  refine x_iconst 0 dX7_manyThere_0 (by decide) ?_
  refine x_istore_n [(2, .int (0 : Int32)), (0, .ref (aq 0)), (1, .int x1)] dX7_manyThere_1 rfl (by decide) rfl ?_
  refine x_iconst 0 dX7_manyThere_2 (by decide) ?_
  refine x_istore_n [(3, .int (0 : Int32)), (2, .int (0 : Int32)), (0, .ref (aq 0)), (1, .int x1)] dX7_manyThere_3 rfl (by decide) rfl ?_
  refine x_lv [2, 3, 1, 0] rfl ?_
  exact w_X7_manyThere_4_b4  _ _ _ _ h
theorem pk_X7_counted : x_pv RX7 yX7_counted cX7_counted 2 (some .int) 1 := ⟨⟨co_X7_counted, ni_X7, by decide, by decide +kernel⟩, im_X7_counted, se_X7_counted⟩
def M_X7_counted_b182 (now : (Nat → Int32)) (isKept : (Nat → Int32)) (rowLong : (Nat → Int32)) (textLong : (Nat → Int32)) (s0 : Int32) (s1 : Int32) : Option (Int32) :=
  if (isKept 2) = 0 then
  (some ((s0 + s1) + (0 : Int32)))
  else
  (some ((s0 + s1) + (1 : Int32)))
set_option maxHeartbeats 4000000 in
set_option maxRecDepth 100000 in
theorem w_X7_counted_b182 {G : x_G} {l : Launch} {a : Nat → Nat} {now : (Nat → Int32)} {isKept : (Nat → Int32)} {rowLong : (Nat → Int32)} {textLong : (Nat → Int32)} {kept : (Nat → Int32)} {rows : (Nat → Int32)} {texts : (Nat → Int32)} {found : (Nat → Int32)} {taken : (Nat → Int32)} {anew : (Nat → Int32)} {hand : (Nat → Int32)} {steps : (Nat → Int32)} {shares : (Nat → Int32)} {choices : (Nat → Int32)} {values : (Nat → Int32)} {latest : Int32} {askedIs : Int32} {above : Int64} {below : Int64} {place : Int32} {partedBy : Int32} {res : Int32} (s0 : Int32) (s1 : Int32) (h : M_X7_counted_b182 now isKept rowLong textLong s0 s1 = some res) : X G l RX7 cX7_counted 2 (x_R 2 0 0) (x_Cm G (some .int) false (x_is (some (.int res)) (WModel G a now kept isKept rows rowLong texts textLong found taken anew hand steps shares choices values latest askedIs above below place partedBy)) 0 0) 0 0 182 [(0, .ref (a 0))] [.int s1, .int s0] (WModel G a now kept isKept rows rowLong texts textLong found taken anew hand steps shares choices values latest askedIs above below place partedBy) := by
  unfold M_X7_counted_b182 at h
  refine x_iadd dX7_counted_182 ?_
  refine x_aload_n dX7_counted_183 0 rfl rfl ?_
  refine x_get (ci := 5) 2 0 dX7_counted_184 fl_X7_16 inX7 rfl (by decide) ⟨rfl, rfl, rfl⟩ rfl rfl ?_
  refine x_iconst 2 dX7_counted_187 (by decide) ?_
  refine x_zald 2 (q0 := 3) dX7_counted_188 (by decide) rfl (by decide) ?_
  refine x_if_eq 196 dX7_counted_189 (by decide) (fun c2 => ?_) (fun c2 => ?_)
  · have h := x_pos c2 h
    refine x_iconst 0 dX7_counted_196 (by decide) ?_
    refine x_iadd dX7_counted_197 ?_
    cases h
    exact x_ireturn dX7_counted_198 rfl (x_is.rf _ _)
  · have h := x_neg c2 h
    refine x_iconst 1 dX7_counted_192 (by decide) ?_
    refine x_goto 197 dX7_counted_193 (by decide) ?_
    refine x_iadd dX7_counted_197 ?_
    cases h
    exact x_ireturn dX7_counted_198 rfl (x_is.rf _ _)
def M_X7_counted_b168 (now : (Nat → Int32)) (isKept : (Nat → Int32)) (rowLong : (Nat → Int32)) (textLong : (Nat → Int32)) (s0 : Int32) : Option (Int32) :=
  if (isKept 1) = 0 then
  (M_X7_counted_b182 now isKept rowLong textLong s0 (0 : Int32))
  else
  (M_X7_counted_b182 now isKept rowLong textLong s0 (1 : Int32))
set_option maxHeartbeats 4000000 in
set_option maxRecDepth 100000 in
theorem w_X7_counted_b168 {G : x_G} {l : Launch} {a : Nat → Nat} {now : (Nat → Int32)} {isKept : (Nat → Int32)} {rowLong : (Nat → Int32)} {textLong : (Nat → Int32)} {kept : (Nat → Int32)} {rows : (Nat → Int32)} {texts : (Nat → Int32)} {found : (Nat → Int32)} {taken : (Nat → Int32)} {anew : (Nat → Int32)} {hand : (Nat → Int32)} {steps : (Nat → Int32)} {shares : (Nat → Int32)} {choices : (Nat → Int32)} {values : (Nat → Int32)} {latest : Int32} {askedIs : Int32} {above : Int64} {below : Int64} {place : Int32} {partedBy : Int32} {res : Int32} (s0 : Int32) (h : M_X7_counted_b168 now isKept rowLong textLong s0 = some res) : X G l RX7 cX7_counted 2 (x_R 2 0 0) (x_Cm G (some .int) false (x_is (some (.int res)) (WModel G a now kept isKept rows rowLong texts textLong found taken anew hand steps shares choices values latest askedIs above below place partedBy)) 0 0) 0 0 168 [(0, .ref (a 0))] [.int s0] (WModel G a now kept isKept rows rowLong texts textLong found taken anew hand steps shares choices values latest askedIs above below place partedBy) := by
  unfold M_X7_counted_b168 at h
  refine x_aload_n dX7_counted_168 0 rfl rfl ?_
  refine x_get (ci := 5) 2 0 dX7_counted_169 fl_X7_16 inX7 rfl (by decide) ⟨rfl, rfl, rfl⟩ rfl rfl ?_
  refine x_iconst 1 dX7_counted_172 (by decide) ?_
  refine x_zald 1 (q0 := 3) dX7_counted_173 (by decide) rfl (by decide) ?_
  refine x_if_eq 181 dX7_counted_174 (by decide) (fun c1 => ?_) (fun c1 => ?_)
  · have h := x_pos c1 h
    refine x_iconst 0 dX7_counted_181 (by decide) ?_
    exact w_X7_counted_b182  _ _ h
  · have h := x_neg c1 h
    refine x_iconst 1 dX7_counted_177 (by decide) ?_
    refine x_goto 182 dX7_counted_178 (by decide) ?_
    exact w_X7_counted_b182  _ _ h
def M_X7_counted (now : (Nat → Int32)) (isKept : (Nat → Int32)) (rowLong : (Nat → Int32)) (textLong : (Nat → Int32)) (x1 : Int32) : Option (Int32) :=
  if x1 = (0 : Int32) then
  (some (now 0))
  else
  (if x1 = (1 : Int32) then
  (some (now 1))
  else
  (if x1 = (2 : Int32) then
  (some (now 35))
  else
  (if x1 = (3 : Int32) then
  (some (now 84))
  else
  (if x1 = (4 : Int32) then
  ((M_X7_taut_85 now).bind fun r8 =>
  some (r8))
  else
  (if x1 = (5 : Int32) then
  (some (now 82))
  else
  (if x1 = (6 : Int32) then
  (some (now 83))
  else
  (if x1 = (7 : Int32) then
  ((M_X7_allStrain now).bind fun r13 =>
  some (r13))
  else
  (if x1 = (8 : Int32) then
  ((M_X7_manyOf now (1 : Int32)).bind fun r16 =>
  some (r16))
  else
  (if x1 = (9 : Int32) then
  ((M_X7_manyOf now (3 : Int32)).bind fun r19 =>
  some (r19))
  else
  (if x1 = (10 : Int32) then
  ((M_X7_manyThere_6 rowLong (6 : Int32)).bind fun r22 =>
  some (r22))
  else
  (if x1 = (11 : Int32) then
  ((M_X7_manyThere_4 textLong (4 : Int32)).bind fun r25 =>
  some (r25))
  else
  (if (isKept 0) = 0 then
  (M_X7_counted_b168 now isKept rowLong textLong (0 : Int32))
  else
  (M_X7_counted_b168 now isKept rowLong textLong (1 : Int32))))))))))))))
set_option maxHeartbeats 4000000 in
set_option maxRecDepth 100000 in
theorem c_X7_counted {G : x_G} {l : Launch} {a : Nat → Nat} {now : (Nat → Int32)} {isKept : (Nat → Int32)} {rowLong : (Nat → Int32)} {textLong : (Nat → Int32)} {kept : (Nat → Int32)} {rows : (Nat → Int32)} {texts : (Nat → Int32)} {found : (Nat → Int32)} {taken : (Nat → Int32)} {anew : (Nat → Int32)} {hand : (Nat → Int32)} {steps : (Nat → Int32)} {shares : (Nat → Int32)} {choices : (Nat → Int32)} {values : (Nat → Int32)} {latest : Int32} {askedIs : Int32} {above : Int64} {below : Int64} {place : Int32} {partedBy : Int32} {x1 : Int32} {res : Int32} (h : M_X7_counted now isKept rowLong textLong x1 = some res) : x_M G l yX7_counted cX7_counted 2 (some .int) (2) 0 0 [.ref (a 0), .int x1] (WModel G a now kept isKept rows rowLong texts textLong found taken anew hand steps shares choices values latest askedIs above below place partedBy) (x_is (some (.int res)) (WModel G a now kept isKept rows rowLong texts textLong found taken anew hand steps shares choices values latest askedIs above below place partedBy)) := by
  unfold M_X7_counted at h
  refine x_enter (ini := false) (by decide) rfl (by decide) rfl (Nat.le_of_ble_eq_true rfl) ?_
  refine x_iload_n dX7_counted_0 1 rfl rfl ?_
  by_cases c3 : x1 = (0 : Int32)
  · have h := x_pos c3 h
    refine x_tswEq (off := 63) (0 : Int32) 64 c3 dX7_counted_1 (by decide) (by decide) (by decide) (by decide) ?_
    refine x_aload_n dX7_counted_64 0 rfl rfl ?_
    refine x_get (ci := 5) 0 0 dX7_counted_65 fl_X7_7 inX7 rfl (by decide) ⟨rfl, rfl, rfl⟩ rfl rfl ?_
    refine x_iconst 0 dX7_counted_68 (by decide) ?_
    refine x_iald 0 (q0 := 1) dX7_counted_69 (by decide) rfl (by decide) ?_
    cases h
    exact x_ireturn dX7_counted_70 rfl (x_is.rf _ _)
  · have h := x_neg c3 h
    by_cases c4 : x1 = (1 : Int32)
    · have h := x_pos c4 h
      refine x_tswEq (off := 70) (1 : Int32) 71 c4 dX7_counted_1 (by decide) (by decide) (by decide) (by decide) ?_
      refine x_aload_n dX7_counted_71 0 rfl rfl ?_
      refine x_get (ci := 5) 0 0 dX7_counted_72 fl_X7_7 inX7 rfl (by decide) ⟨rfl, rfl, rfl⟩ rfl rfl ?_
      refine x_iconst 1 dX7_counted_75 (by decide) ?_
      refine x_iald 1 (q0 := 1) dX7_counted_76 (by decide) rfl (by decide) ?_
      cases h
      exact x_ireturn dX7_counted_77 rfl (x_is.rf _ _)
    · have h := x_neg c4 h
      by_cases c5 : x1 = (2 : Int32)
      · have h := x_pos c5 h
        refine x_tswEq (off := 77) (2 : Int32) 78 c5 dX7_counted_1 (by decide) (by decide) (by decide) (by decide) ?_
        refine x_aload_n dX7_counted_78 0 rfl rfl ?_
        refine x_get (ci := 5) 0 0 dX7_counted_79 fl_X7_7 inX7 rfl (by decide) ⟨rfl, rfl, rfl⟩ rfl rfl ?_
        refine x_bipush 35 dX7_counted_82 (by decide) ?_
        refine x_iald 35 (q0 := 1) dX7_counted_84 (by decide) rfl (by decide) ?_
        cases h
        exact x_ireturn dX7_counted_85 rfl (x_is.rf _ _)
      · have h := x_neg c5 h
        by_cases c6 : x1 = (3 : Int32)
        · have h := x_pos c6 h
          refine x_tswEq (off := 85) (3 : Int32) 86 c6 dX7_counted_1 (by decide) (by decide) (by decide) (by decide) ?_
          refine x_aload_n dX7_counted_86 0 rfl rfl ?_
          refine x_get (ci := 5) 0 0 dX7_counted_87 fl_X7_7 inX7 rfl (by decide) ⟨rfl, rfl, rfl⟩ rfl rfl ?_
          refine x_bipush 84 dX7_counted_90 (by decide) ?_
          refine x_iald 84 (q0 := 1) dX7_counted_92 (by decide) rfl (by decide) ?_
          cases h
          exact x_ireturn dX7_counted_93 rfl (x_is.rf _ _)
        · have h := x_neg c6 h
          by_cases c7 : x1 = (4 : Int32)
          · have h := x_pos c7 h
            refine x_tswEq (off := 93) (4 : Int32) 94 c7 dX7_counted_1 (by decide) (by decide) (by decide) (by decide) ?_
            refine x_aload_n dX7_counted_94 0 rfl rfl ?_
            refine x_get (ci := 5) 0 0 dX7_counted_95 fl_X7_7 inX7 rfl (by decide) ⟨rfl, rfl, rfl⟩ rfl rfl ?_
            obtain ⟨r8, e9, h⟩ := x_bind h
            refine x_cS (As := [.ref (a 1)]) (wc := (WArr G (fun k => a (1 + k)) 85 now)) (w1 := (WArr G (fun k => a (1 + k)) 85 now)) (pre := ((WModel G a now kept isKept rows rowLong texts textLong found taken anew hand steps shares choices values latest askedIs above below place partedBy).take 1)) (post := ((WModel G a now kept isKept rows rowLong texts textLong found taken anew hand steps shares choices values latest askedIs above below place partedBy).drop 2)) (rest := []) (st1 := [.int r8]) (ws1 := (WModel G a now kept isKept rows rowLong texts textLong found taken anew hand steps shares choices values latest askedIs above below place partedBy)) dX7_counted_98 (c_X7_taut_85 (aq := (fun k => a (1 + k))) e9) pk_X7_taut ml_X7_167 rfl rfl rfl rfl rfl rfl rfl ?_
            cases h
            exact x_ireturn dX7_counted_101 rfl (x_is.rf _ _)
          · have h := x_neg c7 h
            by_cases c10 : x1 = (5 : Int32)
            · have h := x_pos c10 h
              refine x_tswEq (off := 101) (5 : Int32) 102 c10 dX7_counted_1 (by decide) (by decide) (by decide) (by decide) ?_
              refine x_aload_n dX7_counted_102 0 rfl rfl ?_
              refine x_get (ci := 5) 0 0 dX7_counted_103 fl_X7_7 inX7 rfl (by decide) ⟨rfl, rfl, rfl⟩ rfl rfl ?_
              refine x_bipush 82 dX7_counted_106 (by decide) ?_
              refine x_iald 82 (q0 := 1) dX7_counted_108 (by decide) rfl (by decide) ?_
              cases h
              exact x_ireturn dX7_counted_109 rfl (x_is.rf _ _)
            · have h := x_neg c10 h
              by_cases c11 : x1 = (6 : Int32)
              · have h := x_pos c11 h
                refine x_tswEq (off := 109) (6 : Int32) 110 c11 dX7_counted_1 (by decide) (by decide) (by decide) (by decide) ?_
                refine x_aload_n dX7_counted_110 0 rfl rfl ?_
                refine x_get (ci := 5) 0 0 dX7_counted_111 fl_X7_7 inX7 rfl (by decide) ⟨rfl, rfl, rfl⟩ rfl rfl ?_
                refine x_bipush 83 dX7_counted_114 (by decide) ?_
                refine x_iald 83 (q0 := 1) dX7_counted_116 (by decide) rfl (by decide) ?_
                cases h
                exact x_ireturn dX7_counted_117 rfl (x_is.rf _ _)
              · have h := x_neg c11 h
                by_cases c12 : x1 = (7 : Int32)
                · have h := x_pos c12 h
                  refine x_tswEq (off := 117) (7 : Int32) 118 c12 dX7_counted_1 (by decide) (by decide) (by decide) (by decide) ?_
                  refine x_aload_n dX7_counted_118 0 rfl rfl ?_
                  obtain ⟨r13, e14, h⟩ := x_bind h
                  refine x_cV (As := []) (wc := (WModel G a now kept isKept rows rowLong texts textLong found taken anew hand steps shares choices values latest askedIs above below place partedBy)) (w1 := (WModel G a now kept isKept rows rowLong texts textLong found taken anew hand steps shares choices values latest askedIs above below place partedBy)) (pre := []) (post := []) (rest := []) (st1 := [.int r13]) (ws1 := (WModel G a now kept isKept rows rowLong texts textLong found taken anew hand steps shares choices values latest askedIs above below place partedBy)) (ci := 5) 0 dX7_counted_119 (c_X7_allStrain (a := a) e14) pk_X7_allStrain ml_X7_260 (x_full _) rfl rfl rfl rfl rfl rfl rfl rfl (x_full _).symm ?_
                  cases h
                  exact x_ireturn dX7_counted_122 rfl (x_is.rf _ _)
                · have h := x_neg c12 h
                  by_cases c15 : x1 = (8 : Int32)
                  · have h := x_pos c15 h
                    refine x_tswEq (off := 122) (8 : Int32) 123 c15 dX7_counted_1 (by decide) (by decide) (by decide) (by decide) ?_
                    refine x_aload_n dX7_counted_123 0 rfl rfl ?_
                    refine x_iconst 1 dX7_counted_124 (by decide) ?_
                    obtain ⟨r16, e17, h⟩ := x_bind h
                    refine x_cV (As := [.int (1 : Int32)]) (wc := (WModel G a now kept isKept rows rowLong texts textLong found taken anew hand steps shares choices values latest askedIs above below place partedBy)) (w1 := (WModel G a now kept isKept rows rowLong texts textLong found taken anew hand steps shares choices values latest askedIs above below place partedBy)) (pre := []) (post := []) (rest := []) (st1 := [.int r16]) (ws1 := (WModel G a now kept isKept rows rowLong texts textLong found taken anew hand steps shares choices values latest askedIs above below place partedBy)) (ci := 5) 0 dX7_counted_125 (c_X7_manyOf (a := a) e17) pk_X7_manyOf ml_X7_264 (x_full _) rfl rfl rfl rfl rfl rfl rfl rfl (x_full _).symm ?_
                    cases h
                    exact x_ireturn dX7_counted_128 rfl (x_is.rf _ _)
                  · have h := x_neg c15 h
                    by_cases c18 : x1 = (9 : Int32)
                    · have h := x_pos c18 h
                      refine x_tswEq (off := 128) (9 : Int32) 129 c18 dX7_counted_1 (by decide) (by decide) (by decide) (by decide) ?_
                      refine x_aload_n dX7_counted_129 0 rfl rfl ?_
                      refine x_iconst 3 dX7_counted_130 (by decide) ?_
                      obtain ⟨r19, e20, h⟩ := x_bind h
                      refine x_cV (As := [.int (3 : Int32)]) (wc := (WModel G a now kept isKept rows rowLong texts textLong found taken anew hand steps shares choices values latest askedIs above below place partedBy)) (w1 := (WModel G a now kept isKept rows rowLong texts textLong found taken anew hand steps shares choices values latest askedIs above below place partedBy)) (pre := []) (post := []) (rest := []) (st1 := [.int r19]) (ws1 := (WModel G a now kept isKept rows rowLong texts textLong found taken anew hand steps shares choices values latest askedIs above below place partedBy)) (ci := 5) 0 dX7_counted_131 (c_X7_manyOf (a := a) e20) pk_X7_manyOf ml_X7_264 (x_full _) rfl rfl rfl rfl rfl rfl rfl rfl (x_full _).symm ?_
                      cases h
                      exact x_ireturn dX7_counted_134 rfl (x_is.rf _ _)
                    · have h := x_neg c18 h
                      by_cases c21 : x1 = (10 : Int32)
                      · have h := x_pos c21 h
                        refine x_tswEq (off := 134) (10 : Int32) 135 c21 dX7_counted_1 (by decide) (by decide) (by decide) (by decide) ?_
                        refine x_aload_n dX7_counted_135 0 rfl rfl ?_
                        refine x_get (ci := 5) 4 0 dX7_counted_136 fl_X7_23 inX7 rfl (by decide) ⟨rfl, rfl, rfl⟩ rfl rfl ?_
                        refine x_bipush 6 dX7_counted_139 (by decide) ?_
                        obtain ⟨r22, e23, h⟩ := x_bind h
                        refine x_cS (As := [.ref (a 5), .int (6 : Int32)]) (wc := (WArr G (fun k => a (5 + k)) 6 rowLong)) (w1 := (WArr G (fun k => a (5 + k)) 6 rowLong)) (pre := ((WModel G a now kept isKept rows rowLong texts textLong found taken anew hand steps shares choices values latest askedIs above below place partedBy).take 5)) (post := ((WModel G a now kept isKept rows rowLong texts textLong found taken anew hand steps shares choices values latest askedIs above below place partedBy).drop 6)) (rest := []) (st1 := [.int r22]) (ws1 := (WModel G a now kept isKept rows rowLong texts textLong found taken anew hand steps shares choices values latest askedIs above below place partedBy)) dX7_counted_141 (c_X7_manyThere_6 (aq := (fun k => a (5 + k))) e23) pk_X7_manyThere ml_X7_267 rfl rfl rfl rfl rfl rfl rfl ?_
                        cases h
                        exact x_ireturn dX7_counted_144 rfl (x_is.rf _ _)
                      · have h := x_neg c21 h
                        by_cases c24 : x1 = (11 : Int32)
                        · have h := x_pos c24 h
                          refine x_tswEq (off := 144) (11 : Int32) 145 c24 dX7_counted_1 (by decide) (by decide) (by decide) (by decide) ?_
                          refine x_aload_n dX7_counted_145 0 rfl rfl ?_
                          refine x_get (ci := 5) 6 0 dX7_counted_146 fl_X7_29 inX7 rfl (by decide) ⟨rfl, rfl, rfl⟩ rfl rfl ?_
                          refine x_iconst 4 dX7_counted_149 (by decide) ?_
                          obtain ⟨r25, e26, h⟩ := x_bind h
                          refine x_cS (As := [.ref (a 7), .int (4 : Int32)]) (wc := (WArr G (fun k => a (7 + k)) 4 textLong)) (w1 := (WArr G (fun k => a (7 + k)) 4 textLong)) (pre := ((WModel G a now kept isKept rows rowLong texts textLong found taken anew hand steps shares choices values latest askedIs above below place partedBy).take 7)) (post := ((WModel G a now kept isKept rows rowLong texts textLong found taken anew hand steps shares choices values latest askedIs above below place partedBy).drop 8)) (rest := []) (st1 := [.int r25]) (ws1 := (WModel G a now kept isKept rows rowLong texts textLong found taken anew hand steps shares choices values latest askedIs above below place partedBy)) dX7_counted_150 (c_X7_manyThere_4 (aq := (fun k => a (7 + k))) e26) pk_X7_manyThere ml_X7_267 rfl rfl rfl rfl rfl rfl rfl ?_
                          cases h
                          exact x_ireturn dX7_counted_153 rfl (x_is.rf _ _)
                        · have h := x_neg c24 h
                          refine x_tswOut 154 dX7_counted_1 (by have q0 := lv_neT c3 (a := 0) (by decide); have q1 := lv_neT c4 (a := 1) (by decide); have q2 := lv_neT c5 (a := 2) (by decide); have q3 := lv_neT c6 (a := 3) (by decide); have q4 := lv_neT c7 (a := 4) (by decide); have q5 := lv_neT c10 (a := 5) (by decide); have q6 := lv_neT c11 (a := 6) (by decide); have q7 := lv_neT c12 (a := 7) (by decide); have q8 := lv_neT c15 (a := 8) (by decide); have q9 := lv_neT c18 (a := 9) (by decide); have q10 := lv_neT c21 (a := 10) (by decide); have q11 := lv_neT c24 (a := 11) (by decide); omega) (by decide) ?_
                          refine x_aload_n dX7_counted_154 0 rfl rfl ?_
                          refine x_get (ci := 5) 2 0 dX7_counted_155 fl_X7_16 inX7 rfl (by decide) ⟨rfl, rfl, rfl⟩ rfl rfl ?_
                          refine x_iconst 0 dX7_counted_158 (by decide) ?_
                          refine x_zald 0 (q0 := 3) dX7_counted_159 (by decide) rfl (by decide) ?_
                          refine x_if_eq 167 dX7_counted_160 (by decide) (fun c27 => ?_) (fun c27 => ?_)
                          · have h := x_pos c27 h
                            refine x_iconst 0 dX7_counted_167 (by decide) ?_
                            refine x_lv [0] rfl ?_
                            exact w_X7_counted_b168  _ h
                          · have h := x_neg c27 h
                            refine x_iconst 1 dX7_counted_163 (by decide) ?_
                            refine x_goto 168 dX7_counted_164 (by decide) ?_
                            refine x_lv [0] rfl ?_
                            exact w_X7_counted_b168  _ h
theorem pk_X7_count : x_pv RX7 yX7_count cX7_count 2 (some .int) 1 := ⟨⟨co_X7_count, ni_X7, by decide, by decide +kernel⟩, im_X7_count, se_X7_count⟩
def M_X7_count (now : (Nat → Int32)) (isKept : (Nat → Int32)) (rowLong : (Nat → Int32)) (textLong : (Nat → Int32)) (x1 : Int32) : Option (Int32) :=
  if (M_X7_in x1.toInt64 (0 : Int64) (12 : Int64)) = 0 then
  (some (-1 : Int32))
  else
  ((M_X7_counted now isKept rowLong textLong x1).bind fun r2 =>
  some (r2))
set_option maxHeartbeats 4000000 in
set_option maxRecDepth 100000 in
theorem c_X7_count {G : x_G} {l : Launch} {a : Nat → Nat} {now : (Nat → Int32)} {isKept : (Nat → Int32)} {rowLong : (Nat → Int32)} {textLong : (Nat → Int32)} {kept : (Nat → Int32)} {rows : (Nat → Int32)} {texts : (Nat → Int32)} {found : (Nat → Int32)} {taken : (Nat → Int32)} {anew : (Nat → Int32)} {hand : (Nat → Int32)} {steps : (Nat → Int32)} {shares : (Nat → Int32)} {choices : (Nat → Int32)} {values : (Nat → Int32)} {latest : Int32} {askedIs : Int32} {above : Int64} {below : Int64} {place : Int32} {partedBy : Int32} {x1 : Int32} {res : Int32} (h : M_X7_count now isKept rowLong textLong x1 = some res) : x_M G l yX7_count cX7_count 2 (some .int) (3) 0 0 [.ref (a 0), .int x1] (WModel G a now kept isKept rows rowLong texts textLong found taken anew hand steps shares choices values latest askedIs above below place partedBy) (x_is (some (.int res)) (WModel G a now kept isKept rows rowLong texts textLong found taken anew hand steps shares choices values latest askedIs above below place partedBy)) := by
  unfold M_X7_count at h
  refine x_enter (ini := false) (by decide) rfl (by decide) rfl (Nat.le_of_ble_eq_true rfl) ?_
  refine x_iload_n dX7_count_0 1 rfl rfl ?_
  refine x_i2l dX7_count_1 ?_
  refine x_lconst 0 dX7_count_2 (by decide) ?_
  refine x_ldc2 dX7_count_3 kl_X7_233 ?_
  refine x_cS (As := [.long x1.toInt64, .long (0 : Int64), .long (12 : Int64)]) (wc := ([] : va_W)) (w1 := ([] : va_W)) (pre := []) (post := (WModel G a now kept isKept rows rowLong texts textLong found taken anew hand steps shares choices values latest askedIs above below place partedBy)) (rest := []) (st1 := [.int (M_X7_in x1.toInt64 (0 : Int64) (12 : Int64))]) (ws1 := (WModel G a now kept isKept rows rowLong texts textLong found taken anew hand steps shares choices values latest askedIs above below place partedBy)) dX7_count_6 (c_X7_in rfl) pk_X7_in ml_X7_69 rfl rfl rfl rfl rfl rfl rfl ?_
  refine x_if_eq 20 dX7_count_9 (by decide) (fun c1 => ?_) (fun c1 => ?_)
  · have h := x_pos c1 h
    refine x_iconst (-1 : Int32) dX7_count_20 (by decide) ?_
    cases h
    exact x_ireturn dX7_count_21 rfl (x_is.rf _ _)
  · have h := x_neg c1 h
    refine x_aload_n dX7_count_12 0 rfl rfl ?_
    refine x_iload_n dX7_count_13 1 rfl rfl ?_
    obtain ⟨r2, e3, h⟩ := x_bind h
    refine x_cV (As := [.int x1]) (wc := (WModel G a now kept isKept rows rowLong texts textLong found taken anew hand steps shares choices values latest askedIs above below place partedBy)) (w1 := (WModel G a now kept isKept rows rowLong texts textLong found taken anew hand steps shares choices values latest askedIs above below place partedBy)) (pre := []) (post := []) (rest := []) (st1 := [.int r2]) (ws1 := (WModel G a now kept isKept rows rowLong texts textLong found taken anew hand steps shares choices values latest askedIs above below place partedBy)) (ci := 5) 0 dX7_count_14 (c_X7_counted (a := a) e3) pk_X7_counted ml_X7_270 (x_full _) rfl rfl rfl rfl rfl rfl rfl rfl (x_full _).symm ?_
    refine x_goto 21 dX7_count_17 (by decide) ?_
    cases h
    exact x_ireturn dX7_count_21 rfl (x_is.rf _ _)
theorem pk_X7_finding : x_pv RX7 yX7_finding cX7_finding 1 (some .int) 0 := ⟨⟨co_X7_finding, ni_X7, by decide, by decide +kernel⟩, im_X7_finding, se_X7_finding⟩
def M_X7_finding (latest : Int32) : Int32 :=
  latest
set_option maxHeartbeats 4000000 in
set_option maxRecDepth 100000 in
theorem c_X7_finding {G : x_G} {l : Launch} {a : Nat → Nat} {latest : Int32} {now : (Nat → Int32)} {kept : (Nat → Int32)} {isKept : (Nat → Int32)} {rows : (Nat → Int32)} {rowLong : (Nat → Int32)} {texts : (Nat → Int32)} {textLong : (Nat → Int32)} {found : (Nat → Int32)} {taken : (Nat → Int32)} {anew : (Nat → Int32)} {hand : (Nat → Int32)} {steps : (Nat → Int32)} {shares : (Nat → Int32)} {choices : (Nat → Int32)} {values : (Nat → Int32)} {askedIs : Int32} {above : Int64} {below : Int64} {place : Int32} {partedBy : Int32} {res : Int32} (h : M_X7_finding latest = res) : x_M G l yX7_finding cX7_finding 1 (some .int) (0) 0 0 [.ref (a 0)] (WModel G a now kept isKept rows rowLong texts textLong found taken anew hand steps shares choices values latest askedIs above below place partedBy) (x_is (some (.int res)) (WModel G a now kept isKept rows rowLong texts textLong found taken anew hand steps shares choices values latest askedIs above below place partedBy)) := by
  unfold M_X7_finding at h
  refine x_enter (ini := false) (by decide) rfl (by decide) rfl (Nat.le_of_ble_eq_true rfl) ?_
  refine x_aload_n dX7_finding_0 0 rfl rfl ?_
  refine x_get (ci := 5) 8 0 dX7_finding_1 fl_X7_60 inX7 rfl (by decide) ⟨rfl, rfl, rfl⟩ rfl rfl ?_
  subst h
  exact x_ireturn dX7_finding_4 rfl (x_is.rf _ _)
theorem pk_X7_findings : x_pv RX7 yX7_findings cX7_findings 2 (some .int) 1 := ⟨⟨co_X7_findings, ni_X7, by decide, by decide +kernel⟩, im_X7_findings, se_X7_findings⟩
def M_X7_findings (found : (Nat → Int32)) (x1 : Int32) : Option (Int32) :=
  if (M_X7_in x1.toInt64 (1 : Int64) (5 : Int64)) = 0 then
  (some (-1 : Int32))
  else
  (if inb x1 6 then
  some (found x1.toNatClampNeg)
  else none)
set_option maxHeartbeats 4000000 in
set_option maxRecDepth 100000 in
theorem c_X7_findings {G : x_G} {l : Launch} {a : Nat → Nat} {found : (Nat → Int32)} {now : (Nat → Int32)} {kept : (Nat → Int32)} {isKept : (Nat → Int32)} {rows : (Nat → Int32)} {rowLong : (Nat → Int32)} {texts : (Nat → Int32)} {textLong : (Nat → Int32)} {taken : (Nat → Int32)} {anew : (Nat → Int32)} {hand : (Nat → Int32)} {steps : (Nat → Int32)} {shares : (Nat → Int32)} {choices : (Nat → Int32)} {values : (Nat → Int32)} {latest : Int32} {askedIs : Int32} {above : Int64} {below : Int64} {place : Int32} {partedBy : Int32} {x1 : Int32} {res : Int32} (h : M_X7_findings found x1 = some res) : x_M G l yX7_findings cX7_findings 2 (some .int) (1) 0 0 [.ref (a 0), .int x1] (WModel G a now kept isKept rows rowLong texts textLong found taken anew hand steps shares choices values latest askedIs above below place partedBy) (x_is (some (.int res)) (WModel G a now kept isKept rows rowLong texts textLong found taken anew hand steps shares choices values latest askedIs above below place partedBy)) := by
  unfold M_X7_findings at h
  refine x_enter (ini := false) (by decide) rfl (by decide) rfl (Nat.le_of_ble_eq_true rfl) ?_
  refine x_iload_n dX7_findings_0 1 rfl rfl ?_
  refine x_i2l dX7_findings_1 ?_
  refine x_lconst 1 dX7_findings_2 (by decide) ?_
  refine x_ldc2 dX7_findings_3 kl_X7_67 ?_
  refine x_cS (As := [.long x1.toInt64, .long (1 : Int64), .long (5 : Int64)]) (wc := ([] : va_W)) (w1 := ([] : va_W)) (pre := []) (post := (WModel G a now kept isKept rows rowLong texts textLong found taken anew hand steps shares choices values latest askedIs above below place partedBy)) (rest := []) (st1 := [.int (M_X7_in x1.toInt64 (1 : Int64) (5 : Int64))]) (ws1 := (WModel G a now kept isKept rows rowLong texts textLong found taken anew hand steps shares choices values latest askedIs above below place partedBy)) dX7_findings_6 (c_X7_in rfl) pk_X7_in ml_X7_69 rfl rfl rfl rfl rfl rfl rfl ?_
  refine x_if_eq 21 dX7_findings_9 (by decide) (fun c1 => ?_) (fun c1 => ?_)
  · have h := x_pos c1 h
    refine x_iconst (-1 : Int32) dX7_findings_21 (by decide) ?_
    cases h
    exact x_ireturn dX7_findings_22 rfl (x_is.rf _ _)
  · have h := x_neg c1 h
    refine x_aload_n dX7_findings_12 0 rfl rfl ?_
    refine x_get (ci := 5) 7 0 dX7_findings_13 fl_X7_32 inX7 rfl (by decide) ⟨rfl, rfl, rfl⟩ rfl rfl ?_
    refine x_iload_n dX7_findings_16 1 rfl rfl ?_
    obtain ⟨b2, h⟩ := x_guard h
    refine x_iald x1.toNatClampNeg (q0 := 8) dX7_findings_17 rfl rfl b2 ?_
    refine x_goto 22 dX7_findings_18 (by decide) ?_
    cases h
    exact x_ireturn dX7_findings_22 rfl (x_is.rf _ _)
theorem pk_X7_digest : x_pv RX7 yX7_digest cX7_digest 6 (some .long) 0 := ⟨⟨co_X7_digest, ni_X7, by decide, by decide +kernel⟩, im_X7_digest, se_X7_digest⟩
def M_X7_digest_b46 (now : (Nat → Int32)) (kept : (Nat → Int32)) (isKept : (Nat → Int32)) (rows : (Nat → Int32)) (rowLong : (Nat → Int32)) (texts : (Nat → Int32)) (textLong : (Nat → Int32)) (k33 : Int64 → Int32 → Option (Int64)) : Nat → Int64 → Int32 → Int32 → Option (Int64)
  | 0, _, _, _ => none
  | n + 1, x1, x3, x4 =>
    if (6 : Int32) ≤ x4 then
    (k33 x1 (x3 + (1 : Int32)))
    else
    ((M_X7_toldOf now x3 x4).bind fun r10 =>
    M_X7_digest_b46 now kept isKept rows rowLong texts textLong k33 n (((31 : Int64) * x1) + r10.toInt64) x3 (x4 + (1 : Int32)))
set_option maxHeartbeats 4000000 in
set_option maxRecDepth 100000 in
theorem w_X7_digest_b46 {G : x_G} {l : Launch} {a : Nat → Nat} {now : (Nat → Int32)} {kept : (Nat → Int32)} {isKept : (Nat → Int32)} {rows : (Nat → Int32)} {rowLong : (Nat → Int32)} {texts : (Nat → Int32)} {textLong : (Nat → Int32)} {found : (Nat → Int32)} {taken : (Nat → Int32)} {anew : (Nat → Int32)} {hand : (Nat → Int32)} {steps : (Nat → Int32)} {shares : (Nat → Int32)} {choices : (Nat → Int32)} {values : (Nat → Int32)} {latest : Int32} {askedIs : Int32} {above : Int64} {below : Int64} {place : Int32} {partedBy : Int32} {k33 : Int64 → Int32 → Option (Int64)} {res : Int64} (hk33 : ∀ (x1 : Int64) (x3 : Int32), k33 x1 x3 = some res → X G l RX7 cX7_digest 6 (x_R 3 0 0) (x_Cm G (some .long) false (x_is (some (.long res)) (WModel G a now kept isKept rows rowLong texts textLong found taken anew hand steps shares choices values latest askedIs above below place partedBy)) 0 0) 0 0 33 [(0, .ref (a 0)), (1, .long x1), (3, .int x3)] [] (WModel G a now kept isKept rows rowLong texts textLong found taken anew hand steps shares choices values latest askedIs above below place partedBy)) : ∀ (n : Nat) (x1 : Int64) (x3 : Int32) (x4 : Int32), M_X7_digest_b46 now kept isKept rows rowLong texts textLong k33 n x1 x3 x4 = some res → X G l RX7 cX7_digest 6 (x_R 3 0 0) (x_Cm G (some .long) false (x_is (some (.long res)) (WModel G a now kept isKept rows rowLong texts textLong found taken anew hand steps shares choices values latest askedIs above below place partedBy)) 0 0) 0 0 46 [(0, .ref (a 0)), (1, .long x1), (3, .int x3), (4, .int x4)] [] (WModel G a now kept isKept rows rowLong texts textLong found taken anew hand steps shares choices values latest askedIs above below place partedBy) := by
  intro n
  induction n with
  | zero =>
    intro _ _ _ h
    cases h
  | succ n ih =>
    intro x1 x3 x4 h
    rw [M_X7_digest_b46] at h
    refine x_iload dX7_digest_46 3 rfl ?_
    refine x_bipush 6 dX7_digest_48 (by decide) ?_
    refine x_icmp_ge 74 dX7_digest_50 (by decide) (fun c9 => ?_) (fun c9 => ?_)
    · have h := x_pos c9 h
      refine x_iinc (j := 2) (1 : Int32) [(3, .int (x3 + (1 : Int32))), (0, .ref (a 0)), (1, .long x1), (4, .int x4)] dX7_digest_74 (by decide) rfl (by decide) rfl ?_
      refine x_goto 33 dX7_digest_77 (by decide) ?_
      refine x_lv [1, 2, 0] rfl ?_
      exact hk33 _ _ h
    · have h := x_neg c9 h
      refine x_ldc2 dX7_digest_53 kl_X7_275 ?_
      refine x_lload_n dX7_digest_56 1 rfl rfl ?_
      refine x_lmul dX7_digest_57 ?_
      refine x_aload_n dX7_digest_58 0 rfl rfl ?_
      refine x_iload_n dX7_digest_59 2 rfl rfl ?_
      refine x_iload dX7_digest_60 3 rfl ?_
      obtain ⟨r10, e11, h⟩ := x_bind h
      refine x_cV (As := [.int x3, .int x4]) (wc := (WModel G a now kept isKept rows rowLong texts textLong found taken anew hand steps shares choices values latest askedIs above below place partedBy)) (w1 := (WModel G a now kept isKept rows rowLong texts textLong found taken anew hand steps shares choices values latest askedIs above below place partedBy)) (pre := []) (post := []) (rest := [.long ((31 : Int64) * x1)]) (st1 := [.int r10, .long ((31 : Int64) * x1)]) (ws1 := (WModel G a now kept isKept rows rowLong texts textLong found taken anew hand steps shares choices values latest askedIs above below place partedBy)) (ci := 5) 0 dX7_digest_62 (c_X7_toldOf (a := a) e11) pk_X7_toldOf ml_X7_158 (x_full _) rfl rfl rfl rfl rfl rfl rfl rfl (x_full _).symm ?_
      refine x_i2l dX7_digest_65 ?_
      refine x_ladd dX7_digest_66 ?_
      refine x_lstore_n [(1, .long (((31 : Int64) * x1) + r10.toInt64)), (0, .ref (a 0)), (3, .int x3), (4, .int x4)] dX7_digest_67 rfl (by decide) rfl ?_
      refine x_iinc (j := 3) (1 : Int32) [(4, .int (x4 + (1 : Int32))), (1, .long (((31 : Int64) * x1) + r10.toInt64)), (0, .ref (a 0)), (3, .int x3)] dX7_digest_68 (by decide) rfl (by decide) rfl ?_
      refine x_goto 46 dX7_digest_71 (by decide) ?_
      refine x_lv [2, 1, 3, 0] rfl ?_
      exact ih _ _ _ h
def M_X7_digest_b170 (now : (Nat → Int32)) (kept : (Nat → Int32)) (isKept : (Nat → Int32)) (rows : (Nat → Int32)) (rowLong : (Nat → Int32)) (texts : (Nat → Int32)) (textLong : (Nat → Int32)) (k132 : Int64 → Int32 → Option (Int64)) (x4 : Int32) (s0 : Int64) (s1 : Int32) : Option (Int64) :=
  k132 (s0 + s1.toInt64) (x4 + (1 : Int32))
set_option maxHeartbeats 4000000 in
set_option maxRecDepth 100000 in
theorem w_X7_digest_b170 {G : x_G} {l : Launch} {a : Nat → Nat} {now : (Nat → Int32)} {kept : (Nat → Int32)} {isKept : (Nat → Int32)} {rows : (Nat → Int32)} {rowLong : (Nat → Int32)} {texts : (Nat → Int32)} {textLong : (Nat → Int32)} {found : (Nat → Int32)} {taken : (Nat → Int32)} {anew : (Nat → Int32)} {hand : (Nat → Int32)} {steps : (Nat → Int32)} {shares : (Nat → Int32)} {choices : (Nat → Int32)} {values : (Nat → Int32)} {latest : Int32} {askedIs : Int32} {above : Int64} {below : Int64} {place : Int32} {partedBy : Int32} {k132 : Int64 → Int32 → Option (Int64)} {res : Int64} (hk132 : ∀ (x1 : Int64) (x4 : Int32), k132 x1 x4 = some res → X G l RX7 cX7_digest 6 (x_R 3 0 0) (x_Cm G (some .long) false (x_is (some (.long res)) (WModel G a now kept isKept rows rowLong texts textLong found taken anew hand steps shares choices values latest askedIs above below place partedBy)) 0 0) 0 0 132 [(0, .ref (a 0)), (1, .long x1), (4, .int x4)] [] (WModel G a now kept isKept rows rowLong texts textLong found taken anew hand steps shares choices values latest askedIs above below place partedBy)) (x4 : Int32) (s0 : Int64) (s1 : Int32) (h : M_X7_digest_b170 now kept isKept rows rowLong texts textLong k132 x4 s0 s1 = some res) : X G l RX7 cX7_digest 6 (x_R 3 0 0) (x_Cm G (some .long) false (x_is (some (.long res)) (WModel G a now kept isKept rows rowLong texts textLong found taken anew hand steps shares choices values latest askedIs above below place partedBy)) 0 0) 0 0 170 [(0, .ref (a 0)), (4, .int x4)] [.int s1, .long s0] (WModel G a now kept isKept rows rowLong texts textLong found taken anew hand steps shares choices values latest askedIs above below place partedBy) := by
  unfold M_X7_digest_b170 at h
  refine x_i2l dX7_digest_170 ?_
  refine x_ladd dX7_digest_171 ?_
  refine x_lstore_n [(1, .long (s0 + s1.toInt64)), (0, .ref (a 0)), (4, .int x4)] dX7_digest_172 rfl (by decide) rfl ?_
  refine x_iinc (j := 2) (1 : Int32) [(4, .int (x4 + (1 : Int32))), (1, .long (s0 + s1.toInt64)), (0, .ref (a 0))] dX7_digest_173 (by decide) rfl (by decide) rfl ?_
  refine x_goto 132 dX7_digest_176 (by decide) ?_
  refine x_lv [2, 1, 0] rfl ?_
  exact hk132 _ _ h
def M_X7_digest_b207 (now : (Nat → Int32)) (kept : (Nat → Int32)) (isKept : (Nat → Int32)) (rows : (Nat → Int32)) (rowLong : (Nat → Int32)) (texts : (Nat → Int32)) (textLong : (Nat → Int32)) (k182 : Int64 → Int32 → Option (Int64)) : Nat → Int64 → Int32 → Int32 → Option (Int64)
  | 0, _, _, _ => none
  | n + 1, x1, x4, x5 =>
    if inb x4 6 then
    if (rowLong x4.toNatClampNeg) ≤ x5 then
    (k182 x1 (x4 + (1 : Int32)))
    else
    (if inb (((40 : Int32) * x4) + x5) 240 then
    M_X7_digest_b207 now kept isKept rows rowLong texts textLong k182 n (((31 : Int64) * x1) + (rows (((40 : Int32) * x4) + x5).toNatClampNeg).toInt64) x4 (x5 + (1 : Int32))
    else none)
    else none
set_option maxHeartbeats 4000000 in
set_option maxRecDepth 100000 in
theorem w_X7_digest_b207 {G : x_G} {l : Launch} {a : Nat → Nat} {now : (Nat → Int32)} {kept : (Nat → Int32)} {isKept : (Nat → Int32)} {rows : (Nat → Int32)} {rowLong : (Nat → Int32)} {texts : (Nat → Int32)} {textLong : (Nat → Int32)} {found : (Nat → Int32)} {taken : (Nat → Int32)} {anew : (Nat → Int32)} {hand : (Nat → Int32)} {steps : (Nat → Int32)} {shares : (Nat → Int32)} {choices : (Nat → Int32)} {values : (Nat → Int32)} {latest : Int32} {askedIs : Int32} {above : Int64} {below : Int64} {place : Int32} {partedBy : Int32} {k182 : Int64 → Int32 → Option (Int64)} {res : Int64} (hk182 : ∀ (x1 : Int64) (x4 : Int32), k182 x1 x4 = some res → X G l RX7 cX7_digest 6 (x_R 3 0 0) (x_Cm G (some .long) false (x_is (some (.long res)) (WModel G a now kept isKept rows rowLong texts textLong found taken anew hand steps shares choices values latest askedIs above below place partedBy)) 0 0) 0 0 182 [(0, .ref (a 0)), (1, .long x1), (4, .int x4)] [] (WModel G a now kept isKept rows rowLong texts textLong found taken anew hand steps shares choices values latest askedIs above below place partedBy)) : ∀ (n : Nat) (x1 : Int64) (x4 : Int32) (x5 : Int32), M_X7_digest_b207 now kept isKept rows rowLong texts textLong k182 n x1 x4 x5 = some res → X G l RX7 cX7_digest 6 (x_R 3 0 0) (x_Cm G (some .long) false (x_is (some (.long res)) (WModel G a now kept isKept rows rowLong texts textLong found taken anew hand steps shares choices values latest askedIs above below place partedBy)) 0 0) 0 0 207 [(0, .ref (a 0)), (1, .long x1), (4, .int x4), (5, .int x5)] [] (WModel G a now kept isKept rows rowLong texts textLong found taken anew hand steps shares choices values latest askedIs above below place partedBy) := by
  intro n
  induction n with
  | zero =>
    intro _ _ _ h
    cases h
  | succ n ih =>
    intro x1 x4 x5 h
    rw [M_X7_digest_b207] at h
    refine x_iload dX7_digest_207 3 rfl ?_
    refine x_aload_n dX7_digest_209 0 rfl rfl ?_
    refine x_get (ci := 5) 4 0 dX7_digest_210 fl_X7_23 inX7 rfl (by decide) ⟨rfl, rfl, rfl⟩ rfl rfl ?_
    refine x_iload dX7_digest_213 2 rfl ?_
    obtain ⟨b19, h⟩ := x_guard h
    refine x_iald x4.toNatClampNeg (q0 := 5) dX7_digest_215 rfl rfl b19 ?_
    refine x_icmp_ge 246 dX7_digest_216 (by decide) (fun c20 => ?_) (fun c20 => ?_)
    · have h := x_pos c20 h
      refine x_iinc (j := 2) (1 : Int32) [(4, .int (x4 + (1 : Int32))), (0, .ref (a 0)), (1, .long x1), (5, .int x5)] dX7_digest_246 (by decide) rfl (by decide) rfl ?_
      refine x_goto 182 dX7_digest_249 (by decide) ?_
      refine x_lv [1, 2, 0] rfl ?_
      exact hk182 _ _ h
    · have h := x_neg c20 h
      refine x_ldc2 dX7_digest_219 kl_X7_275 ?_
      refine x_lload_n dX7_digest_222 1 rfl rfl ?_
      refine x_lmul dX7_digest_223 ?_
      refine x_aload_n dX7_digest_224 0 rfl rfl ?_
      refine x_get (ci := 5) 3 0 dX7_digest_225 fl_X7_20 inX7 rfl (by decide) ⟨rfl, rfl, rfl⟩ rfl rfl ?_
      refine x_bipush 40 dX7_digest_228 (by decide) ?_
      refine x_iload dX7_digest_230 2 rfl ?_
      refine x_imul dX7_digest_232 ?_
      refine x_iload dX7_digest_233 3 rfl ?_
      refine x_iadd dX7_digest_235 ?_
      obtain ⟨b21, h⟩ := x_guard h
      refine x_iald (((40 : Int32) * x4) + x5).toNatClampNeg (q0 := 4) dX7_digest_236 rfl rfl b21 ?_
      refine x_i2l dX7_digest_237 ?_
      refine x_ladd dX7_digest_238 ?_
      refine x_lstore_n [(1, .long (((31 : Int64) * x1) + (rows (((40 : Int32) * x4) + x5).toNatClampNeg).toInt64)), (0, .ref (a 0)), (4, .int x4), (5, .int x5)] dX7_digest_239 rfl (by decide) rfl ?_
      refine x_iinc (j := 3) (1 : Int32) [(5, .int (x5 + (1 : Int32))), (1, .long (((31 : Int64) * x1) + (rows (((40 : Int32) * x4) + x5).toNatClampNeg).toInt64)), (0, .ref (a 0)), (4, .int x4)] dX7_digest_240 (by decide) rfl (by decide) rfl ?_
      refine x_goto 207 dX7_digest_243 (by decide) ?_
      refine x_lv [2, 1, 3, 0] rfl ?_
      exact ih _ _ _ h
def M_X7_digest_b279 (now : (Nat → Int32)) (kept : (Nat → Int32)) (isKept : (Nat → Int32)) (rows : (Nat → Int32)) (rowLong : (Nat → Int32)) (texts : (Nat → Int32)) (textLong : (Nat → Int32)) (k255 : Int64 → Int32 → Option (Int64)) : Nat → Int64 → Int32 → Int32 → Option (Int64)
  | 0, _, _, _ => none
  | n + 1, x1, x4, x5 =>
    if inb x4 4 then
    if (textLong x4.toNatClampNeg) ≤ x5 then
    (k255 x1 (x4 + (1 : Int32)))
    else
    (if inb (((60 : Int32) * x4) + x5) 240 then
    M_X7_digest_b279 now kept isKept rows rowLong texts textLong k255 n (((31 : Int64) * x1) + (texts (((60 : Int32) * x4) + x5).toNatClampNeg).toInt64) x4 (x5 + (1 : Int32))
    else none)
    else none
set_option maxHeartbeats 4000000 in
set_option maxRecDepth 100000 in
theorem w_X7_digest_b279 {G : x_G} {l : Launch} {a : Nat → Nat} {now : (Nat → Int32)} {kept : (Nat → Int32)} {isKept : (Nat → Int32)} {rows : (Nat → Int32)} {rowLong : (Nat → Int32)} {texts : (Nat → Int32)} {textLong : (Nat → Int32)} {found : (Nat → Int32)} {taken : (Nat → Int32)} {anew : (Nat → Int32)} {hand : (Nat → Int32)} {steps : (Nat → Int32)} {shares : (Nat → Int32)} {choices : (Nat → Int32)} {values : (Nat → Int32)} {latest : Int32} {askedIs : Int32} {above : Int64} {below : Int64} {place : Int32} {partedBy : Int32} {k255 : Int64 → Int32 → Option (Int64)} {res : Int64} (hk255 : ∀ (x1 : Int64) (x4 : Int32), k255 x1 x4 = some res → X G l RX7 cX7_digest 6 (x_R 3 0 0) (x_Cm G (some .long) false (x_is (some (.long res)) (WModel G a now kept isKept rows rowLong texts textLong found taken anew hand steps shares choices values latest askedIs above below place partedBy)) 0 0) 0 0 255 [(0, .ref (a 0)), (1, .long x1), (4, .int x4)] [] (WModel G a now kept isKept rows rowLong texts textLong found taken anew hand steps shares choices values latest askedIs above below place partedBy)) : ∀ (n : Nat) (x1 : Int64) (x4 : Int32) (x5 : Int32), M_X7_digest_b279 now kept isKept rows rowLong texts textLong k255 n x1 x4 x5 = some res → X G l RX7 cX7_digest 6 (x_R 3 0 0) (x_Cm G (some .long) false (x_is (some (.long res)) (WModel G a now kept isKept rows rowLong texts textLong found taken anew hand steps shares choices values latest askedIs above below place partedBy)) 0 0) 0 0 279 [(0, .ref (a 0)), (1, .long x1), (4, .int x4), (5, .int x5)] [] (WModel G a now kept isKept rows rowLong texts textLong found taken anew hand steps shares choices values latest askedIs above below place partedBy) := by
  intro n
  induction n with
  | zero =>
    intro _ _ _ h
    cases h
  | succ n ih =>
    intro x1 x4 x5 h
    rw [M_X7_digest_b279] at h
    refine x_iload dX7_digest_279 3 rfl ?_
    refine x_aload_n dX7_digest_281 0 rfl rfl ?_
    refine x_get (ci := 5) 6 0 dX7_digest_282 fl_X7_29 inX7 rfl (by decide) ⟨rfl, rfl, rfl⟩ rfl rfl ?_
    refine x_iload dX7_digest_285 2 rfl ?_
    obtain ⟨b24, h⟩ := x_guard h
    refine x_iald x4.toNatClampNeg (q0 := 7) dX7_digest_287 rfl rfl b24 ?_
    refine x_icmp_ge 318 dX7_digest_288 (by decide) (fun c25 => ?_) (fun c25 => ?_)
    · have h := x_pos c25 h
      refine x_iinc (j := 2) (1 : Int32) [(4, .int (x4 + (1 : Int32))), (0, .ref (a 0)), (1, .long x1), (5, .int x5)] dX7_digest_318 (by decide) rfl (by decide) rfl ?_
      refine x_goto 255 dX7_digest_321 (by decide) ?_
      refine x_lv [1, 2, 0] rfl ?_
      exact hk255 _ _ h
    · have h := x_neg c25 h
      refine x_ldc2 dX7_digest_291 kl_X7_275 ?_
      refine x_lload_n dX7_digest_294 1 rfl rfl ?_
      refine x_lmul dX7_digest_295 ?_
      refine x_aload_n dX7_digest_296 0 rfl rfl ?_
      refine x_get (ci := 5) 5 0 dX7_digest_297 fl_X7_26 inX7 rfl (by decide) ⟨rfl, rfl, rfl⟩ rfl rfl ?_
      refine x_bipush 60 dX7_digest_300 (by decide) ?_
      refine x_iload dX7_digest_302 2 rfl ?_
      refine x_imul dX7_digest_304 ?_
      refine x_iload dX7_digest_305 3 rfl ?_
      refine x_iadd dX7_digest_307 ?_
      obtain ⟨b26, h⟩ := x_guard h
      refine x_iald (((60 : Int32) * x4) + x5).toNatClampNeg (q0 := 6) dX7_digest_308 rfl rfl b26 ?_
      refine x_i2l dX7_digest_309 ?_
      refine x_ladd dX7_digest_310 ?_
      refine x_lstore_n [(1, .long (((31 : Int64) * x1) + (texts (((60 : Int32) * x4) + x5).toNatClampNeg).toInt64)), (0, .ref (a 0)), (4, .int x4), (5, .int x5)] dX7_digest_311 rfl (by decide) rfl ?_
      refine x_iinc (j := 3) (1 : Int32) [(5, .int (x5 + (1 : Int32))), (1, .long (((31 : Int64) * x1) + (texts (((60 : Int32) * x4) + x5).toNatClampNeg).toInt64)), (0, .ref (a 0)), (4, .int x4)] dX7_digest_312 (by decide) rfl (by decide) rfl ?_
      refine x_goto 279 dX7_digest_315 (by decide) ?_
      refine x_lv [2, 1, 3, 0] rfl ?_
      exact ih _ _ _ h
def M_X7_digest_b255 (now : (Nat → Int32)) (kept : (Nat → Int32)) (isKept : (Nat → Int32)) (rows : (Nat → Int32)) (rowLong : (Nat → Int32)) (texts : (Nat → Int32)) (textLong : (Nat → Int32)) : Nat → Int64 → Int32 → Option (Int64)
  | 0, _, _ => none
  | n + 1, x1, x4 =>
    if (4 : Int32) ≤ x4 then
    (some (x1))
    else
    (if inb x4 4 then
    M_X7_digest_b279 now kept isKept rows rowLong texts textLong (fun (x1' : Int64) (x4' : Int32) => M_X7_digest_b255 now kept isKept rows rowLong texts textLong n x1' x4') x_fuel (((31 : Int64) * x1) + (textLong x4.toNatClampNeg).toInt64) x4 (0 : Int32)
    else none)
set_option maxHeartbeats 4000000 in
set_option maxRecDepth 100000 in
theorem w_X7_digest_b255 {G : x_G} {l : Launch} {a : Nat → Nat} {now : (Nat → Int32)} {kept : (Nat → Int32)} {isKept : (Nat → Int32)} {rows : (Nat → Int32)} {rowLong : (Nat → Int32)} {texts : (Nat → Int32)} {textLong : (Nat → Int32)} {found : (Nat → Int32)} {taken : (Nat → Int32)} {anew : (Nat → Int32)} {hand : (Nat → Int32)} {steps : (Nat → Int32)} {shares : (Nat → Int32)} {choices : (Nat → Int32)} {values : (Nat → Int32)} {latest : Int32} {askedIs : Int32} {above : Int64} {below : Int64} {place : Int32} {partedBy : Int32} {res : Int64} : ∀ (n : Nat) (x1 : Int64) (x4 : Int32), M_X7_digest_b255 now kept isKept rows rowLong texts textLong n x1 x4 = some res → X G l RX7 cX7_digest 6 (x_R 3 0 0) (x_Cm G (some .long) false (x_is (some (.long res)) (WModel G a now kept isKept rows rowLong texts textLong found taken anew hand steps shares choices values latest askedIs above below place partedBy)) 0 0) 0 0 255 [(0, .ref (a 0)), (1, .long x1), (4, .int x4)] [] (WModel G a now kept isKept rows rowLong texts textLong found taken anew hand steps shares choices values latest askedIs above below place partedBy) := by
  intro n
  induction n with
  | zero =>
    intro _ _ h
    cases h
  | succ n ih =>
    intro x1 x4 h
    rw [M_X7_digest_b255] at h
    refine x_iload dX7_digest_255 2 rfl ?_
    refine x_iconst 4 dX7_digest_257 (by decide) ?_
    refine x_icmp_ge 324 dX7_digest_258 (by decide) (fun c22 => ?_) (fun c22 => ?_)
    · have h := x_pos c22 h
      refine x_lload_n dX7_digest_324 1 rfl rfl ?_
      cases h
      exact x_lreturn dX7_digest_325 (x_is.rf _ _)
    · have h := x_neg c22 h
      refine x_ldc2 dX7_digest_261 kl_X7_275 ?_
      refine x_lload_n dX7_digest_264 1 rfl rfl ?_
      refine x_lmul dX7_digest_265 ?_
      refine x_aload_n dX7_digest_266 0 rfl rfl ?_
      refine x_get (ci := 5) 6 0 dX7_digest_267 fl_X7_29 inX7 rfl (by decide) ⟨rfl, rfl, rfl⟩ rfl rfl ?_
      refine x_iload dX7_digest_270 2 rfl ?_
      obtain ⟨b23, h⟩ := x_guard h
      refine x_iald x4.toNatClampNeg (q0 := 7) dX7_digest_272 rfl rfl b23 ?_
      refine x_i2l dX7_digest_273 ?_
      refine x_ladd dX7_digest_274 ?_
      refine x_lstore_n [(1, .long (((31 : Int64) * x1) + (textLong x4.toNatClampNeg).toInt64)), (0, .ref (a 0)), (4, .int x4)] dX7_digest_275 rfl (by decide) rfl ?_
      refine x_iconst 0 dX7_digest_276 (by decide) ?_
      refine x_istore [(5, .int (0 : Int32)), (1, .long (((31 : Int64) * x1) + (textLong x4.toNatClampNeg).toInt64)), (0, .ref (a 0)), (4, .int x4)] dX7_digest_277 (by decide) rfl ?_
      refine x_lv [2, 1, 3, 0] rfl ?_
      exact w_X7_digest_b279 (fun x1' x4' h => ih x1' x4' h) _ _ _ _ h
def M_X7_digest_b182 (now : (Nat → Int32)) (kept : (Nat → Int32)) (isKept : (Nat → Int32)) (rows : (Nat → Int32)) (rowLong : (Nat → Int32)) (texts : (Nat → Int32)) (textLong : (Nat → Int32)) : Nat → Int64 → Int32 → Option (Int64)
  | 0, _, _ => none
  | n + 1, x1, x4 =>
    if (6 : Int32) ≤ x4 then
    (M_X7_digest_b255 now kept isKept rows rowLong texts textLong x_fuel x1 (0 : Int32))
    else
    (if inb x4 6 then
    M_X7_digest_b207 now kept isKept rows rowLong texts textLong (fun (x1' : Int64) (x4' : Int32) => M_X7_digest_b182 now kept isKept rows rowLong texts textLong n x1' x4') x_fuel (((31 : Int64) * x1) + (rowLong x4.toNatClampNeg).toInt64) x4 (0 : Int32)
    else none)
set_option maxHeartbeats 4000000 in
set_option maxRecDepth 100000 in
theorem w_X7_digest_b182 {G : x_G} {l : Launch} {a : Nat → Nat} {now : (Nat → Int32)} {kept : (Nat → Int32)} {isKept : (Nat → Int32)} {rows : (Nat → Int32)} {rowLong : (Nat → Int32)} {texts : (Nat → Int32)} {textLong : (Nat → Int32)} {found : (Nat → Int32)} {taken : (Nat → Int32)} {anew : (Nat → Int32)} {hand : (Nat → Int32)} {steps : (Nat → Int32)} {shares : (Nat → Int32)} {choices : (Nat → Int32)} {values : (Nat → Int32)} {latest : Int32} {askedIs : Int32} {above : Int64} {below : Int64} {place : Int32} {partedBy : Int32} {res : Int64} : ∀ (n : Nat) (x1 : Int64) (x4 : Int32), M_X7_digest_b182 now kept isKept rows rowLong texts textLong n x1 x4 = some res → X G l RX7 cX7_digest 6 (x_R 3 0 0) (x_Cm G (some .long) false (x_is (some (.long res)) (WModel G a now kept isKept rows rowLong texts textLong found taken anew hand steps shares choices values latest askedIs above below place partedBy)) 0 0) 0 0 182 [(0, .ref (a 0)), (1, .long x1), (4, .int x4)] [] (WModel G a now kept isKept rows rowLong texts textLong found taken anew hand steps shares choices values latest askedIs above below place partedBy) := by
  intro n
  induction n with
  | zero =>
    intro _ _ h
    cases h
  | succ n ih =>
    intro x1 x4 h
    rw [M_X7_digest_b182] at h
    refine x_iload dX7_digest_182 2 rfl ?_
    refine x_bipush 6 dX7_digest_184 (by decide) ?_
    refine x_icmp_ge 252 dX7_digest_186 (by decide) (fun c17 => ?_) (fun c17 => ?_)
    · have h := x_pos c17 h
      refine x_iconst 0 dX7_digest_252 (by decide) ?_
      refine x_istore [(4, .int (0 : Int32)), (0, .ref (a 0)), (1, .long x1)] dX7_digest_253 (by decide) rfl ?_
      refine x_lv [1, 2, 0] rfl ?_
      exact w_X7_digest_b255  _ _ _ h
    · have h := x_neg c17 h
      refine x_ldc2 dX7_digest_189 kl_X7_275 ?_
      refine x_lload_n dX7_digest_192 1 rfl rfl ?_
      refine x_lmul dX7_digest_193 ?_
      refine x_aload_n dX7_digest_194 0 rfl rfl ?_
      refine x_get (ci := 5) 4 0 dX7_digest_195 fl_X7_23 inX7 rfl (by decide) ⟨rfl, rfl, rfl⟩ rfl rfl ?_
      refine x_iload dX7_digest_198 2 rfl ?_
      obtain ⟨b18, h⟩ := x_guard h
      refine x_iald x4.toNatClampNeg (q0 := 5) dX7_digest_200 rfl rfl b18 ?_
      refine x_i2l dX7_digest_201 ?_
      refine x_ladd dX7_digest_202 ?_
      refine x_lstore_n [(1, .long (((31 : Int64) * x1) + (rowLong x4.toNatClampNeg).toInt64)), (0, .ref (a 0)), (4, .int x4)] dX7_digest_203 rfl (by decide) rfl ?_
      refine x_iconst 0 dX7_digest_204 (by decide) ?_
      refine x_istore [(5, .int (0 : Int32)), (1, .long (((31 : Int64) * x1) + (rowLong x4.toNatClampNeg).toInt64)), (0, .ref (a 0)), (4, .int x4)] dX7_digest_205 (by decide) rfl ?_
      refine x_lv [2, 1, 3, 0] rfl ?_
      exact w_X7_digest_b207 (fun x1' x4' h => ih x1' x4' h) _ _ _ _ h
def M_X7_digest_b132 (now : (Nat → Int32)) (kept : (Nat → Int32)) (isKept : (Nat → Int32)) (rows : (Nat → Int32)) (rowLong : (Nat → Int32)) (texts : (Nat → Int32)) (textLong : (Nat → Int32)) : Nat → Int64 → Int32 → Option (Int64)
  | 0, _, _ => none
  | n + 1, x1, x4 =>
    if (3 : Int32) ≤ x4 then
    (M_X7_digest_b182 now kept isKept rows rowLong texts textLong x_fuel x1 (0 : Int32))
    else
    (if inb x4 3 then
    if (isKept x4.toNatClampNeg) = 0 then
    (M_X7_digest_b170 now kept isKept rows rowLong texts textLong (fun (x1' : Int64) (x4' : Int32) => M_X7_digest_b132 now kept isKept rows rowLong texts textLong n x1' x4') x4 ((31 : Int64) * x1) (-1 : Int32))
    else
    (if inb (((85 : Int32) * x4) + (35 : Int32)) 255 then
    M_X7_digest_b170 now kept isKept rows rowLong texts textLong (fun (x1' : Int64) (x4' : Int32) => M_X7_digest_b132 now kept isKept rows rowLong texts textLong n x1' x4') x4 ((31 : Int64) * x1) (kept (((85 : Int32) * x4) + (35 : Int32)).toNatClampNeg)
    else none)
    else none)
set_option maxHeartbeats 4000000 in
set_option maxRecDepth 100000 in
theorem w_X7_digest_b132 {G : x_G} {l : Launch} {a : Nat → Nat} {now : (Nat → Int32)} {kept : (Nat → Int32)} {isKept : (Nat → Int32)} {rows : (Nat → Int32)} {rowLong : (Nat → Int32)} {texts : (Nat → Int32)} {textLong : (Nat → Int32)} {found : (Nat → Int32)} {taken : (Nat → Int32)} {anew : (Nat → Int32)} {hand : (Nat → Int32)} {steps : (Nat → Int32)} {shares : (Nat → Int32)} {choices : (Nat → Int32)} {values : (Nat → Int32)} {latest : Int32} {askedIs : Int32} {above : Int64} {below : Int64} {place : Int32} {partedBy : Int32} {res : Int64} : ∀ (n : Nat) (x1 : Int64) (x4 : Int32), M_X7_digest_b132 now kept isKept rows rowLong texts textLong n x1 x4 = some res → X G l RX7 cX7_digest 6 (x_R 3 0 0) (x_Cm G (some .long) false (x_is (some (.long res)) (WModel G a now kept isKept rows rowLong texts textLong found taken anew hand steps shares choices values latest askedIs above below place partedBy)) 0 0) 0 0 132 [(0, .ref (a 0)), (1, .long x1), (4, .int x4)] [] (WModel G a now kept isKept rows rowLong texts textLong found taken anew hand steps shares choices values latest askedIs above below place partedBy) := by
  intro n
  induction n with
  | zero =>
    intro _ _ h
    cases h
  | succ n ih =>
    intro x1 x4 h
    rw [M_X7_digest_b132] at h
    refine x_iload dX7_digest_132 2 rfl ?_
    refine x_iconst 3 dX7_digest_134 (by decide) ?_
    refine x_icmp_ge 179 dX7_digest_135 (by decide) (fun c13 => ?_) (fun c13 => ?_)
    · have h := x_pos c13 h
      refine x_iconst 0 dX7_digest_179 (by decide) ?_
      refine x_istore [(4, .int (0 : Int32)), (0, .ref (a 0)), (1, .long x1)] dX7_digest_180 (by decide) rfl ?_
      refine x_lv [1, 2, 0] rfl ?_
      exact w_X7_digest_b182  _ _ _ h
    · have h := x_neg c13 h
      refine x_ldc2 dX7_digest_138 kl_X7_275 ?_
      refine x_lload_n dX7_digest_141 1 rfl rfl ?_
      refine x_lmul dX7_digest_142 ?_
      refine x_aload_n dX7_digest_143 0 rfl rfl ?_
      refine x_get (ci := 5) 2 0 dX7_digest_144 fl_X7_16 inX7 rfl (by decide) ⟨rfl, rfl, rfl⟩ rfl rfl ?_
      refine x_iload dX7_digest_147 2 rfl ?_
      obtain ⟨b14, h⟩ := x_guard h
      refine x_zald x4.toNatClampNeg (q0 := 3) dX7_digest_149 rfl rfl b14 ?_
      refine x_if_eq 169 dX7_digest_150 (by decide) (fun c15 => ?_) (fun c15 => ?_)
      · have h := x_pos c15 h
        refine x_iconst (-1 : Int32) dX7_digest_169 (by decide) ?_
        refine x_lv [0, 2] rfl ?_
        exact w_X7_digest_b170 (fun x1' x4' h => ih x1' x4' h) _ _ _ h
      · have h := x_neg c15 h
        refine x_aload_n dX7_digest_153 0 rfl rfl ?_
        refine x_get (ci := 5) 1 0 dX7_digest_154 fl_X7_13 inX7 rfl (by decide) ⟨rfl, rfl, rfl⟩ rfl rfl ?_
        refine x_bipush 85 dX7_digest_157 (by decide) ?_
        refine x_iload dX7_digest_159 2 rfl ?_
        refine x_imul dX7_digest_161 ?_
        refine x_bipush 35 dX7_digest_162 (by decide) ?_
        refine x_iadd dX7_digest_164 ?_
        obtain ⟨b16, h⟩ := x_guard h
        refine x_iald (((85 : Int32) * x4) + (35 : Int32)).toNatClampNeg (q0 := 2) dX7_digest_165 rfl rfl b16 ?_
        refine x_goto 170 dX7_digest_166 (by decide) ?_
        refine x_lv [0, 2] rfl ?_
        exact w_X7_digest_b170 (fun x1' x4' h => ih x1' x4' h) _ _ _ h
def M_X7_digest_b98 (now : (Nat → Int32)) (kept : (Nat → Int32)) (isKept : (Nat → Int32)) (rows : (Nat → Int32)) (rowLong : (Nat → Int32)) (texts : (Nat → Int32)) (textLong : (Nat → Int32)) : Nat → Int64 → Int32 → Int32 → Option (Int64)
  | 0, _, _, _ => none
  | n + 1, x1, x3, x4 =>
    if (now 1) ≤ x4 then
    (M_X7_digest_b132 now kept isKept rows rowLong texts textLong x_fuel x1 (0 : Int32))
    else
    (M_X7_digest_b98 now kept isKept rows rowLong texts textLong n (((31 : Int64) * x1) + ((x3 >>> (x4 &&& (31 : Int32))) &&& (1 : Int32)).toInt64) x3 (x4 + (1 : Int32)))
set_option maxHeartbeats 4000000 in
set_option maxRecDepth 100000 in
theorem w_X7_digest_b98 {G : x_G} {l : Launch} {a : Nat → Nat} {now : (Nat → Int32)} {kept : (Nat → Int32)} {isKept : (Nat → Int32)} {rows : (Nat → Int32)} {rowLong : (Nat → Int32)} {texts : (Nat → Int32)} {textLong : (Nat → Int32)} {found : (Nat → Int32)} {taken : (Nat → Int32)} {anew : (Nat → Int32)} {hand : (Nat → Int32)} {steps : (Nat → Int32)} {shares : (Nat → Int32)} {choices : (Nat → Int32)} {values : (Nat → Int32)} {latest : Int32} {askedIs : Int32} {above : Int64} {below : Int64} {place : Int32} {partedBy : Int32} {res : Int64} : ∀ (n : Nat) (x1 : Int64) (x3 : Int32) (x4 : Int32), M_X7_digest_b98 now kept isKept rows rowLong texts textLong n x1 x3 x4 = some res → X G l RX7 cX7_digest 6 (x_R 3 0 0) (x_Cm G (some .long) false (x_is (some (.long res)) (WModel G a now kept isKept rows rowLong texts textLong found taken anew hand steps shares choices values latest askedIs above below place partedBy)) 0 0) 0 0 98 [(0, .ref (a 0)), (1, .long x1), (3, .int x3), (4, .int x4)] [] (WModel G a now kept isKept rows rowLong texts textLong found taken anew hand steps shares choices values latest askedIs above below place partedBy) := by
  intro n
  induction n with
  | zero =>
    intro _ _ _ h
    cases h
  | succ n ih =>
    intro x1 x3 x4 h
    rw [M_X7_digest_b98] at h
    refine x_iload dX7_digest_98 3 rfl ?_
    refine x_aload_n dX7_digest_100 0 rfl rfl ?_
    refine x_get (ci := 5) 0 0 dX7_digest_101 fl_X7_7 inX7 rfl (by decide) ⟨rfl, rfl, rfl⟩ rfl rfl ?_
    refine x_iconst 1 dX7_digest_104 (by decide) ?_
    refine x_iald 1 (q0 := 1) dX7_digest_105 (by decide) rfl (by decide) ?_
    refine x_icmp_ge 129 dX7_digest_106 (by decide) (fun c12 => ?_) (fun c12 => ?_)
    · have h := x_pos c12 h
      refine x_iconst 0 dX7_digest_129 (by decide) ?_
      refine x_istore [(4, .int (0 : Int32)), (0, .ref (a 0)), (1, .long x1), (3, .int x3)] dX7_digest_130 (by decide) rfl ?_
      refine x_lv [1, 2, 0] rfl ?_
      exact w_X7_digest_b132  _ _ _ h
    · have h := x_neg c12 h
      refine x_ldc2 dX7_digest_109 kl_X7_275 ?_
      refine x_lload_n dX7_digest_112 1 rfl rfl ?_
      refine x_lmul dX7_digest_113 ?_
      refine x_iload_n dX7_digest_114 2 rfl rfl ?_
      refine x_iload dX7_digest_115 3 rfl ?_
      refine x_ishr dX7_digest_117 ?_
      refine x_iconst 1 dX7_digest_118 (by decide) ?_
      refine x_iand dX7_digest_119 ?_
      refine x_i2l dX7_digest_120 ?_
      refine x_ladd dX7_digest_121 ?_
      refine x_lstore_n [(1, .long (((31 : Int64) * x1) + ((x3 >>> (x4 &&& (31 : Int32))) &&& (1 : Int32)).toInt64)), (0, .ref (a 0)), (3, .int x3), (4, .int x4)] dX7_digest_122 rfl (by decide) rfl ?_
      refine x_iinc (j := 3) (1 : Int32) [(4, .int (x4 + (1 : Int32))), (1, .long (((31 : Int64) * x1) + ((x3 >>> (x4 &&& (31 : Int32))) &&& (1 : Int32)).toInt64)), (0, .ref (a 0)), (3, .int x3)] dX7_digest_123 (by decide) rfl (by decide) rfl ?_
      refine x_goto 98 dX7_digest_126 (by decide) ?_
      refine x_lv [2, 1, 3, 0] rfl ?_
      exact ih _ _ _ h
def M_X7_digest_b33 (now : (Nat → Int32)) (kept : (Nat → Int32)) (isKept : (Nat → Int32)) (rows : (Nat → Int32)) (rowLong : (Nat → Int32)) (texts : (Nat → Int32)) (textLong : (Nat → Int32)) : Nat → Int64 → Int32 → Option (Int64)
  | 0, _, _ => none
  | n + 1, x1, x3 =>
    if (now 0) ≤ x3 then
    ((M_X7_taut_85 now).bind fun r5 =>
    (M_X7_lawfulBy_85 now r5).bind fun r7 =>
    M_X7_digest_b98 now kept isKept rows rowLong texts textLong x_fuel x1 r7 (0 : Int32))
    else
    (M_X7_digest_b46 now kept isKept rows rowLong texts textLong (fun (x1' : Int64) (x3' : Int32) => M_X7_digest_b33 now kept isKept rows rowLong texts textLong n x1' x3') x_fuel x1 x3 (0 : Int32))
set_option maxHeartbeats 4000000 in
set_option maxRecDepth 100000 in
theorem w_X7_digest_b33 {G : x_G} {l : Launch} {a : Nat → Nat} {now : (Nat → Int32)} {kept : (Nat → Int32)} {isKept : (Nat → Int32)} {rows : (Nat → Int32)} {rowLong : (Nat → Int32)} {texts : (Nat → Int32)} {textLong : (Nat → Int32)} {found : (Nat → Int32)} {taken : (Nat → Int32)} {anew : (Nat → Int32)} {hand : (Nat → Int32)} {steps : (Nat → Int32)} {shares : (Nat → Int32)} {choices : (Nat → Int32)} {values : (Nat → Int32)} {latest : Int32} {askedIs : Int32} {above : Int64} {below : Int64} {place : Int32} {partedBy : Int32} {res : Int64} : ∀ (n : Nat) (x1 : Int64) (x3 : Int32), M_X7_digest_b33 now kept isKept rows rowLong texts textLong n x1 x3 = some res → X G l RX7 cX7_digest 6 (x_R 3 0 0) (x_Cm G (some .long) false (x_is (some (.long res)) (WModel G a now kept isKept rows rowLong texts textLong found taken anew hand steps shares choices values latest askedIs above below place partedBy)) 0 0) 0 0 33 [(0, .ref (a 0)), (1, .long x1), (3, .int x3)] [] (WModel G a now kept isKept rows rowLong texts textLong found taken anew hand steps shares choices values latest askedIs above below place partedBy) := by
  intro n
  induction n with
  | zero =>
    intro _ _ h
    cases h
  | succ n ih =>
    intro x1 x3 h
    rw [M_X7_digest_b33] at h
    refine x_iload_n dX7_digest_33 2 rfl rfl ?_
    refine x_aload_n dX7_digest_34 0 rfl rfl ?_
    refine x_get (ci := 5) 0 0 dX7_digest_35 fl_X7_7 inX7 rfl (by decide) ⟨rfl, rfl, rfl⟩ rfl rfl ?_
    refine x_iconst 0 dX7_digest_38 (by decide) ?_
    refine x_iald 0 (q0 := 1) dX7_digest_39 (by decide) rfl (by decide) ?_
    refine x_icmp_ge 80 dX7_digest_40 (by decide) (fun c4 => ?_) (fun c4 => ?_)
    · have h := x_pos c4 h
      refine x_aload_n dX7_digest_80 0 rfl rfl ?_
      refine x_get (ci := 5) 0 0 dX7_digest_81 fl_X7_7 inX7 rfl (by decide) ⟨rfl, rfl, rfl⟩ rfl rfl ?_
      refine x_aload_n dX7_digest_84 0 rfl rfl ?_
      refine x_get (ci := 5) 0 0 dX7_digest_85 fl_X7_7 inX7 rfl (by decide) ⟨rfl, rfl, rfl⟩ rfl rfl ?_
      obtain ⟨r5, e6, h⟩ := x_bind h
      refine x_cS (As := [.ref (a 1)]) (wc := (WArr G (fun k => a (1 + k)) 85 now)) (w1 := (WArr G (fun k => a (1 + k)) 85 now)) (pre := ((WModel G a now kept isKept rows rowLong texts textLong found taken anew hand steps shares choices values latest askedIs above below place partedBy).take 1)) (post := ((WModel G a now kept isKept rows rowLong texts textLong found taken anew hand steps shares choices values latest askedIs above below place partedBy).drop 2)) (rest := [.ref (a 1)]) (st1 := [.int r5, .ref (a 1)]) (ws1 := (WModel G a now kept isKept rows rowLong texts textLong found taken anew hand steps shares choices values latest askedIs above below place partedBy)) dX7_digest_88 (c_X7_taut_85 (aq := (fun k => a (1 + k))) e6) pk_X7_taut ml_X7_167 rfl rfl rfl rfl rfl rfl rfl ?_
      obtain ⟨r7, e8, h⟩ := x_bind h
      refine x_cS (As := [.ref (a 1), .int r5]) (wc := (WArr G (fun k => a (1 + k)) 85 now)) (w1 := (WArr G (fun k => a (1 + k)) 85 now)) (pre := ((WModel G a now kept isKept rows rowLong texts textLong found taken anew hand steps shares choices values latest askedIs above below place partedBy).take 1)) (post := ((WModel G a now kept isKept rows rowLong texts textLong found taken anew hand steps shares choices values latest askedIs above below place partedBy).drop 2)) (rest := []) (st1 := [.int r7]) (ws1 := (WModel G a now kept isKept rows rowLong texts textLong found taken anew hand steps shares choices values latest askedIs above below place partedBy)) dX7_digest_91 (c_X7_lawfulBy_85 (aq := (fun k => a (1 + k))) e8) pk_X7_lawfulBy ml_X7_200 rfl rfl rfl rfl rfl rfl rfl ?_
      refine x_istore_n [(3, .int r7), (0, .ref (a 0)), (1, .long x1)] dX7_digest_94 rfl (by decide) rfl ?_
      refine x_iconst 0 dX7_digest_95 (by decide) ?_
      refine x_istore [(4, .int (0 : Int32)), (3, .int r7), (0, .ref (a 0)), (1, .long x1)] dX7_digest_96 (by decide) rfl ?_
      refine x_lv [2, 3, 1, 0] rfl ?_
      exact w_X7_digest_b98  _ _ _ _ h
    · have h := x_neg c4 h
      refine x_iconst 0 dX7_digest_43 (by decide) ?_
      refine x_istore [(4, .int (0 : Int32)), (0, .ref (a 0)), (1, .long x1), (3, .int x3)] dX7_digest_44 (by decide) rfl ?_
      refine x_lv [1, 2, 3, 0] rfl ?_
      exact w_X7_digest_b46 (fun x1' x3' h => ih x1' x3' h) _ _ _ _ h
def M_X7_digest_b6 (now : (Nat → Int32)) (kept : (Nat → Int32)) (isKept : (Nat → Int32)) (rows : (Nat → Int32)) (rowLong : (Nat → Int32)) (texts : (Nat → Int32)) (textLong : (Nat → Int32)) : Nat → Int64 → Int32 → Option (Int64)
  | 0, _, _ => none
  | n + 1, x1, x3 =>
    if (13 : Int32) ≤ x3 then
    (M_X7_digest_b33 now kept isKept rows rowLong texts textLong x_fuel x1 (0 : Int32))
    else
    ((M_X7_counted now isKept rowLong textLong x3).bind fun r2 =>
    M_X7_digest_b6 now kept isKept rows rowLong texts textLong n (((31 : Int64) * x1) + r2.toInt64) (x3 + (1 : Int32)))
set_option maxHeartbeats 4000000 in
set_option maxRecDepth 100000 in
theorem w_X7_digest_b6 {G : x_G} {l : Launch} {a : Nat → Nat} {now : (Nat → Int32)} {kept : (Nat → Int32)} {isKept : (Nat → Int32)} {rows : (Nat → Int32)} {rowLong : (Nat → Int32)} {texts : (Nat → Int32)} {textLong : (Nat → Int32)} {found : (Nat → Int32)} {taken : (Nat → Int32)} {anew : (Nat → Int32)} {hand : (Nat → Int32)} {steps : (Nat → Int32)} {shares : (Nat → Int32)} {choices : (Nat → Int32)} {values : (Nat → Int32)} {latest : Int32} {askedIs : Int32} {above : Int64} {below : Int64} {place : Int32} {partedBy : Int32} {res : Int64} : ∀ (n : Nat) (x1 : Int64) (x3 : Int32), M_X7_digest_b6 now kept isKept rows rowLong texts textLong n x1 x3 = some res → X G l RX7 cX7_digest 6 (x_R 3 0 0) (x_Cm G (some .long) false (x_is (some (.long res)) (WModel G a now kept isKept rows rowLong texts textLong found taken anew hand steps shares choices values latest askedIs above below place partedBy)) 0 0) 0 0 6 [(0, .ref (a 0)), (1, .long x1), (3, .int x3)] [] (WModel G a now kept isKept rows rowLong texts textLong found taken anew hand steps shares choices values latest askedIs above below place partedBy) := by
  intro n
  induction n with
  | zero =>
    intro _ _ h
    cases h
  | succ n ih =>
    intro x1 x3 h
    rw [M_X7_digest_b6] at h
    refine x_iload_n dX7_digest_6 2 rfl rfl ?_
    refine x_bipush 13 dX7_digest_7 (by decide) ?_
    refine x_icmp_ge 31 dX7_digest_9 (by decide) (fun c1 => ?_) (fun c1 => ?_)
    · have h := x_pos c1 h
      refine x_iconst 0 dX7_digest_31 (by decide) ?_
      refine x_istore_n [(3, .int (0 : Int32)), (0, .ref (a 0)), (1, .long x1)] dX7_digest_32 rfl (by decide) rfl ?_
      refine x_lv [1, 2, 0] rfl ?_
      exact w_X7_digest_b33  _ _ _ h
    · have h := x_neg c1 h
      refine x_ldc2 dX7_digest_12 kl_X7_275 ?_
      refine x_lload_n dX7_digest_15 1 rfl rfl ?_
      refine x_lmul dX7_digest_16 ?_
      refine x_aload_n dX7_digest_17 0 rfl rfl ?_
      refine x_iload_n dX7_digest_18 2 rfl rfl ?_
      obtain ⟨r2, e3, h⟩ := x_bind h
      refine x_cV (As := [.int x3]) (wc := (WModel G a now kept isKept rows rowLong texts textLong found taken anew hand steps shares choices values latest askedIs above below place partedBy)) (w1 := (WModel G a now kept isKept rows rowLong texts textLong found taken anew hand steps shares choices values latest askedIs above below place partedBy)) (pre := []) (post := []) (rest := [.long ((31 : Int64) * x1)]) (st1 := [.int r2, .long ((31 : Int64) * x1)]) (ws1 := (WModel G a now kept isKept rows rowLong texts textLong found taken anew hand steps shares choices values latest askedIs above below place partedBy)) (ci := 5) 0 dX7_digest_19 (c_X7_counted (a := a) e3) pk_X7_counted ml_X7_270 (x_full _) rfl rfl rfl rfl rfl rfl rfl rfl (x_full _).symm ?_
      refine x_i2l dX7_digest_22 ?_
      refine x_ladd dX7_digest_23 ?_
      refine x_lstore_n [(1, .long (((31 : Int64) * x1) + r2.toInt64)), (0, .ref (a 0)), (3, .int x3)] dX7_digest_24 rfl (by decide) rfl ?_
      refine x_iinc (j := 2) (1 : Int32) [(3, .int (x3 + (1 : Int32))), (1, .long (((31 : Int64) * x1) + r2.toInt64)), (0, .ref (a 0))] dX7_digest_25 (by decide) rfl (by decide) rfl ?_
      refine x_goto 6 dX7_digest_28 (by decide) ?_
      refine x_lv [2, 1, 0] rfl ?_
      exact ih _ _ h
def M_X7_digest (now : (Nat → Int32)) (kept : (Nat → Int32)) (isKept : (Nat → Int32)) (rows : (Nat → Int32)) (rowLong : (Nat → Int32)) (texts : (Nat → Int32)) (textLong : (Nat → Int32)) : Option (Int64) :=
  M_X7_digest_b6 now kept isKept rows rowLong texts textLong x_fuel (17 : Int64) (0 : Int32)
set_option maxHeartbeats 4000000 in
set_option maxRecDepth 100000 in
theorem c_X7_digest {G : x_G} {l : Launch} {a : Nat → Nat} {now : (Nat → Int32)} {kept : (Nat → Int32)} {isKept : (Nat → Int32)} {rows : (Nat → Int32)} {rowLong : (Nat → Int32)} {texts : (Nat → Int32)} {textLong : (Nat → Int32)} {found : (Nat → Int32)} {taken : (Nat → Int32)} {anew : (Nat → Int32)} {hand : (Nat → Int32)} {steps : (Nat → Int32)} {shares : (Nat → Int32)} {choices : (Nat → Int32)} {values : (Nat → Int32)} {latest : Int32} {askedIs : Int32} {above : Int64} {below : Int64} {place : Int32} {partedBy : Int32} {res : Int64} (h : M_X7_digest now kept isKept rows rowLong texts textLong = some res) : x_M G l yX7_digest cX7_digest 6 (some .long) (3) 0 0 [.ref (a 0)] (WModel G a now kept isKept rows rowLong texts textLong found taken anew hand steps shares choices values latest askedIs above below place partedBy) (x_is (some (.long res)) (WModel G a now kept isKept rows rowLong texts textLong found taken anew hand steps shares choices values latest askedIs above below place partedBy)) := by
  unfold M_X7_digest at h
  refine x_enter (ini := false) (by decide) rfl (by decide) rfl (Nat.le_of_ble_eq_true rfl) ?_
  refine x_ldc2 dX7_digest_0 kl_X7_273 ?_
  refine x_lstore_n [(1, .long (17 : Int64)), (0, .ref (a 0))] dX7_digest_3 rfl (by decide) rfl ?_
  refine x_iconst 0 dX7_digest_4 (by decide) ?_
  refine x_istore_n [(3, .int (0 : Int32)), (1, .long (17 : Int64)), (0, .ref (a 0))] dX7_digest_5 rfl (by decide) rfl ?_
  refine x_lv [2, 1, 0] rfl ?_
  exact w_X7_digest_b6  _ _ _ h
