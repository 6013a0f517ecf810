theorem pk_X1_take : x_pv RX1 yX1_take cX1_take 4 none 2 := ⟨⟨co_X1_take, ni_X1, by decide, by decide +kernel⟩, im_X1_take, se_X1_take⟩
def M_X1_take_b19 (sh_sizes : (Nat → Int32)) (sh_places : (Nat → Nat → Int32)) : Nat → (Nat → Int32) → Int32 → Int32 → Int32 → Int32 → Int32 → Int32 → Option ((Nat → Int32) × Int32 × Int32 × Int32 × Int32)
  | 0, _, _, _, _, _, _, _ => none
  | n + 1, rd_signs, rd_size, rd_place, rd_fault, rd_head, x2, x3 =>
    if rd_size ≤ x3 then
    (some (rd_signs, rd_size, (0 : Int32), (-9 : Int32), (0 : Int32)))
    else
    ((M_X4_get 4 60 sh_sizes sh_places x2 x3).bind fun r2 =>
    if inb x3 60 then
    M_X1_take_b19 sh_sizes sh_places n (upd rd_signs x3.toNatClampNeg r2) rd_size rd_place rd_fault rd_head x2 (x3 + (1 : Int32))
    else none)
set_option maxHeartbeats 4000000 in
set_option maxRecDepth 100000 in
theorem w_X1_take_b19 {G : x_G} {l : Launch} {ax : Nat → Nat} {ad : Nat → Nat} {sh_sizes : (Nat → Int32)} {sh_places : (Nat → Nat → Int32)} {res : (Nat → Int32) × Int32 × Int32 × Int32 × Int32} : ∀ (n : Nat) (rd_signs : (Nat → Int32)) (rd_size : Int32) (rd_place : Int32) (rd_fault : Int32) (rd_head : Int32) (x2 : Int32) (x3 : Int32), M_X1_take_b19 sh_sizes sh_places n rd_signs rd_size rd_place rd_fault rd_head x2 x3 = some res → X G l RX1 cX1_take 4 (x_R 4 0 0) (x_Cm G none false (x_is none ((WShelf G ax 4 60 60 32 sh_sizes sh_places) ++ (WReader G ad res.1 res.2.1 res.2.2.1 res.2.2.2.1 res.2.2.2.2))) 0 0) 0 0 19 [(0, .ref (ad 0)), (1, .ref (ax 0)), (2, .int x2), (3, .int x3)] [] ((WShelf G ax 4 60 60 32 sh_sizes sh_places) ++ (WReader G ad rd_signs rd_size rd_place rd_fault rd_head)) := by
  intro n
  induction n with
  | zero =>
    intro _ _ _ _ _ _ _ h
    cases h
  | succ n ih =>
    intro rd_signs rd_size rd_place rd_fault rd_head x2 x3 h
    rw [M_X1_take_b19] at h
    refine x_iload_n dX1_take_19 3 rfl rfl ?_
    refine x_aload_n dX1_take_20 0 rfl rfl ?_
    refine x_get (ci := 1) 1 7 dX1_take_21 fl_X1_15 inX1 rfl (by decide) ⟨rfl, rfl, rfl⟩ rfl rfl ?_
    refine x_icmp_ge 45 dX1_take_24 (by decide) (fun c1 => ?_) (fun c1 => ?_)
    · have h := x_pos c1 h
      refine x_aload_n dX1_take_45 0 rfl rfl ?_
      refine x_iconst 0 dX1_take_46 (by decide) ?_
      refine x_put (ci := 1) (ty := .int) 2 7 ((WShelf G ax 4 60 60 32 sh_sizes sh_places) ++ (WReader G ad rd_signs rd_size ((0 : Int32)) rd_fault rd_head)) dX1_take_47 fl_X1_19 inX1 tyX1_ok nmX1 rfl (by decide) ⟨rfl, rfl, rfl, rfl, rfl⟩ rfl rfl rfl rfl rfl ?_
      refine x_aload_n dX1_take_50 0 rfl rfl ?_
      refine x_bipush (-9 : Int32) dX1_take_51 (by decide) ?_
      refine x_put (ci := 1) (ty := .int) 3 7 ((WShelf G ax 4 60 60 32 sh_sizes sh_places) ++ (WReader G ad rd_signs rd_size ((0 : Int32)) ((-9 : Int32)) rd_head)) dX1_take_53 fl_X1_22 inX1 tyX1_ok nmX1 rfl (by decide) ⟨rfl, rfl, rfl, rfl, rfl⟩ rfl rfl rfl rfl rfl ?_
      refine x_aload_n dX1_take_56 0 rfl rfl ?_
      refine x_iconst 0 dX1_take_57 (by decide) ?_
      refine x_put (ci := 1) (ty := .boolean) 4 7 ((WShelf G ax 4 60 60 32 sh_sizes sh_places) ++ (WReader G ad rd_signs rd_size ((0 : Int32)) ((-9 : Int32)) ((0 : Int32)))) dX1_take_58 fl_X1_25 inX1 tyX1_ok nmX1 rfl (by decide) ⟨rfl, rfl, rfl, rfl, rfl⟩ rfl rfl rfl rfl rfl ?_
      cases h
      exact x_return dX1_take_61 (x_is.rf _ _)
    · have h := x_neg c1 h
      refine x_aload_n dX1_take_27 0 rfl rfl ?_
      refine x_get (ci := 1) 0 7 dX1_take_28 fl_X1_9 inX1 rfl (by decide) ⟨rfl, rfl, rfl⟩ rfl rfl ?_
      refine x_iload_n dX1_take_31 3 rfl rfl ?_
      refine x_aload_n dX1_take_32 1 rfl rfl ?_
      refine x_iload_n dX1_take_33 2 rfl rfl ?_
      refine x_iload_n dX1_take_34 3 rfl rfl ?_
      obtain ⟨r2, e3, h⟩ := x_bind h
      refine x_cV (As := [.int x2, .int x3]) (wc := (WShelf G ax 4 60 60 32 sh_sizes sh_places)) (w1 := (WShelf G ax 4 60 60 32 sh_sizes sh_places)) (pre := ([] : va_W)) (post := (WReader G ad rd_signs rd_size rd_place rd_fault rd_head)) (rest := [.int x3, .ref (ad 1)]) (st1 := [.int r2, .int x3, .ref (ad 1)]) (ws1 := ((WShelf G ax 4 60 60 32 sh_sizes sh_places) ++ (WReader G ad rd_signs rd_size rd_place rd_fault rd_head))) (ci := 3) 0 dX1_take_35 (c_X4_get (ax := ax) e3) pk_X4_get ml_X1_60 (by simp only [List.append_assoc, List.append_nil, List.nil_append]) rfl rfl rfl rfl rfl rfl rfl rfl (by simp only [List.append_assoc, List.append_nil, List.nil_append]) ?_
      obtain ⟨b4, h⟩ := x_guard h
      refine x_iast x3.toNatClampNeg (q0 := 8) ((WShelf G ax 4 60 60 32 sh_sizes sh_places) ++ (WReader G ad ((upd rd_signs x3.toNatClampNeg r2)) rd_size rd_place rd_fault rd_head)) dX1_take_38 rfl rfl b4 rfl ?_
      refine x_iinc (j := 3) (1 : Int32) [(3, .int (x3 + (1 : Int32))), (0, .ref (ad 0)), (1, .ref (ax 0)), (2, .int x2)] dX1_take_39 (by decide) rfl (by decide) rfl ?_
      refine x_goto 19 dX1_take_42 (by decide) ?_
      refine x_lv [1, 2, 3, 0] rfl ?_
      exact ih _ _ _ _ _ _ _ h
def M_X1_take (sh_sizes : (Nat → Int32)) (sh_places : (Nat → Nat → Int32)) (rd_signs : (Nat → Int32)) (rd_size : Int32) (rd_place : Int32) (rd_fault : Int32) (rd_head : Int32) (x2 : Int32) : Option ((Nat → Int32) × Int32 × Int32 × Int32 × Int32) :=
  (M_X4_size 4 60 sh_sizes x2).bind fun r5 =>
  M_X1_take_b19 sh_sizes sh_places x_fuel rd_signs (M_J9_min_7cf53 r5 (60 : Int32)) rd_place rd_fault rd_head x2 (0 : Int32)
set_option maxHeartbeats 4000000 in
set_option maxRecDepth 100000 in
theorem c_X1_take {G : x_G} {l : Launch} {ax : Nat → Nat} {ad : Nat → Nat} {sh_sizes : (Nat → Int32)} {sh_places : (Nat → Nat → Int32)} {rd_signs : (Nat → Int32)} {rd_size : Int32} {rd_place : Int32} {rd_fault : Int32} {rd_head : Int32} {x2 : Int32} {res : (Nat → Int32) × Int32 × Int32 × Int32 × Int32} (h : M_X1_take sh_sizes sh_places rd_signs rd_size rd_place rd_fault rd_head x2 = some res) : x_M G l yX1_take cX1_take 4 none (4) 0 0 [.ref (ad 0), .ref (ax 0), .int x2] ((WShelf G ax 4 60 60 32 sh_sizes sh_places) ++ (WReader G ad rd_signs rd_size rd_place rd_fault rd_head)) (x_is none ((WShelf G ax 4 60 60 32 sh_sizes sh_places) ++ (WReader G ad res.1 res.2.1 res.2.2.1 res.2.2.2.1 res.2.2.2.2))) := by
  unfold M_X1_take at h
  refine x_enter (ini := false) (by decide) rfl (by decide) rfl (Nat.le_of_ble_eq_true rfl) ?_
  refine x_aload_n dX1_take_0 0 rfl rfl ?_
  refine x_aload_n dX1_take_1 1 rfl rfl ?_
  refine x_iload_n dX1_take_2 2 rfl rfl ?_
  obtain ⟨r5, e6, h⟩ := x_bind h
  refine x_cV (As := [.int x2]) (wc := (WShelf G ax 4 60 60 32 sh_sizes sh_places)) (w1 := (WShelf G ax 4 60 60 32 sh_sizes sh_places)) (pre := ([] : va_W)) (post := (WReader G ad rd_signs rd_size rd_place rd_fault rd_head)) (rest := [.ref (ad 0)]) (st1 := [.int r5, .ref (ad 0)]) (ws1 := ((WShelf G ax 4 60 60 32 sh_sizes sh_places) ++ (WReader G ad rd_signs rd_size rd_place rd_fault rd_head))) (ci := 3) 0 dX1_take_3 (c_X4_size (ax := ax) e6) pk_X4_size ml_X1_49 (by simp only [List.append_assoc, List.append_nil, List.nil_append]) rfl rfl rfl rfl rfl rfl rfl rfl (by simp only [List.append_assoc, List.append_nil, List.nil_append]) ?_
  refine x_aload_n dX1_take_6 0 rfl rfl ?_
  refine x_get (ci := 1) 0 7 dX1_take_7 fl_X1_9 inX1 rfl (by decide) ⟨rfl, rfl, rfl⟩ rfl rfl ?_
  refine x_alen 0 8 (60 : Int32) dX1_take_10 rfl rfl rfl ?_
  refine x_cS (As := [.int r5, .int (60 : Int32)]) (wc := ([] : va_W)) (w1 := ([] : va_W)) (pre := []) (post := ((WShelf G ax 4 60 60 32 sh_sizes sh_places) ++ (WReader G ad rd_signs rd_size rd_place rd_fault rd_head))) (rest := [.ref (ad 0)]) (st1 := [.int (M_J9_min_7cf53 r5 (60 : Int32)), .ref (ad 0)]) (ws1 := ((WShelf G ax 4 60 60 32 sh_sizes sh_places) ++ (WReader G ad rd_signs rd_size rd_place rd_fault rd_head))) dX1_take_11 (c_J9_min_7cf53 rfl) pk_J9_min_7cf53 ml_X1_54 rfl rfl rfl rfl rfl rfl rfl ?_
  refine x_put (ci := 1) (ty := .int) 1 7 ((WShelf G ax 4 60 60 32 sh_sizes sh_places) ++ (WReader G ad rd_signs ((M_J9_min_7cf53 r5 (60 : Int32))) rd_place rd_fault rd_head)) dX1_take_14 fl_X1_15 inX1 tyX1_ok nmX1 rfl (by decide) ⟨rfl, rfl, rfl, rfl, rfl⟩ rfl rfl rfl rfl rfl ?_
  refine x_iconst 0 dX1_take_17 (by decide) ?_
  refine x_istore_n [(3, .int (0 : Int32)), (0, .ref (ad 0)), (1, .ref (ax 0)), (2, .int x2)] dX1_take_18 rfl (by decide) rfl ?_
  refine x_lv [1, 2, 3, 0] rfl ?_
  exact w_X1_take_b19  _ _ _ _ _ _ _ _ h
theorem pk_X1_sign : x_pv RX1 yX1_sign cX1_sign 1 (some .int) 0 := ⟨⟨co_X1_sign, ni_X1, by decide, by decide +kernel⟩, im_X1_sign, se_X1_sign⟩
def M_X1_sign (signs : (Nat → Int32)) (size : Int32) (place : Int32) : Option (Int32) :=
  if place < 0 then
  (some (32 : Int32))
  else
  (if size ≤ place then
  (some (32 : Int32))
  else
  (if (60 : Int32) ≤ place then
  (some (32 : Int32))
  else
  (if inb place 60 then
  some (signs place.toNatClampNeg)
  else none)))
set_option maxHeartbeats 4000000 in
set_option maxRecDepth 100000 in
theorem c_X1_sign {G : x_G} {l : Launch} {ad : Nat → Nat} {signs : (Nat → Int32)} {size : Int32} {place : Int32} {fault : Int32} {head : Int32} {res : Int32} (h : M_X1_sign signs size place = some res) : x_M G l yX1_sign cX1_sign 1 (some .int) (0) 0 0 [.ref (ad 0)] (WReader G ad signs size place fault head) (x_is (some (.int res)) (WReader G ad signs size place fault head)) := by
  unfold M_X1_sign at h
  refine x_enter (ini := false) (by decide) rfl (by decide) rfl (Nat.le_of_ble_eq_true rfl) ?_
  refine x_aload_n dX1_sign_0 0 rfl rfl ?_
  refine x_get (ci := 1) 2 0 dX1_sign_1 fl_X1_19 inX1 rfl (by decide) ⟨rfl, rfl, rfl⟩ rfl rfl ?_
  refine x_if_lt 42 dX1_sign_4 (by decide) (fun c1 => ?_) (fun c1 => ?_)
  · have h := x_pos c1 h
    refine x_bipush 32 dX1_sign_42 (by decide) ?_
    cases h
    exact x_ireturn dX1_sign_44 rfl (x_is.rf _ _)
  · have h := x_neg c1 h
    refine x_aload_n dX1_sign_7 0 rfl rfl ?_
    refine x_get (ci := 1) 2 0 dX1_sign_8 fl_X1_19 inX1 rfl (by decide) ⟨rfl, rfl, rfl⟩ rfl rfl ?_
    refine x_aload_n dX1_sign_11 0 rfl rfl ?_
    refine x_get (ci := 1) 1 0 dX1_sign_12 fl_X1_15 inX1 rfl (by decide) ⟨rfl, rfl, rfl⟩ rfl rfl ?_
    refine x_icmp_ge 42 dX1_sign_15 (by decide) (fun c2 => ?_) (fun c2 => ?_)
    · have h := x_pos c2 h
      refine x_bipush 32 dX1_sign_42 (by decide) ?_
      cases h
      exact x_ireturn dX1_sign_44 rfl (x_is.rf _ _)
    · have h := x_neg c2 h
      refine x_aload_n dX1_sign_18 0 rfl rfl ?_
      refine x_get (ci := 1) 2 0 dX1_sign_19 fl_X1_19 inX1 rfl (by decide) ⟨rfl, rfl, rfl⟩ rfl rfl ?_
      refine x_aload_n dX1_sign_22 0 rfl rfl ?_
      refine x_get (ci := 1) 0 0 dX1_sign_23 fl_X1_9 inX1 rfl (by decide) ⟨rfl, rfl, rfl⟩ rfl rfl ?_
      refine x_alen 0 1 (60 : Int32) dX1_sign_26 rfl rfl rfl ?_
      refine x_icmp_ge 42 dX1_sign_27 (by decide) (fun c3 => ?_) (fun c3 => ?_)
      · have h := x_pos c3 h
        refine x_bipush 32 dX1_sign_42 (by decide) ?_
        cases h
        exact x_ireturn dX1_sign_44 rfl (x_is.rf _ _)
      · have h := x_neg c3 h
        refine x_aload_n dX1_sign_30 0 rfl rfl ?_
        refine x_get (ci := 1) 0 0 dX1_sign_31 fl_X1_9 inX1 rfl (by decide) ⟨rfl, rfl, rfl⟩ rfl rfl ?_
        refine x_aload_n dX1_sign_34 0 rfl rfl ?_
        refine x_get (ci := 1) 2 0 dX1_sign_35 fl_X1_19 inX1 rfl (by decide) ⟨rfl, rfl, rfl⟩ rfl rfl ?_
        obtain ⟨b4, h⟩ := x_guard h
        refine x_iald place.toNatClampNeg (q0 := 1) dX1_sign_38 rfl rfl b4 ?_
        refine x_goto 44 dX1_sign_39 (by decide) ?_
        cases h
        exact x_ireturn dX1_sign_44 rfl (x_is.rf _ _)
theorem pk_X1_isMoreAhead : x_pv RX1 yX1_isMoreAhead cX1_isMoreAhead 1 (some .boolean) 0 := ⟨⟨co_X1_isMoreAhead, ni_X1, by decide, by decide +kernel⟩, im_X1_isMoreAhead, se_X1_isMoreAhead⟩
def M_X1_isMoreAhead_b33 (signs : (Nat → Int32)) (size : Int32) (place : Int32) : Option (Int32 × Int32) :=
  if size ≤ place then
  (some ((0 : Int32), place))
  else
  (some ((1 : Int32), place))
set_option maxHeartbeats 4000000 in
set_option maxRecDepth 100000 in
theorem w_X1_isMoreAhead_b33 {G : x_G} {l : Launch} {ad : Nat → Nat} {signs : (Nat → Int32)} {size : Int32} {fault : Int32} {head : Int32} {res : Int32 × Int32} (place : Int32) (h : M_X1_isMoreAhead_b33 signs size place = some res) : X G l RX1 cX1_isMoreAhead 1 (x_R 1 0 0) (x_Cm G (some .boolean) false (x_is (some (.int res.1)) (WReader G ad signs size res.2 fault head)) 0 0) 0 0 33 [(0, .ref (ad 0))] [] (WReader G ad signs size place fault head) := by
  unfold M_X1_isMoreAhead_b33 at h
  refine x_aload_n dX1_isMoreAhead_33 0 rfl rfl ?_
  refine x_get (ci := 1) 2 0 dX1_isMoreAhead_34 fl_X1_19 inX1 rfl (by decide) ⟨rfl, rfl, rfl⟩ rfl rfl ?_
  refine x_aload_n dX1_isMoreAhead_37 0 rfl rfl ?_
  refine x_get (ci := 1) 1 0 dX1_isMoreAhead_38 fl_X1_15 inX1 rfl (by decide) ⟨rfl, rfl, rfl⟩ rfl rfl ?_
  refine x_icmp_ge 48 dX1_isMoreAhead_41 (by decide) (fun c5 => ?_) (fun c5 => ?_)
  · have h := x_pos c5 h
    refine x_iconst 0 dX1_isMoreAhead_48 (by decide) ?_
    cases h
    exact x_ireturn dX1_isMoreAhead_49 rfl (x_is.rf _ _)
  · have h := x_neg c5 h
    refine x_iconst 1 dX1_isMoreAhead_44 (by decide) ?_
    refine x_goto 49 dX1_isMoreAhead_45 (by decide) ?_
    cases h
    exact x_ireturn dX1_isMoreAhead_49 rfl (x_is.rf _ _)
def M_X1_isMoreAhead_b0 (signs : (Nat → Int32)) (size : Int32) : Nat → Int32 → Option (Int32 × Int32)
  | 0, _ => none
  | n + 1, place =>
    if size ≤ place then
    (M_X1_isMoreAhead_b33 signs size place)
    else
    ((M_X1_sign signs size place).bind fun r2 =>
    if r2 = (32 : Int32) then
    (M_X1_isMoreAhead_b0 signs size n (place + (1 : Int32)))
    else
    (M_X1_isMoreAhead_b33 signs size place))
set_option maxHeartbeats 4000000 in
set_option maxRecDepth 100000 in
theorem w_X1_isMoreAhead_b0 {G : x_G} {l : Launch} {ad : Nat → Nat} {signs : (Nat → Int32)} {size : Int32} {fault : Int32} {head : Int32} {res : Int32 × Int32} : ∀ (n : Nat) (place : Int32), M_X1_isMoreAhead_b0 signs size n place = some res → X G l RX1 cX1_isMoreAhead 1 (x_R 1 0 0) (x_Cm G (some .boolean) false (x_is (some (.int res.1)) (WReader G ad signs size res.2 fault head)) 0 0) 0 0 0 [(0, .ref (ad 0))] [] (WReader G ad signs size place fault head) := by
  intro n
  induction n with
  | zero =>
    intro _ h
    cases h
  | succ n ih =>
    intro place h
    rw [M_X1_isMoreAhead_b0] at h
    refine x_aload_n dX1_isMoreAhead_0 0 rfl rfl ?_
    refine x_get (ci := 1) 2 0 dX1_isMoreAhead_1 fl_X1_19 inX1 rfl (by decide) ⟨rfl, rfl, rfl⟩ rfl rfl ?_
    refine x_aload_n dX1_isMoreAhead_4 0 rfl rfl ?_
    refine x_get (ci := 1) 1 0 dX1_isMoreAhead_5 fl_X1_15 inX1 rfl (by decide) ⟨rfl, rfl, rfl⟩ rfl rfl ?_
    refine x_icmp_ge 33 dX1_isMoreAhead_8 (by decide) (fun c1 => ?_) (fun c1 => ?_)
    · have h := x_pos c1 h
      exact w_X1_isMoreAhead_b33  _ h
    · have h := x_neg c1 h
      refine x_aload_n dX1_isMoreAhead_11 0 rfl rfl ?_
      obtain ⟨r2, e3, h⟩ := x_bind h
      refine x_cV (As := []) (wc := (WReader G ad signs size place fault head)) (w1 := (WReader G ad signs size place fault head)) (pre := []) (post := []) (rest := []) (st1 := [.int r2]) (ws1 := (WReader G ad signs size place fault head)) (ci := 1) 0 dX1_isMoreAhead_12 (c_X1_sign (ad := ad) e3) pk_X1_sign ml_X1_63 (x_full _) rfl rfl rfl rfl rfl rfl rfl rfl (x_full _).symm ?_
      refine x_bipush 32 dX1_isMoreAhead_15 (by decide) ?_
      refine x_icmp_ne 33 dX1_isMoreAhead_17 (by decide) (fun c4 => ?_) (fun c4 => ?_)
      · have h := x_neg c4 h
        exact w_X1_isMoreAhead_b33  _ h
      · have h := x_pos c4 h
        refine x_aload_n dX1_isMoreAhead_20 0 rfl rfl ?_
        refine x_dup dX1_isMoreAhead_21 rfl ?_
        refine x_get (ci := 1) 2 0 dX1_isMoreAhead_22 fl_X1_19 inX1 rfl (by decide) ⟨rfl, rfl, rfl⟩ rfl rfl ?_
        refine x_iconst 1 dX1_isMoreAhead_25 (by decide) ?_
        refine x_iadd dX1_isMoreAhead_26 ?_
        refine x_put (ci := 1) (ty := .int) 2 0 (WReader G ad signs size ((place + (1 : Int32))) fault head) dX1_isMoreAhead_27 fl_X1_19 inX1 tyX1_ok nmX1 rfl (by decide) ⟨rfl, rfl, rfl, rfl, rfl⟩ rfl rfl rfl rfl rfl ?_
        refine x_goto 0 dX1_isMoreAhead_30 (by decide) ?_
        exact ih _ h
def M_X1_isMoreAhead (signs : (Nat → Int32)) (size : Int32) (place : Int32) : Option (Int32 × Int32) :=
  M_X1_isMoreAhead_b0 signs size x_fuel place
set_option maxHeartbeats 4000000 in
set_option maxRecDepth 100000 in
theorem c_X1_isMoreAhead {G : x_G} {l : Launch} {ad : Nat → Nat} {signs : (Nat → Int32)} {size : Int32} {fault : Int32} {head : Int32} {place : Int32} {res : Int32 × Int32} (h : M_X1_isMoreAhead signs size place = some res) : x_M G l yX1_isMoreAhead cX1_isMoreAhead 1 (some .boolean) (1) 0 0 [.ref (ad 0)] (WReader G ad signs size place fault head) (x_is (some (.int res.1)) (WReader G ad signs size res.2 fault head)) := by
  unfold M_X1_isMoreAhead at h
  refine x_enter (ini := false) (by decide) rfl (by decide) rfl (Nat.le_of_ble_eq_true rfl) ?_
  exact w_X1_isMoreAhead_b0  _ _ h
theorem pk_X1_kindOfLetter : x_ps yX1_kindOfLetter cX1_kindOfLetter 1 (some .int) 1 := ⟨⟨co_X1_kindOfLetter, ni_X1, by decide, by decide +kernel⟩, sm_X1_kindOfLetter⟩
def M_X1_kindOfLetter (x0 : Int32) : Int32 :=
  if x0 = (110 : Int32) then
  ((3 : Int32))
  else
  (if x0 = (111 : Int32) then
  ((-9 : Int32))
  else
  (if x0 = (112 : Int32) then
  ((2 : Int32))
  else
  (if x0 = (113 : Int32) then
  ((-9 : Int32))
  else
  (if x0 = (114 : Int32) then
  ((0 : Int32))
  else
  (if x0 = (115 : Int32) then
  ((1 : Int32))
  else
  (if x0 = (116 : Int32) then
  ((4 : Int32))
  else
  (if x0 = (117 : Int32) then
  ((-9 : Int32))
  else
  (if x0 = (118 : Int32) then
  ((-9 : Int32))
  else
  (if x0 = (119 : Int32) then
  ((5 : Int32))
  else
  ((-9 : Int32)))))))))))
set_option maxHeartbeats 4000000 in
set_option maxRecDepth 100000 in
theorem c_X1_kindOfLetter {G : x_G} {l : Launch} {x0 : Int32} {res : Int32} (h : M_X1_kindOfLetter x0 = res) : x_M G l yX1_kindOfLetter cX1_kindOfLetter 1 (some .int) (0) 0 0 [.int x0] ([] : va_W) (x_is (some (.int res)) ([] : va_W)) := by
  unfold M_X1_kindOfLetter at h
  refine x_enter (ini := false) (by decide) rfl (by decide) rfl (Nat.le_of_ble_eq_true rfl) ?_
  refine x_iload_n dX1_kindOfLetter_0 0 rfl rfl ?_
  by_cases c1 : x0 = (110 : Int32)
  · have h := x_pos c1 h
    refine x_tswEq (off := 61) (110 : Int32) 62 c1 dX1_kindOfLetter_1 (by decide) (by decide) (by decide) (by decide) ?_
    refine x_iconst 3 dX1_kindOfLetter_62 (by decide) ?_
    subst h
    exact x_ireturn dX1_kindOfLetter_63 rfl (x_is.rf _ _)
  · have h := x_neg c1 h
    by_cases c2 : x0 = (111 : Int32)
    · have h := x_pos c2 h
      refine x_tswEq (off := 67) (111 : Int32) 68 c2 dX1_kindOfLetter_1 (by decide) (by decide) (by decide) (by decide) ?_
      refine x_bipush (-9 : Int32) dX1_kindOfLetter_68 (by decide) ?_
      subst h
      exact x_ireturn dX1_kindOfLetter_70 rfl (x_is.rf _ _)
    · have h := x_neg c2 h
      by_cases c3 : x0 = (112 : Int32)
      · have h := x_pos c3 h
        refine x_tswEq (off := 59) (112 : Int32) 60 c3 dX1_kindOfLetter_1 (by decide) (by decide) (by decide) (by decide) ?_
        refine x_iconst 2 dX1_kindOfLetter_60 (by decide) ?_
        subst h
        exact x_ireturn dX1_kindOfLetter_61 rfl (x_is.rf _ _)
      · have h := x_neg c3 h
        by_cases c4 : x0 = (113 : Int32)
        · have h := x_pos c4 h
          refine x_tswEq (off := 67) (113 : Int32) 68 c4 dX1_kindOfLetter_1 (by decide) (by decide) (by decide) (by decide) ?_
          refine x_bipush (-9 : Int32) dX1_kindOfLetter_68 (by decide) ?_
          subst h
          exact x_ireturn dX1_kindOfLetter_70 rfl (x_is.rf _ _)
        · have h := x_neg c4 h
          by_cases c5 : x0 = (114 : Int32)
          · have h := x_pos c5 h
            refine x_tswEq (off := 55) (114 : Int32) 56 c5 dX1_kindOfLetter_1 (by decide) (by decide) (by decide) (by decide) ?_
            refine x_iconst 0 dX1_kindOfLetter_56 (by decide) ?_
            subst h
            exact x_ireturn dX1_kindOfLetter_57 rfl (x_is.rf _ _)
          · have h := x_neg c5 h
            by_cases c6 : x0 = (115 : Int32)
            · have h := x_pos c6 h
              refine x_tswEq (off := 57) (115 : Int32) 58 c6 dX1_kindOfLetter_1 (by decide) (by decide) (by decide) (by decide) ?_
              refine x_iconst 1 dX1_kindOfLetter_58 (by decide) ?_
              subst h
              exact x_ireturn dX1_kindOfLetter_59 rfl (x_is.rf _ _)
            · have h := x_neg c6 h
              by_cases c7 : x0 = (116 : Int32)
              · have h := x_pos c7 h
                refine x_tswEq (off := 63) (116 : Int32) 64 c7 dX1_kindOfLetter_1 (by decide) (by decide) (by decide) (by decide) ?_
                refine x_iconst 4 dX1_kindOfLetter_64 (by decide) ?_
                subst h
                exact x_ireturn dX1_kindOfLetter_65 rfl (x_is.rf _ _)
              · have h := x_neg c7 h
                by_cases c8 : x0 = (117 : Int32)
                · have h := x_pos c8 h
                  refine x_tswEq (off := 67) (117 : Int32) 68 c8 dX1_kindOfLetter_1 (by decide) (by decide) (by decide) (by decide) ?_
                  refine x_bipush (-9 : Int32) dX1_kindOfLetter_68 (by decide) ?_
                  subst h
                  exact x_ireturn dX1_kindOfLetter_70 rfl (x_is.rf _ _)
                · have h := x_neg c8 h
                  by_cases c9 : x0 = (118 : Int32)
                  · have h := x_pos c9 h
                    refine x_tswEq (off := 67) (118 : Int32) 68 c9 dX1_kindOfLetter_1 (by decide) (by decide) (by decide) (by decide) ?_
                    refine x_bipush (-9 : Int32) dX1_kindOfLetter_68 (by decide) ?_
                    subst h
                    exact x_ireturn dX1_kindOfLetter_70 rfl (x_is.rf _ _)
                  · have h := x_neg c9 h
                    by_cases c10 : x0 = (119 : Int32)
                    · have h := x_pos c10 h
                      refine x_tswEq (off := 65) (119 : Int32) 66 c10 dX1_kindOfLetter_1 (by decide) (by decide) (by decide) (by decide) ?_
                      refine x_iconst 5 dX1_kindOfLetter_66 (by decide) ?_
                      subst h
                      exact x_ireturn dX1_kindOfLetter_67 rfl (x_is.rf _ _)
                    · have h := x_neg c10 h
                      refine x_tswOut 68 dX1_kindOfLetter_1 (by have q0 := lv_neT c1 (a := 110) (by decide); have q1 := lv_neT c2 (a := 111) (by decide); have q2 := lv_neT c3 (a := 112) (by decide); have q3 := lv_neT c4 (a := 113) (by decide); have q4 := lv_neT c5 (a := 114) (by decide); have q5 := lv_neT c6 (a := 115) (by decide); have q6 := lv_neT c7 (a := 116) (by decide); have q7 := lv_neT c8 (a := 117) (by decide); have q8 := lv_neT c9 (a := 118) (by decide); have q9 := lv_neT c10 (a := 119) (by decide); omega) (by decide) ?_
                      refine x_bipush (-9 : Int32) dX1_kindOfLetter_68 (by decide) ?_
                      subst h
                      exact x_ireturn dX1_kindOfLetter_70 rfl (x_is.rf _ _)
theorem pk_X1_figure : x_pv RX1 yX1_figure cX1_figure 4 (some .int) 2 := ⟨⟨co_X1_figure, ni_X1, by decide, by decide +kernel⟩, im_X1_figure, se_X1_figure⟩
def M_X1_figure_b50 (signs : (Nat → Int32)) (size : Int32) (place : Int32) (fault : Int32) : Option (Int32 × Int32 × Int32) :=
  some ((0 : Int32), place, place)
set_option maxHeartbeats 4000000 in
set_option maxRecDepth 100000 in
theorem w_X1_figure_b50 {G : x_G} {l : Launch} {ad : Nat → Nat} {signs : (Nat → Int32)} {size : Int32} {head : Int32} {res : Int32 × Int32 × Int32} (place : Int32) (fault : Int32) (h : M_X1_figure_b50 signs size place fault = some res) : X G l RX1 cX1_figure 4 (x_R 1 0 0) (x_Cm G (some .int) false (x_is (some (.int res.1)) (WReader G ad signs size res.2.1 res.2.2 head)) 0 0) 0 0 50 [(0, .ref (ad 0))] [] (WReader G ad signs size place fault head) := by
  unfold M_X1_figure_b50 at h
  refine x_aload_n dX1_figure_50 0 rfl rfl ?_
  refine x_aload_n dX1_figure_51 0 rfl rfl ?_
  refine x_get (ci := 1) 2 0 dX1_figure_52 fl_X1_19 inX1 rfl (by decide) ⟨rfl, rfl, rfl⟩ rfl rfl ?_
  refine x_put (ci := 1) (ty := .int) 3 0 (WReader G ad signs size place place head) dX1_figure_55 fl_X1_22 inX1 tyX1_ok nmX1 rfl (by decide) ⟨rfl, rfl, rfl, rfl, rfl⟩ rfl rfl rfl rfl rfl ?_
  refine x_iconst 0 dX1_figure_58 (by decide) ?_
  cases h
  exact x_ireturn dX1_figure_59 rfl (x_is.rf _ _)
def M_X1_figure (signs : (Nat → Int32)) (size : Int32) (place : Int32) (fault : Int32) (x1 : Int32) (x2 : Int32) : Option (Int32 × Int32 × Int32) :=
  if fault = (-9 : Int32) then
  (if place < size then
  ((M_X1_sign signs size place).bind fun r3 =>
  if (r3 - (48 : Int32)) < x1 then
  (M_X1_figure_b50 signs size place fault)
  else
  (if (r3 - (48 : Int32)) ≤ x2 then
  (some ((r3 - (48 : Int32)), (place + (1 : Int32)), fault))
  else
  (M_X1_figure_b50 signs size place fault)))
  else
  (some ((0 : Int32), place, size)))
  else
  (some ((0 : Int32), place, fault))
set_option maxHeartbeats 4000000 in
set_option maxRecDepth 100000 in
theorem c_X1_figure {G : x_G} {l : Launch} {ad : Nat → Nat} {signs : (Nat → Int32)} {size : Int32} {head : Int32} {place : Int32} {fault : Int32} {x1 : Int32} {x2 : Int32} {res : Int32 × Int32 × Int32} (h : M_X1_figure signs size place fault x1 x2 = some res) : x_M G l yX1_figure cX1_figure 4 (some .int) (1) 0 0 [.ref (ad 0), .int x1, .int x2] (WReader G ad signs size place fault head) (x_is (some (.int res.1)) (WReader G ad signs size res.2.1 res.2.2 head)) := by
  unfold M_X1_figure at h
  refine x_enter (ini := false) (by decide) rfl (by decide) rfl (Nat.le_of_ble_eq_true rfl) ?_
  refine x_aload_n dX1_figure_0 0 rfl rfl ?_
  refine x_get (ci := 1) 3 0 dX1_figure_1 fl_X1_22 inX1 rfl (by decide) ⟨rfl, rfl, rfl⟩ rfl rfl ?_
  refine x_bipush (-9 : Int32) dX1_figure_4 (by decide) ?_
  refine x_icmp_eq 11 dX1_figure_6 (by decide) (fun c1 => ?_) (fun c1 => ?_)
  · have h := x_pos c1 h
    refine x_aload_n dX1_figure_11 0 rfl rfl ?_
    refine x_get (ci := 1) 2 0 dX1_figure_12 fl_X1_19 inX1 rfl (by decide) ⟨rfl, rfl, rfl⟩ rfl rfl ?_
    refine x_aload_n dX1_figure_15 0 rfl rfl ?_
    refine x_get (ci := 1) 1 0 dX1_figure_16 fl_X1_15 inX1 rfl (by decide) ⟨rfl, rfl, rfl⟩ rfl rfl ?_
    refine x_icmp_lt 32 dX1_figure_19 (by decide) (fun c2 => ?_) (fun c2 => ?_)
    · have h := x_pos c2 h
      refine x_aload_n dX1_figure_32 0 rfl rfl ?_
      obtain ⟨r3, e4, h⟩ := x_bind h
      refine x_cV (As := []) (wc := (WReader G ad signs size place fault head)) (w1 := (WReader G ad signs size place fault head)) (pre := []) (post := []) (rest := []) (st1 := [.int r3]) (ws1 := (WReader G ad signs size place fault head)) (ci := 1) 0 dX1_figure_33 (c_X1_sign (ad := ad) e4) pk_X1_sign ml_X1_63 (x_full _) rfl rfl rfl rfl rfl rfl rfl rfl (x_full _).symm ?_
      refine x_bipush 48 dX1_figure_36 (by decide) ?_
      refine x_isub dX1_figure_38 ?_
      refine x_istore_n [(3, .int (r3 - (48 : Int32))), (0, .ref (ad 0)), (1, .int x1), (2, .int x2)] dX1_figure_39 rfl (by decide) rfl ?_
      refine x_iload_n dX1_figure_40 0 rfl rfl ?_
      refine x_iload_n dX1_figure_41 2 rfl rfl ?_
      refine x_icmp_lt 50 dX1_figure_42 (by decide) (fun c5 => ?_) (fun c5 => ?_)
      · have h := x_pos c5 h
        refine x_lv [1] rfl ?_
        exact w_X1_figure_b50  _ _ h
      · have h := x_neg c5 h
        refine x_iload_n dX1_figure_45 0 rfl rfl ?_
        refine x_iload_n dX1_figure_46 3 rfl rfl ?_
        refine x_icmp_le 60 dX1_figure_47 (by decide) (fun c6 => ?_) (fun c6 => ?_)
        · have h := x_pos c6 h
          refine x_aload_n dX1_figure_60 1 rfl rfl ?_
          refine x_dup dX1_figure_61 rfl ?_
          refine x_get (ci := 1) 2 0 dX1_figure_62 fl_X1_19 inX1 rfl (by decide) ⟨rfl, rfl, rfl⟩ rfl rfl ?_
          refine x_iconst 1 dX1_figure_65 (by decide) ?_
          refine x_iadd dX1_figure_66 ?_
          refine x_put (ci := 1) (ty := .int) 2 0 (WReader G ad signs size ((place + (1 : Int32))) fault head) dX1_figure_67 fl_X1_19 inX1 tyX1_ok nmX1 rfl (by decide) ⟨rfl, rfl, rfl, rfl, rfl⟩ rfl rfl rfl rfl rfl ?_
          refine x_iload_n dX1_figure_70 0 rfl rfl ?_
          cases h
          exact x_ireturn dX1_figure_71 rfl (x_is.rf _ _)
        · have h := x_neg c6 h
          refine x_lv [1] rfl ?_
          exact w_X1_figure_b50  _ _ h
    · have h := x_neg c2 h
      refine x_aload_n dX1_figure_22 0 rfl rfl ?_
      refine x_aload_n dX1_figure_23 0 rfl rfl ?_
      refine x_get (ci := 1) 1 0 dX1_figure_24 fl_X1_15 inX1 rfl (by decide) ⟨rfl, rfl, rfl⟩ rfl rfl ?_
      refine x_put (ci := 1) (ty := .int) 3 0 (WReader G ad signs size place size head) dX1_figure_27 fl_X1_22 inX1 tyX1_ok nmX1 rfl (by decide) ⟨rfl, rfl, rfl, rfl, rfl⟩ rfl rfl rfl rfl rfl ?_
      refine x_iconst 0 dX1_figure_30 (by decide) ?_
      cases h
      exact x_ireturn dX1_figure_31 rfl (x_is.rf _ _)
  · have h := x_neg c1 h
    refine x_iconst 0 dX1_figure_9 (by decide) ?_
    cases h
    exact x_ireturn dX1_figure_10 rfl (x_is.rf _ _)
theorem pk_X1_readHead : x_pv RX1 yX1_readHead cX1_readHead 3 none 1 := ⟨⟨co_X1_readHead, ni_X1, by decide, by decide +kernel⟩, im_X1_readHead, se_X1_readHead⟩
def M_X1_readHead (rd_signs : (Nat → Int32)) (rd_size : Int32) (rd_place : Int32) (rd_fault : Int32) (rd_head : Int32) (rg_start : Int64) : Option (Int32 × Int32 × Int32 × Int64) :=
  (M_X1_figure rd_signs rd_size (rd_place + (1 : Int32)) rd_fault (0 : Int32) (1 : Int32)).bind fun r1 =>
  some (r1.2.1, r1.2.2, (1 : Int32), (M_X5_afterFrost rg_start r1.1))
set_option maxHeartbeats 4000000 in
set_option maxRecDepth 100000 in
theorem c_X1_readHead {G : x_G} {l : Launch} {ad : Nat → Nat} {b : Nat → Nat} {rd_signs : (Nat → Int32)} {rd_size : Int32} {rg_ropes : Int32} {rg_acts : Int32} {rg_reached : Int32} {rg_kinds : (Nat → Int32)} {rg_strengths : (Nat → Int32)} {rg_moved : (Nat → Int32)} {rg_needs : (Nat → Int32)} {rg_forbids : (Nat → Int32)} {rd_place : Int32} {rd_fault : Int32} {rd_head : Int32} {rg_start : Int64} {res : Int32 × Int32 × Int32 × Int64} (h : M_X1_readHead rd_signs rd_size rd_place rd_fault rd_head rg_start = some res) : x_M G l yX1_readHead cX1_readHead 3 none (2) 0 0 [.ref (ad 0), .ref (b 0)] ((WReader G ad rd_signs rd_size rd_place rd_fault rd_head) ++ (WRig G b rg_ropes rg_acts rg_start rg_reached rg_kinds rg_strengths rg_moved rg_needs rg_forbids)) (x_is none ((WReader G ad rd_signs rd_size res.1 res.2.1 res.2.2.1) ++ (WRig G b rg_ropes rg_acts res.2.2.2 rg_reached rg_kinds rg_strengths rg_moved rg_needs rg_forbids))) := by
  unfold M_X1_readHead at h
  refine x_enter (ini := false) (by decide) rfl (by decide) rfl (Nat.le_of_ble_eq_true rfl) ?_
  refine x_aload_n dX1_readHead_0 0 rfl rfl ?_
  refine x_dup dX1_readHead_1 rfl ?_
  refine x_get (ci := 1) 2 0 dX1_readHead_2 fl_X1_19 inX1 rfl (by decide) ⟨rfl, rfl, rfl⟩ rfl rfl ?_
  refine x_iconst 1 dX1_readHead_5 (by decide) ?_
  refine x_iadd dX1_readHead_6 ?_
  refine x_put (ci := 1) (ty := .int) 2 0 ((WReader G ad rd_signs rd_size ((rd_place + (1 : Int32))) rd_fault rd_head) ++ (WRig G b rg_ropes rg_acts rg_start rg_reached rg_kinds rg_strengths rg_moved rg_needs rg_forbids)) dX1_readHead_7 fl_X1_19 inX1 tyX1_ok nmX1 rfl (by decide) ⟨rfl, rfl, rfl, rfl, rfl⟩ rfl rfl rfl rfl rfl ?_
  refine x_aload_n dX1_readHead_10 0 rfl rfl ?_
  refine x_iconst 0 dX1_readHead_11 (by decide) ?_
  refine x_iconst 1 dX1_readHead_12 (by decide) ?_
  obtain ⟨r1, e2, h⟩ := x_bind h
  refine x_cV (As := [.int (0 : Int32), .int (1 : Int32)]) (wc := (WReader G ad rd_signs rd_size ((rd_place + (1 : Int32))) rd_fault rd_head)) (w1 := (WReader G ad rd_signs rd_size r1.2.1 r1.2.2 rd_head)) (pre := ([] : va_W)) (post := (WRig G b rg_ropes rg_acts rg_start rg_reached rg_kinds rg_strengths rg_moved rg_needs rg_forbids)) (rest := []) (st1 := [.int r1.1]) (ws1 := ((WReader G ad rd_signs rd_size r1.2.1 r1.2.2 rd_head) ++ (WRig G b rg_ropes rg_acts rg_start rg_reached rg_kinds rg_strengths rg_moved rg_needs rg_forbids))) (ci := 1) 0 dX1_readHead_13 (c_X1_figure (ad := ad) e2) pk_X1_figure ml_X1_83 (by simp only [List.append_assoc, List.append_nil, List.nil_append]) rfl rfl rfl rfl rfl rfl rfl rfl (by simp only [List.append_assoc, List.append_nil, List.nil_append]) ?_
  refine x_istore_n [(2, .int r1.1), (0, .ref (ad 0)), (1, .ref (b 0))] dX1_readHead_16 rfl (by decide) rfl ?_
  refine x_aload_n dX1_readHead_17 1 rfl rfl ?_
  refine x_iconst 1 dX1_readHead_18 (by decide) ?_
  refine x_put (ci := 1) (ty := .boolean) 4 0 ((WReader G ad rd_signs rd_size r1.2.1 r1.2.2 ((1 : Int32))) ++ (WRig G b rg_ropes rg_acts rg_start rg_reached rg_kinds rg_strengths rg_moved rg_needs rg_forbids)) dX1_readHead_19 fl_X1_25 inX1 tyX1_ok nmX1 rfl (by decide) ⟨rfl, rfl, rfl, rfl, rfl⟩ rfl rfl rfl rfl rfl ?_
  refine x_aload_n dX1_readHead_22 2 rfl rfl ?_
  refine x_aload_n dX1_readHead_23 2 rfl rfl ?_
  refine x_get (ci := 2) 2 2 dX1_readHead_24 fl_X1_86 inX2 rfl (by decide) ⟨rfl, rfl, rfl⟩ rfl rfl ?_
  refine x_iload_n dX1_readHead_27 0 rfl rfl ?_
  refine x_cS (As := [.long rg_start, .int r1.1]) (wc := ([] : va_W)) (w1 := ([] : va_W)) (pre := []) (post := ((WReader G ad rd_signs rd_size r1.2.1 r1.2.2 ((1 : Int32))) ++ (WRig G b rg_ropes rg_acts rg_start rg_reached rg_kinds rg_strengths rg_moved rg_needs rg_forbids))) (rest := [.ref (b 0)]) (st1 := [.long (M_X5_afterFrost rg_start r1.1), .ref (b 0)]) (ws1 := ((WReader G ad rd_signs rd_size r1.2.1 r1.2.2 ((1 : Int32))) ++ (WRig G b rg_ropes rg_acts rg_start rg_reached rg_kinds rg_strengths rg_moved rg_needs rg_forbids))) dX1_readHead_28 (c_X5_afterFrost rfl) pk_X5_afterFrost ml_X1_90 rfl rfl rfl rfl rfl rfl rfl ?_
  refine x_put (ci := 2) (ty := .long) 2 2 ((WReader G ad rd_signs rd_size r1.2.1 r1.2.2 ((1 : Int32))) ++ (WRig G b rg_ropes rg_acts ((M_X5_afterFrost rg_start r1.1)) rg_reached rg_kinds rg_strengths rg_moved rg_needs rg_forbids)) dX1_readHead_31 fl_X1_86 inX2 tyX2_ok nmX2 rfl (by decide) ⟨rfl, rfl, rfl, rfl, rfl⟩ rfl rfl rfl rfl rfl ?_
  cases h
  exact x_return dX1_readHead_34 (x_is.rf _ _)
theorem pk_X1_ropeSet : x_pv RX1 yX1_ropeSet cX1_ropeSet 4 (some .int) 0 := ⟨⟨co_X1_ropeSet, ni_X1, by decide, by decide +kernel⟩, im_X1_ropeSet, se_X1_ropeSet⟩
def M_X1_ropeSet (signs : (Nat → Int32)) (size : Int32) (place : Int32) (fault : Int32) : Option (Int32 × Int32 × Int32) :=
  (M_X1_figure signs size place fault (0 : Int32) (9 : Int32)).bind fun r1 =>
  (M_X1_figure signs size r1.2.1 r1.2.2 (0 : Int32) (9 : Int32)).bind fun r3 =>
  if r3.2.2 = (-9 : Int32) then
  (if (((10 : Int32) * r1.1) + r3.1) ≤ (63 : Int32) then
  (some ((((10 : Int32) * r1.1) + r3.1), r3.2.1, r3.2.2))
  else
  (some ((((10 : Int32) * r1.1) + r3.1), r3.2.1, place)))
  else
  (some ((((10 : Int32) * r1.1) + r3.1), r3.2.1, r3.2.2))
set_option maxHeartbeats 4000000 in
set_option maxRecDepth 100000 in
theorem c_X1_ropeSet {G : x_G} {l : Launch} {ad : Nat → Nat} {signs : (Nat → Int32)} {size : Int32} {head : Int32} {place : Int32} {fault : Int32} {res : Int32 × Int32 × Int32} (h : M_X1_ropeSet signs size place fault = some res) : x_M G l yX1_ropeSet cX1_ropeSet 4 (some .int) (2) 0 0 [.ref (ad 0)] (WReader G ad signs size place fault head) (x_is (some (.int res.1)) (WReader G ad signs size res.2.1 res.2.2 head)) := by
  unfold M_X1_ropeSet at h
  refine x_enter (ini := false) (by decide) rfl (by decide) rfl (Nat.le_of_ble_eq_true rfl) ?_
  refine x_aload_n dX1_ropeSet_0 0 rfl rfl ?_
  refine x_get (ci := 1) 2 0 dX1_ropeSet_1 fl_X1_19 inX1 rfl (by decide) ⟨rfl, rfl, rfl⟩ rfl rfl ?_
  refine x_istore_n [(1, .int place), (0, .ref (ad 0))] dX1_ropeSet_4 rfl (by decide) rfl ?_
  refine x_aload_n dX1_ropeSet_5 1 rfl rfl ?_
  refine x_iconst 0 dX1_ropeSet_6 (by decide) ?_
  refine x_bipush 9 dX1_ropeSet_7 (by decide) ?_
  obtain ⟨r1, e2, h⟩ := x_bind h
  refine x_cV (As := [.int (0 : Int32), .int (9 : Int32)]) (wc := (WReader G ad signs size place fault head)) (w1 := (WReader G ad signs size r1.2.1 r1.2.2 head)) (pre := []) (post := []) (rest := []) (st1 := [.int r1.1]) (ws1 := (WReader G ad signs size r1.2.1 r1.2.2 head)) (ci := 1) 0 dX1_ropeSet_9 (c_X1_figure (ad := ad) e2) pk_X1_figure ml_X1_83 (x_full _) rfl rfl rfl rfl rfl rfl rfl rfl (x_full _).symm ?_
  refine x_istore_n [(2, .int r1.1), (1, .int place), (0, .ref (ad 0))] dX1_ropeSet_12 rfl (by decide) rfl ?_
  refine x_bipush 10 dX1_ropeSet_13 (by decide) ?_
  refine x_iload_n dX1_ropeSet_15 0 rfl rfl ?_
  refine x_imul dX1_ropeSet_16 ?_
  refine x_aload_n dX1_ropeSet_17 2 rfl rfl ?_
  refine x_iconst 0 dX1_ropeSet_18 (by decide) ?_
  refine x_bipush 9 dX1_ropeSet_19 (by decide) ?_
  obtain ⟨r3, e4, h⟩ := x_bind h
  refine x_cV (As := [.int (0 : Int32), .int (9 : Int32)]) (wc := (WReader G ad signs size r1.2.1 r1.2.2 head)) (w1 := (WReader G ad signs size r3.2.1 r3.2.2 head)) (pre := []) (post := []) (rest := [.int ((10 : Int32) * r1.1)]) (st1 := [.int r3.1, .int ((10 : Int32) * r1.1)]) (ws1 := (WReader G ad signs size r3.2.1 r3.2.2 head)) (ci := 1) 0 dX1_ropeSet_21 (c_X1_figure (ad := ad) e4) pk_X1_figure ml_X1_83 (x_full _) rfl rfl rfl rfl rfl rfl rfl rfl (x_full _).symm ?_
  refine x_iadd dX1_ropeSet_24 ?_
  refine x_istore_n [(3, .int (((10 : Int32) * r1.1) + r3.1)), (2, .int r1.1), (1, .int place), (0, .ref (ad 0))] dX1_ropeSet_25 rfl (by decide) rfl ?_
  refine x_aload_n dX1_ropeSet_26 3 rfl rfl ?_
  refine x_get (ci := 1) 3 0 dX1_ropeSet_27 fl_X1_22 inX1 rfl (by decide) ⟨rfl, rfl, rfl⟩ rfl rfl ?_
  refine x_bipush (-9 : Int32) dX1_ropeSet_30 (by decide) ?_
  refine x_icmp_ne 46 dX1_ropeSet_32 (by decide) (fun c5 => ?_) (fun c5 => ?_)
  · have h := x_neg c5 h
    refine x_iload_n dX1_ropeSet_46 0 rfl rfl ?_
    cases h
    exact x_ireturn dX1_ropeSet_47 rfl (x_is.rf _ _)
  · have h := x_pos c5 h
    refine x_iload_n dX1_ropeSet_35 0 rfl rfl ?_
    refine x_bipush 63 dX1_ropeSet_36 (by decide) ?_
    refine x_icmp_le 46 dX1_ropeSet_38 (by decide) (fun c6 => ?_) (fun c6 => ?_)
    · have h := x_pos c6 h
      refine x_iload_n dX1_ropeSet_46 0 rfl rfl ?_
      cases h
      exact x_ireturn dX1_ropeSet_47 rfl (x_is.rf _ _)
    · have h := x_neg c6 h
      refine x_aload_n dX1_ropeSet_41 3 rfl rfl ?_
      refine x_iload_n dX1_ropeSet_42 2 rfl rfl ?_
      refine x_put (ci := 1) (ty := .int) 3 0 (WReader G ad signs size r3.2.1 place head) dX1_ropeSet_43 fl_X1_22 inX1 tyX1_ok nmX1 rfl (by decide) ⟨rfl, rfl, rfl, rfl, rfl⟩ rfl rfl rfl rfl rfl ?_
      refine x_iload_n dX1_ropeSet_46 0 rfl rfl ?_
      cases h
      exact x_ireturn dX1_ropeSet_47 rfl (x_is.rf _ _)
theorem pk_X1_readAct : x_pv RX1 yX1_readAct cX1_readAct 4 none 1 := ⟨⟨co_X1_readAct, ni_X1, by decide, by decide +kernel⟩, im_X1_readAct, se_X1_readAct⟩
def M_X1_readAct (rd_signs : (Nat → Int32)) (rd_size : Int32) (rd_place : Int32) (rd_fault : Int32) (rg_acts : Int32) (rg_needs : (Nat → Int32)) (rg_forbids : (Nat → Int32)) : Option (Int32 × Int32 × Int32 × (Nat → Int32) × (Nat → Int32)) :=
  (M_X1_ropeSet rd_signs rd_size (rd_place + (1 : Int32)) rd_fault).bind fun r1 =>
  (M_X1_ropeSet rd_signs rd_size r1.2.1 r1.2.2).bind fun r3 =>
  if r3.2.2 = (-9 : Int32) then
  ((M_X2_addAct rg_acts rg_needs rg_forbids r1.1 r3.1).bind fun r6 =>
  some (r3.2.1, r3.2.2, r6.1, r6.2.1, r6.2.2))
  else
  (some (r3.2.1, r3.2.2, rg_acts, rg_needs, rg_forbids))
set_option maxHeartbeats 4000000 in
set_option maxRecDepth 100000 in
theorem c_X1_readAct {G : x_G} {l : Launch} {ad : Nat → Nat} {b : Nat → Nat} {rd_signs : (Nat → Int32)} {rd_size : Int32} {rd_head : Int32} {rg_ropes : Int32} {rg_start : Int64} {rg_reached : Int32} {rg_kinds : (Nat → Int32)} {rg_strengths : (Nat → Int32)} {rg_moved : (Nat → Int32)} {rd_place : Int32} {rd_fault : Int32} {rg_acts : Int32} {rg_needs : (Nat → Int32)} {rg_forbids : (Nat → Int32)} {res : Int32 × Int32 × Int32 × (Nat → Int32) × (Nat → Int32)} (h : M_X1_readAct rd_signs rd_size rd_place rd_fault rg_acts rg_needs rg_forbids = some res) : x_M G l yX1_readAct cX1_readAct 4 none (3) 0 0 [.ref (ad 0), .ref (b 0)] ((WReader G ad rd_signs rd_size rd_place rd_fault rd_head) ++ (WRig G b rg_ropes rg_acts rg_start rg_reached rg_kinds rg_strengths rg_moved rg_needs rg_forbids)) (x_is none ((WReader G ad rd_signs rd_size res.1 res.2.1 rd_head) ++ (WRig G b rg_ropes res.2.2.1 rg_start rg_reached rg_kinds rg_strengths rg_moved res.2.2.2.1 res.2.2.2.2))) := by
  unfold M_X1_readAct at h
  refine x_enter (ini := false) (by decide) rfl (by decide) rfl (Nat.le_of_ble_eq_true rfl) ?_
  refine x_aload_n dX1_readAct_0 0 rfl rfl ?_
  refine x_dup dX1_readAct_1 rfl ?_
  refine x_get (ci := 1) 2 0 dX1_readAct_2 fl_X1_19 inX1 rfl (by decide) ⟨rfl, rfl, rfl⟩ rfl rfl ?_
  refine x_iconst 1 dX1_readAct_5 (by decide) ?_
  refine x_iadd dX1_readAct_6 ?_
  refine x_put (ci := 1) (ty := .int) 2 0 ((WReader G ad rd_signs rd_size ((rd_place + (1 : Int32))) rd_fault rd_head) ++ (WRig G b rg_ropes rg_acts rg_start rg_reached rg_kinds rg_strengths rg_moved rg_needs rg_forbids)) dX1_readAct_7 fl_X1_19 inX1 tyX1_ok nmX1 rfl (by decide) ⟨rfl, rfl, rfl, rfl, rfl⟩ rfl rfl rfl rfl rfl ?_
  refine x_aload_n dX1_readAct_10 0 rfl rfl ?_
  obtain ⟨r1, e2, h⟩ := x_bind h
  refine x_cV (As := []) (wc := (WReader G ad rd_signs rd_size ((rd_place + (1 : Int32))) rd_fault rd_head)) (w1 := (WReader G ad rd_signs rd_size r1.2.1 r1.2.2 rd_head)) (pre := ([] : va_W)) (post := (WRig G b rg_ropes rg_acts rg_start rg_reached rg_kinds rg_strengths rg_moved rg_needs rg_forbids)) (rest := []) (st1 := [.int r1.1]) (ws1 := ((WReader G ad rd_signs rd_size r1.2.1 r1.2.2 rd_head) ++ (WRig G b rg_ropes rg_acts rg_start rg_reached rg_kinds rg_strengths rg_moved rg_needs rg_forbids))) (ci := 1) 0 dX1_readAct_11 (c_X1_ropeSet (ad := ad) e2) pk_X1_ropeSet ml_X1_100 (by simp only [List.append_assoc, List.append_nil, List.nil_append]) rfl rfl rfl rfl rfl rfl rfl rfl (by simp only [List.append_assoc, List.append_nil, List.nil_append]) ?_
  refine x_istore_n [(2, .int r1.1), (0, .ref (ad 0)), (1, .ref (b 0))] dX1_readAct_14 rfl (by decide) rfl ?_
  refine x_aload_n dX1_readAct_15 1 rfl rfl ?_
  obtain ⟨r3, e4, h⟩ := x_bind h
  refine x_cV (As := []) (wc := (WReader G ad rd_signs rd_size r1.2.1 r1.2.2 rd_head)) (w1 := (WReader G ad rd_signs rd_size r3.2.1 r3.2.2 rd_head)) (pre := ([] : va_W)) (post := (WRig G b rg_ropes rg_acts rg_start rg_reached rg_kinds rg_strengths rg_moved rg_needs rg_forbids)) (rest := []) (st1 := [.int r3.1]) (ws1 := ((WReader G ad rd_signs rd_size r3.2.1 r3.2.2 rd_head) ++ (WRig G b rg_ropes rg_acts rg_start rg_reached rg_kinds rg_strengths rg_moved rg_needs rg_forbids))) (ci := 1) 0 dX1_readAct_16 (c_X1_ropeSet (ad := ad) e4) pk_X1_ropeSet ml_X1_100 (by simp only [List.append_assoc, List.append_nil, List.nil_append]) rfl rfl rfl rfl rfl rfl rfl rfl (by simp only [List.append_assoc, List.append_nil, List.nil_append]) ?_
  refine x_istore_n [(3, .int r3.1), (2, .int r1.1), (0, .ref (ad 0)), (1, .ref (b 0))] dX1_readAct_19 rfl (by decide) rfl ?_
  refine x_aload_n dX1_readAct_20 2 rfl rfl ?_
  refine x_get (ci := 1) 3 0 dX1_readAct_21 fl_X1_22 inX1 rfl (by decide) ⟨rfl, rfl, rfl⟩ rfl rfl ?_
  refine x_bipush (-9 : Int32) dX1_readAct_24 (by decide) ?_
  refine x_icmp_ne 35 dX1_readAct_26 (by decide) (fun c5 => ?_) (fun c5 => ?_)
  · have h := x_neg c5 h
    cases h
    exact x_return dX1_readAct_35 (x_is.rf _ _)
  · have h := x_pos c5 h
    refine x_aload_n dX1_readAct_29 3 rfl rfl ?_
    refine x_iload_n dX1_readAct_30 1 rfl rfl ?_
    refine x_iload_n dX1_readAct_31 0 rfl rfl ?_
    obtain ⟨r6, e7, h⟩ := x_bind h
    refine x_cV (As := [.int r1.1, .int r3.1]) (wc := (WRig G b rg_ropes rg_acts rg_start rg_reached rg_kinds rg_strengths rg_moved rg_needs rg_forbids)) (w1 := (WRig G b rg_ropes r6.1 rg_start rg_reached rg_kinds rg_strengths rg_moved r6.2.1 r6.2.2)) (pre := (WReader G ad rd_signs rd_size r3.2.1 r3.2.2 rd_head)) (post := ([] : va_W)) (rest := []) (st1 := []) (ws1 := ((WReader G ad rd_signs rd_size r3.2.1 r3.2.2 rd_head) ++ (WRig G b rg_ropes r6.1 rg_start rg_reached rg_kinds rg_strengths rg_moved r6.2.1 r6.2.2))) (ci := 2) 0 dX1_readAct_32 (c_X2_addAct (b := b) e7) pk_X2_addAct ml_X1_103 (by simp only [List.append_assoc, List.append_nil, List.nil_append]) rfl rfl rfl rfl rfl rfl rfl rfl (by simp only [List.append_assoc, List.append_nil, List.nil_append]) ?_
    cases h
    exact x_return dX1_readAct_35 (x_is.rf _ _)
theorem pk_X1_readRope : x_pv RX1 yX1_readRope cX1_readRope 6 none 2 := ⟨⟨co_X1_readRope, ni_X1, by decide, by decide +kernel⟩, im_X1_readRope, se_X1_readRope⟩
def M_X1_readRope (rd_signs : (Nat → Int32)) (rd_size : Int32) (rd_place : Int32) (rd_fault : Int32) (rg_ropes : Int32) (rg_start : Int64) (rg_kinds : (Nat → Int32)) (rg_strengths : (Nat → Int32)) (rg_moved : (Nat → Int32)) (x2 : Int32) : Option (Int32 × Int32 × Int32 × Int64 × (Nat → Int32) × (Nat → Int32) × (Nat → Int32)) :=
  (M_X1_figure rd_signs rd_size (rd_place + (1 : Int32)) rd_fault (1 : Int32) (9 : Int32)).bind fun r1 =>
  (M_X1_figure rd_signs rd_size r1.2.1 r1.2.2 (0 : Int32) (5 : Int32)).bind fun r3 =>
  (M_X1_figure rd_signs rd_size r3.2.1 r3.2.2 (0 : Int32) r1.1).bind fun r5 =>
  if r5.2.2 = (-9 : Int32) then
  ((M_X2_addRope rg_ropes rg_start rg_kinds rg_strengths rg_moved x2 r1.1 r3.1 r5.1).bind fun r8 =>
  some (r5.2.1, r5.2.2, r8.1, r8.2.1, r8.2.2.1, r8.2.2.2.1, r8.2.2.2.2))
  else
  (some (r5.2.1, r5.2.2, rg_ropes, rg_start, rg_kinds, rg_strengths, rg_moved))
set_option maxHeartbeats 4000000 in
set_option maxRecDepth 100000 in
theorem c_X1_readRope {G : x_G} {l : Launch} {ad : Nat → Nat} {b : Nat → Nat} {rd_signs : (Nat → Int32)} {rd_size : Int32} {rd_head : Int32} {rg_acts : Int32} {rg_reached : Int32} {rg_needs : (Nat → Int32)} {rg_forbids : (Nat → Int32)} {rd_place : Int32} {rd_fault : Int32} {rg_ropes : Int32} {rg_start : Int64} {rg_kinds : (Nat → Int32)} {rg_strengths : (Nat → Int32)} {rg_moved : (Nat → Int32)} {x2 : Int32} {res : Int32 × Int32 × Int32 × Int64 × (Nat → Int32) × (Nat → Int32) × (Nat → Int32)} (h : M_X1_readRope rd_signs rd_size rd_place rd_fault rg_ropes rg_start rg_kinds rg_strengths rg_moved x2 = some res) : x_M G l yX1_readRope cX1_readRope 6 none (2) 0 0 [.ref (ad 0), .ref (b 0), .int x2] ((WReader G ad rd_signs rd_size rd_place rd_fault rd_head) ++ (WRig G b rg_ropes rg_acts rg_start rg_reached rg_kinds rg_strengths rg_moved rg_needs rg_forbids)) (x_is none ((WReader G ad rd_signs rd_size res.1 res.2.1 rd_head) ++ (WRig G b res.2.2.1 rg_acts res.2.2.2.1 rg_reached res.2.2.2.2.1 res.2.2.2.2.2.1 res.2.2.2.2.2.2 rg_needs rg_forbids))) := by
  unfold M_X1_readRope at h
  refine x_enter (ini := false) (by decide) rfl (by decide) rfl (Nat.le_of_ble_eq_true rfl) ?_
  refine x_aload_n dX1_readRope_0 0 rfl rfl ?_
  refine x_dup dX1_readRope_1 rfl ?_
  refine x_get (ci := 1) 2 0 dX1_readRope_2 fl_X1_19 inX1 rfl (by decide) ⟨rfl, rfl, rfl⟩ rfl rfl ?_
  refine x_iconst 1 dX1_readRope_5 (by decide) ?_
  refine x_iadd dX1_readRope_6 ?_
  refine x_put (ci := 1) (ty := .int) 2 0 ((WReader G ad rd_signs rd_size ((rd_place + (1 : Int32))) rd_fault rd_head) ++ (WRig G b rg_ropes rg_acts rg_start rg_reached rg_kinds rg_strengths rg_moved rg_needs rg_forbids)) dX1_readRope_7 fl_X1_19 inX1 tyX1_ok nmX1 rfl (by decide) ⟨rfl, rfl, rfl, rfl, rfl⟩ rfl rfl rfl rfl rfl ?_
  refine x_aload_n dX1_readRope_10 0 rfl rfl ?_
  refine x_iconst 1 dX1_readRope_11 (by decide) ?_
  refine x_bipush 9 dX1_readRope_12 (by decide) ?_
  obtain ⟨r1, e2, h⟩ := x_bind h
  refine x_cV (As := [.int (1 : Int32), .int (9 : Int32)]) (wc := (WReader G ad rd_signs rd_size ((rd_place + (1 : Int32))) rd_fault rd_head)) (w1 := (WReader G ad rd_signs rd_size r1.2.1 r1.2.2 rd_head)) (pre := ([] : va_W)) (post := (WRig G b rg_ropes rg_acts rg_start rg_reached rg_kinds rg_strengths rg_moved rg_needs rg_forbids)) (rest := []) (st1 := [.int r1.1]) (ws1 := ((WReader G ad rd_signs rd_size r1.2.1 r1.2.2 rd_head) ++ (WRig G b rg_ropes rg_acts rg_start rg_reached rg_kinds rg_strengths rg_moved rg_needs rg_forbids))) (ci := 1) 0 dX1_readRope_14 (c_X1_figure (ad := ad) e2) pk_X1_figure ml_X1_83 (by simp only [List.append_assoc, List.append_nil, List.nil_append]) rfl rfl rfl rfl rfl rfl rfl rfl (by simp only [List.append_assoc, List.append_nil, List.nil_append]) ?_
  refine x_istore_n [(3, .int r1.1), (0, .ref (ad 0)), (1, .ref (b 0)), (2, .int x2)] dX1_readRope_17 rfl (by decide) rfl ?_
  refine x_aload_n dX1_readRope_18 1 rfl rfl ?_
  refine x_iconst 0 dX1_readRope_19 (by decide) ?_
  refine x_iconst 5 dX1_readRope_20 (by decide) ?_
  obtain ⟨r3, e4, h⟩ := x_bind h
  refine x_cV (As := [.int (0 : Int32), .int (5 : Int32)]) (wc := (WReader G ad rd_signs rd_size r1.2.1 r1.2.2 rd_head)) (w1 := (WReader G ad rd_signs rd_size r3.2.1 r3.2.2 rd_head)) (pre := ([] : va_W)) (post := (WRig G b rg_ropes rg_acts rg_start rg_reached rg_kinds rg_strengths rg_moved rg_needs rg_forbids)) (rest := []) (st1 := [.int r3.1]) (ws1 := ((WReader G ad rd_signs rd_size r3.2.1 r3.2.2 rd_head) ++ (WRig G b rg_ropes rg_acts rg_start rg_reached rg_kinds rg_strengths rg_moved rg_needs rg_forbids))) (ci := 1) 0 dX1_readRope_21 (c_X1_figure (ad := ad) e4) pk_X1_figure ml_X1_83 (by simp only [List.append_assoc, List.append_nil, List.nil_append]) rfl rfl rfl rfl rfl rfl rfl rfl (by simp only [List.append_assoc, List.append_nil, List.nil_append]) ?_
  refine x_istore [(4, .int r3.1), (3, .int r1.1), (0, .ref (ad 0)), (1, .ref (b 0)), (2, .int x2)] dX1_readRope_24 (by decide) rfl ?_
  refine x_aload_n dX1_readRope_26 2 rfl rfl ?_
  refine x_iconst 0 dX1_readRope_27 (by decide) ?_
  refine x_iload_n dX1_readRope_28 1 rfl rfl ?_
  obtain ⟨r5, e6, h⟩ := x_bind h
  refine x_cV (As := [.int (0 : Int32), .int r1.1]) (wc := (WReader G ad rd_signs rd_size r3.2.1 r3.2.2 rd_head)) (w1 := (WReader G ad rd_signs rd_size r5.2.1 r5.2.2 rd_head)) (pre := ([] : va_W)) (post := (WRig G b rg_ropes rg_acts rg_start rg_reached rg_kinds rg_strengths rg_moved rg_needs rg_forbids)) (rest := []) (st1 := [.int r5.1]) (ws1 := ((WReader G ad rd_signs rd_size r5.2.1 r5.2.2 rd_head) ++ (WRig G b rg_ropes rg_acts rg_start rg_reached rg_kinds rg_strengths rg_moved rg_needs rg_forbids))) (ci := 1) 0 dX1_readRope_29 (c_X1_figure (ad := ad) e6) pk_X1_figure ml_X1_83 (by simp only [List.append_assoc, List.append_nil, List.nil_append]) rfl rfl rfl rfl rfl rfl rfl rfl (by simp only [List.append_assoc, List.append_nil, List.nil_append]) ?_
  refine x_istore [(5, .int r5.1), (4, .int r3.1), (3, .int r1.1), (0, .ref (ad 0)), (1, .ref (b 0)), (2, .int x2)] dX1_readRope_32 (by decide) rfl ?_
  refine x_aload_n dX1_readRope_34 3 rfl rfl ?_
  refine x_get (ci := 1) 3 0 dX1_readRope_35 fl_X1_22 inX1 rfl (by decide) ⟨rfl, rfl, rfl⟩ rfl rfl ?_
  refine x_bipush (-9 : Int32) dX1_readRope_38 (by decide) ?_
  refine x_icmp_ne 53 dX1_readRope_40 (by decide) (fun c7 => ?_) (fun c7 => ?_)
  · have h := x_neg c7 h
    cases h
    exact x_return dX1_readRope_53 (x_is.rf _ _)
  · have h := x_pos c7 h
    refine x_aload_n dX1_readRope_43 4 rfl rfl ?_
    refine x_iload_n dX1_readRope_44 5 rfl rfl ?_
    refine x_iload_n dX1_readRope_45 2 rfl rfl ?_
    refine x_iload dX1_readRope_46 1 rfl ?_
    refine x_iload dX1_readRope_48 0 rfl ?_
    obtain ⟨r8, e9, h⟩ := x_bind h
    refine x_cV (As := [.int x2, .int r1.1, .int r3.1, .int r5.1]) (wc := (WRig G b rg_ropes rg_acts rg_start rg_reached rg_kinds rg_strengths rg_moved rg_needs rg_forbids)) (w1 := (WRig G b r8.1 rg_acts r8.2.1 rg_reached r8.2.2.1 r8.2.2.2.1 r8.2.2.2.2 rg_needs rg_forbids)) (pre := (WReader G ad rd_signs rd_size r5.2.1 r5.2.2 rd_head)) (post := ([] : va_W)) (rest := []) (st1 := []) (ws1 := ((WReader G ad rd_signs rd_size r5.2.1 r5.2.2 rd_head) ++ (WRig G b r8.1 rg_acts r8.2.1 rg_reached r8.2.2.1 r8.2.2.2.1 r8.2.2.2.2 rg_needs rg_forbids))) (ci := 2) 0 dX1_readRope_50 (c_X2_addRope (b := b) e9) pk_X2_addRope ml_X1_96 (by simp only [List.append_assoc, List.append_nil, List.nil_append]) rfl rfl rfl rfl rfl rfl rfl rfl (by simp only [List.append_assoc, List.append_nil, List.nil_append]) ?_
    cases h
    exact x_return dX1_readRope_53 (x_is.rf _ _)
theorem pk_X1_readItem : x_pv RX1 yX1_readItem cX1_readItem 4 none 1 := ⟨⟨co_X1_readItem, ni_X1, by decide, by decide +kernel⟩, im_X1_readItem, se_X1_readItem⟩
def M_X1_readItem_b67 (rd_signs : (Nat → Int32)) (rd_size : Int32) (rd_place : Int32) (rd_fault : Int32) (rd_head : Int32) (rg_ropes : Int32) (rg_acts : Int32) (rg_start : Int64) (rg_kinds : (Nat → Int32)) (rg_strengths : (Nat → Int32)) (rg_moved : (Nat → Int32)) (rg_needs : (Nat → Int32)) (rg_forbids : (Nat → Int32)) (x3 : Int32) : Option (Int32 × Int32 × Int32 × Int32 × Int32 × Int64 × (Nat → Int32) × (Nat → Int32) × (Nat → Int32) × (Nat → Int32) × (Nat → Int32)) :=
  if rd_head = 0 then
  (some (rd_place, rd_place, rd_head, rg_ropes, rg_acts, rg_start, rg_kinds, rg_strengths, rg_moved, rg_needs, rg_forbids))
  else
  (if x3 = (-9 : Int32) then
  (some (rd_place, rd_place, rd_head, rg_ropes, rg_acts, rg_start, rg_kinds, rg_strengths, rg_moved, rg_needs, rg_forbids))
  else
  (if rg_acts = 0 then
  (if (6 : Int32) ≤ rg_ropes then
  (some (rd_place, rd_place, rd_head, rg_ropes, rg_acts, rg_start, rg_kinds, rg_strengths, rg_moved, rg_needs, rg_forbids))
  else
  ((M_X1_readRope rd_signs rd_size rd_place rd_fault rg_ropes rg_start rg_kinds rg_strengths rg_moved x3).bind fun r11 =>
  some (r11.1, r11.2.1, rd_head, r11.2.2.1, rg_acts, r11.2.2.2.1, r11.2.2.2.2.1, r11.2.2.2.2.2.1, r11.2.2.2.2.2.2, rg_needs, rg_forbids)))
  else
  (some (rd_place, rd_place, rd_head, rg_ropes, rg_acts, rg_start, rg_kinds, rg_strengths, rg_moved, rg_needs, rg_forbids))))
set_option maxHeartbeats 4000000 in
set_option maxRecDepth 100000 in
theorem w_X1_readItem_b67 {G : x_G} {l : Launch} {ad : Nat → Nat} {b : Nat → Nat} {rd_signs : (Nat → Int32)} {rd_size : Int32} {rg_reached : Int32} {res : Int32 × Int32 × Int32 × Int32 × Int32 × Int64 × (Nat → Int32) × (Nat → Int32) × (Nat → Int32) × (Nat → Int32) × (Nat → Int32)} (rd_place : Int32) (rd_fault : Int32) (rd_head : Int32) (rg_ropes : Int32) (rg_acts : Int32) (rg_start : Int64) (rg_kinds : (Nat → Int32)) (rg_strengths : (Nat → Int32)) (rg_moved : (Nat → Int32)) (rg_needs : (Nat → Int32)) (rg_forbids : (Nat → Int32)) (x3 : Int32) (h : M_X1_readItem_b67 rd_signs rd_size rd_place rd_fault rd_head rg_ropes rg_acts rg_start rg_kinds rg_strengths rg_moved rg_needs rg_forbids x3 = some res) : X G l RX1 cX1_readItem 4 (x_R 4 0 0) (x_Cm G none false (x_is none ((WReader G ad rd_signs rd_size res.1 res.2.1 res.2.2.1) ++ (WRig G b res.2.2.2.1 res.2.2.2.2.1 res.2.2.2.2.2.1 rg_reached res.2.2.2.2.2.2.1 res.2.2.2.2.2.2.2.1 res.2.2.2.2.2.2.2.2.1 res.2.2.2.2.2.2.2.2.2.1 res.2.2.2.2.2.2.2.2.2.2))) 0 0) 0 0 67 [(0, .ref (ad 0)), (1, .ref (b 0)), (3, .int x3)] [] ((WReader G ad rd_signs rd_size rd_place rd_fault rd_head) ++ (WRig G b rg_ropes rg_acts rg_start rg_reached rg_kinds rg_strengths rg_moved rg_needs rg_forbids)) := by
  unfold M_X1_readItem_b67 at h
  refine x_aload_n dX1_readItem_67 0 rfl rfl ?_
  refine x_get (ci := 1) 4 0 dX1_readItem_68 fl_X1_25 inX1 rfl (by decide) ⟨rfl, rfl, rfl⟩ rfl rfl ?_
  refine x_if_eq 105 dX1_readItem_71 (by decide) (fun c7 => ?_) (fun c7 => ?_)
  · have h := x_pos c7 h
    refine x_aload_n dX1_readItem_105 0 rfl rfl ?_
    refine x_aload_n dX1_readItem_106 0 rfl rfl ?_
    refine x_get (ci := 1) 2 0 dX1_readItem_107 fl_X1_19 inX1 rfl (by decide) ⟨rfl, rfl, rfl⟩ rfl rfl ?_
    refine x_put (ci := 1) (ty := .int) 3 0 ((WReader G ad rd_signs rd_size rd_place rd_place rd_head) ++ (WRig G b rg_ropes rg_acts rg_start rg_reached rg_kinds rg_strengths rg_moved rg_needs rg_forbids)) dX1_readItem_110 fl_X1_22 inX1 tyX1_ok nmX1 rfl (by decide) ⟨rfl, rfl, rfl, rfl, rfl⟩ rfl rfl rfl rfl rfl ?_
    cases h
    exact x_return dX1_readItem_113 (x_is.rf _ _)
  · have h := x_neg c7 h
    refine x_iload_n dX1_readItem_74 2 rfl rfl ?_
    refine x_bipush (-9 : Int32) dX1_readItem_75 (by decide) ?_
    refine x_icmp_eq 105 dX1_readItem_77 (by decide) (fun c8 => ?_) (fun c8 => ?_)
    · have h := x_pos c8 h
      refine x_aload_n dX1_readItem_105 0 rfl rfl ?_
      refine x_aload_n dX1_readItem_106 0 rfl rfl ?_
      refine x_get (ci := 1) 2 0 dX1_readItem_107 fl_X1_19 inX1 rfl (by decide) ⟨rfl, rfl, rfl⟩ rfl rfl ?_
      refine x_put (ci := 1) (ty := .int) 3 0 ((WReader G ad rd_signs rd_size rd_place rd_place rd_head) ++ (WRig G b rg_ropes rg_acts rg_start rg_reached rg_kinds rg_strengths rg_moved rg_needs rg_forbids)) dX1_readItem_110 fl_X1_22 inX1 tyX1_ok nmX1 rfl (by decide) ⟨rfl, rfl, rfl, rfl, rfl⟩ rfl rfl rfl rfl rfl ?_
      cases h
      exact x_return dX1_readItem_113 (x_is.rf _ _)
    · have h := x_neg c8 h
      refine x_aload_n dX1_readItem_80 1 rfl rfl ?_
      refine x_get (ci := 2) 1 2 dX1_readItem_81 fl_X1_46 inX2 rfl (by decide) ⟨rfl, rfl, rfl⟩ rfl rfl ?_
      refine x_if_ne 105 dX1_readItem_84 (by decide) (fun c9 => ?_) (fun c9 => ?_)
      · have h := x_neg c9 h
        refine x_aload_n dX1_readItem_105 0 rfl rfl ?_
        refine x_aload_n dX1_readItem_106 0 rfl rfl ?_
        refine x_get (ci := 1) 2 0 dX1_readItem_107 fl_X1_19 inX1 rfl (by decide) ⟨rfl, rfl, rfl⟩ rfl rfl ?_
        refine x_put (ci := 1) (ty := .int) 3 0 ((WReader G ad rd_signs rd_size rd_place rd_place rd_head) ++ (WRig G b rg_ropes rg_acts rg_start rg_reached rg_kinds rg_strengths rg_moved rg_needs rg_forbids)) dX1_readItem_110 fl_X1_22 inX1 tyX1_ok nmX1 rfl (by decide) ⟨rfl, rfl, rfl, rfl, rfl⟩ rfl rfl rfl rfl rfl ?_
        cases h
        exact x_return dX1_readItem_113 (x_is.rf _ _)
      · have h := x_pos c9 h
        refine x_aload_n dX1_readItem_87 1 rfl rfl ?_
        refine x_get (ci := 2) 0 2 dX1_readItem_88 fl_X1_73 inX2 rfl (by decide) ⟨rfl, rfl, rfl⟩ rfl rfl ?_
        refine x_bipush 6 dX1_readItem_91 (by decide) ?_
        refine x_icmp_ge 105 dX1_readItem_93 (by decide) (fun c10 => ?_) (fun c10 => ?_)
        · have h := x_pos c10 h
          refine x_aload_n dX1_readItem_105 0 rfl rfl ?_
          refine x_aload_n dX1_readItem_106 0 rfl rfl ?_
          refine x_get (ci := 1) 2 0 dX1_readItem_107 fl_X1_19 inX1 rfl (by decide) ⟨rfl, rfl, rfl⟩ rfl rfl ?_
          refine x_put (ci := 1) (ty := .int) 3 0 ((WReader G ad rd_signs rd_size rd_place rd_place rd_head) ++ (WRig G b rg_ropes rg_acts rg_start rg_reached rg_kinds rg_strengths rg_moved rg_needs rg_forbids)) dX1_readItem_110 fl_X1_22 inX1 tyX1_ok nmX1 rfl (by decide) ⟨rfl, rfl, rfl, rfl, rfl⟩ rfl rfl rfl rfl rfl ?_
          cases h
          exact x_return dX1_readItem_113 (x_is.rf _ _)
        · have h := x_neg c10 h
          refine x_aload_n dX1_readItem_96 0 rfl rfl ?_
          refine x_aload_n dX1_readItem_97 1 rfl rfl ?_
          refine x_iload_n dX1_readItem_98 2 rfl rfl ?_
          obtain ⟨r11, e12, h⟩ := x_bind h
          refine x_cV (As := [.ref (b 0), .int x3]) (wc := ((WReader G ad rd_signs rd_size rd_place rd_fault rd_head) ++ (WRig G b rg_ropes rg_acts rg_start rg_reached rg_kinds rg_strengths rg_moved rg_needs rg_forbids))) (w1 := ((WReader G ad rd_signs rd_size r11.1 r11.2.1 rd_head) ++ (WRig G b r11.2.2.1 rg_acts r11.2.2.2.1 rg_reached r11.2.2.2.2.1 r11.2.2.2.2.2.1 r11.2.2.2.2.2.2 rg_needs rg_forbids))) (pre := []) (post := []) (rest := []) (st1 := []) (ws1 := ((WReader G ad rd_signs rd_size r11.1 r11.2.1 rd_head) ++ (WRig G b r11.2.2.1 rg_acts r11.2.2.2.1 rg_reached r11.2.2.2.2.1 r11.2.2.2.2.2.1 r11.2.2.2.2.2.2 rg_needs rg_forbids))) (ci := 1) 0 dX1_readItem_99 (c_X1_readRope (ad := ad) (b := b) e12) pk_X1_readRope ml_X1_79 (x_full _) rfl rfl rfl rfl rfl rfl rfl rfl (x_full _).symm ?_
          refine x_goto 113 dX1_readItem_102 (by decide) ?_
          cases h
          exact x_return dX1_readItem_113 (x_is.rf _ _)
def M_X1_readItem_b31 (rd_signs : (Nat → Int32)) (rd_size : Int32) (rd_place : Int32) (rd_fault : Int32) (rd_head : Int32) (rg_ropes : Int32) (rg_acts : Int32) (rg_start : Int64) (rg_kinds : (Nat → Int32)) (rg_strengths : (Nat → Int32)) (rg_moved : (Nat → Int32)) (rg_needs : (Nat → Int32)) (rg_forbids : (Nat → Int32)) (x2 : Int32) (x3 : Int32) : Option (Int32 × Int32 × Int32 × Int32 × Int32 × Int64 × (Nat → Int32) × (Nat → Int32) × (Nat → Int32) × (Nat → Int32) × (Nat → Int32)) :=
  if rd_head = 0 then
  (M_X1_readItem_b67 rd_signs rd_size rd_place rd_fault rd_head rg_ropes rg_acts rg_start rg_kinds rg_strengths rg_moved rg_needs rg_forbids x3)
  else
  (if x2 = (97 : Int32) then
  (if rg_ropes ≤ 0 then
  (M_X1_readItem_b67 rd_signs rd_size rd_place rd_fault rd_head rg_ropes rg_acts rg_start rg_kinds rg_strengths rg_moved rg_needs rg_forbids x3)
  else
  (if (4 : Int32) ≤ rg_acts then
  (M_X1_readItem_b67 rd_signs rd_size rd_place rd_fault rd_head rg_ropes rg_acts rg_start rg_kinds rg_strengths rg_moved rg_needs rg_forbids x3)
  else
  ((M_X1_readAct rd_signs rd_size rd_place rd_fault rg_acts rg_needs rg_forbids).bind fun r5 =>
  some (r5.1, r5.2.1, rd_head, rg_ropes, r5.2.2.1, rg_start, rg_kinds, rg_strengths, rg_moved, r5.2.2.2.1, r5.2.2.2.2))))
  else
  (M_X1_readItem_b67 rd_signs rd_size rd_place rd_fault rd_head rg_ropes rg_acts rg_start rg_kinds rg_strengths rg_moved rg_needs rg_forbids x3))
set_option maxHeartbeats 4000000 in
set_option maxRecDepth 100000 in
theorem w_X1_readItem_b31 {G : x_G} {l : Launch} {ad : Nat → Nat} {b : Nat → Nat} {rd_signs : (Nat → Int32)} {rd_size : Int32} {rg_reached : Int32} {res : Int32 × Int32 × Int32 × Int32 × Int32 × Int64 × (Nat → Int32) × (Nat → Int32) × (Nat → Int32) × (Nat → Int32) × (Nat → Int32)} (rd_place : Int32) (rd_fault : Int32) (rd_head : Int32) (rg_ropes : Int32) (rg_acts : Int32) (rg_start : Int64) (rg_kinds : (Nat → Int32)) (rg_strengths : (Nat → Int32)) (rg_moved : (Nat → Int32)) (rg_needs : (Nat → Int32)) (rg_forbids : (Nat → Int32)) (x2 : Int32) (x3 : Int32) (h : M_X1_readItem_b31 rd_signs rd_size rd_place rd_fault rd_head rg_ropes rg_acts rg_start rg_kinds rg_strengths rg_moved rg_needs rg_forbids x2 x3 = some res) : X G l RX1 cX1_readItem 4 (x_R 4 0 0) (x_Cm G none false (x_is none ((WReader G ad rd_signs rd_size res.1 res.2.1 res.2.2.1) ++ (WRig G b res.2.2.2.1 res.2.2.2.2.1 res.2.2.2.2.2.1 rg_reached res.2.2.2.2.2.2.1 res.2.2.2.2.2.2.2.1 res.2.2.2.2.2.2.2.2.1 res.2.2.2.2.2.2.2.2.2.1 res.2.2.2.2.2.2.2.2.2.2))) 0 0) 0 0 31 [(0, .ref (ad 0)), (1, .ref (b 0)), (2, .int x2), (3, .int x3)] [] ((WReader G ad rd_signs rd_size rd_place rd_fault rd_head) ++ (WRig G b rg_ropes rg_acts rg_start rg_reached rg_kinds rg_strengths rg_moved rg_needs rg_forbids)) := by
  unfold M_X1_readItem_b31 at h
  refine x_aload_n dX1_readItem_31 0 rfl rfl ?_
  refine x_get (ci := 1) 4 0 dX1_readItem_32 fl_X1_25 inX1 rfl (by decide) ⟨rfl, rfl, rfl⟩ rfl rfl ?_
  refine x_if_eq 67 dX1_readItem_35 (by decide) (fun c1 => ?_) (fun c1 => ?_)
  · have h := x_pos c1 h
    refine x_lv [0, 1, 3] rfl ?_
    exact w_X1_readItem_b67  _ _ _ _ _ _ _ _ _ _ _ _ h
  · have h := x_neg c1 h
    refine x_iload_n dX1_readItem_38 2 rfl rfl ?_
    refine x_bipush 97 dX1_readItem_39 (by decide) ?_
    refine x_icmp_ne 67 dX1_readItem_41 (by decide) (fun c2 => ?_) (fun c2 => ?_)
    · have h := x_neg c2 h
      refine x_lv [0, 1, 3] rfl ?_
      exact w_X1_readItem_b67  _ _ _ _ _ _ _ _ _ _ _ _ h
    · have h := x_pos c2 h
      refine x_aload_n dX1_readItem_44 1 rfl rfl ?_
      refine x_get (ci := 2) 0 2 dX1_readItem_45 fl_X1_73 inX2 rfl (by decide) ⟨rfl, rfl, rfl⟩ rfl rfl ?_
      refine x_if_le 67 dX1_readItem_48 (by decide) (fun c3 => ?_) (fun c3 => ?_)
      · have h := x_pos c3 h
        refine x_lv [0, 1, 3] rfl ?_
        exact w_X1_readItem_b67  _ _ _ _ _ _ _ _ _ _ _ _ h
      · have h := x_neg c3 h
        refine x_aload_n dX1_readItem_51 1 rfl rfl ?_
        refine x_get (ci := 2) 1 2 dX1_readItem_52 fl_X1_46 inX2 rfl (by decide) ⟨rfl, rfl, rfl⟩ rfl rfl ?_
        refine x_iconst 4 dX1_readItem_55 (by decide) ?_
        refine x_icmp_ge 67 dX1_readItem_56 (by decide) (fun c4 => ?_) (fun c4 => ?_)
        · have h := x_pos c4 h
          refine x_lv [0, 1, 3] rfl ?_
          exact w_X1_readItem_b67  _ _ _ _ _ _ _ _ _ _ _ _ h
        · have h := x_neg c4 h
          refine x_aload_n dX1_readItem_59 0 rfl rfl ?_
          refine x_aload_n dX1_readItem_60 1 rfl rfl ?_
          obtain ⟨r5, e6, h⟩ := x_bind h
          refine x_cV (As := [.ref (b 0)]) (wc := ((WReader G ad rd_signs rd_size rd_place rd_fault rd_head) ++ (WRig G b rg_ropes rg_acts rg_start rg_reached rg_kinds rg_strengths rg_moved rg_needs rg_forbids))) (w1 := ((WReader G ad rd_signs rd_size r5.1 r5.2.1 rd_head) ++ (WRig G b rg_ropes r5.2.2.1 rg_start rg_reached rg_kinds rg_strengths rg_moved r5.2.2.2.1 r5.2.2.2.2))) (pre := []) (post := []) (rest := []) (st1 := []) (ws1 := ((WReader G ad rd_signs rd_size r5.1 r5.2.1 rd_head) ++ (WRig G b rg_ropes r5.2.2.1 rg_start rg_reached rg_kinds rg_strengths rg_moved r5.2.2.2.1 r5.2.2.2.2))) (ci := 1) 0 dX1_readItem_61 (c_X1_readAct (ad := ad) (b := b) e6) pk_X1_readAct ml_X1_76 (x_full _) rfl rfl rfl rfl rfl rfl rfl rfl (x_full _).symm ?_
          refine x_goto 113 dX1_readItem_64 (by decide) ?_
          cases h
          exact x_return dX1_readItem_113 (x_is.rf _ _)
def M_X1_readItem (rd_signs : (Nat → Int32)) (rd_size : Int32) (rd_place : Int32) (rd_fault : Int32) (rd_head : Int32) (rg_ropes : Int32) (rg_acts : Int32) (rg_start : Int64) (rg_kinds : (Nat → Int32)) (rg_strengths : (Nat → Int32)) (rg_moved : (Nat → Int32)) (rg_needs : (Nat → Int32)) (rg_forbids : (Nat → Int32)) : Option (Int32 × Int32 × Int32 × Int32 × Int32 × Int64 × (Nat → Int32) × (Nat → Int32) × (Nat → Int32) × (Nat → Int32) × (Nat → Int32)) :=
  (M_X1_sign rd_signs rd_size rd_place).bind fun r13 =>
  if rd_head = 0 then
  (if r13 = (104 : Int32) then
  ((M_X1_readHead rd_signs rd_size rd_place rd_fault rd_head rg_start).bind fun r17 =>
  some (r17.1, r17.2.1, r17.2.2.1, rg_ropes, rg_acts, r17.2.2.2, rg_kinds, rg_strengths, rg_moved, rg_needs, rg_forbids))
  else
  (M_X1_readItem_b31 rd_signs rd_size rd_place rd_fault rd_head rg_ropes rg_acts rg_start rg_kinds rg_strengths rg_moved rg_needs rg_forbids r13 (M_X1_kindOfLetter r13)))
  else
  (M_X1_readItem_b31 rd_signs rd_size rd_place rd_fault rd_head rg_ropes rg_acts rg_start rg_kinds rg_strengths rg_moved rg_needs rg_forbids r13 (M_X1_kindOfLetter r13))
set_option maxHeartbeats 4000000 in
set_option maxRecDepth 100000 in
theorem c_X1_readItem {G : x_G} {l : Launch} {ad : Nat → Nat} {b : Nat → Nat} {rd_signs : (Nat → Int32)} {rd_size : Int32} {rg_reached : Int32} {rd_place : Int32} {rd_fault : Int32} {rd_head : Int32} {rg_ropes : Int32} {rg_acts : Int32} {rg_start : Int64} {rg_kinds : (Nat → Int32)} {rg_strengths : (Nat → Int32)} {rg_moved : (Nat → Int32)} {rg_needs : (Nat → Int32)} {rg_forbids : (Nat → Int32)} {res : Int32 × Int32 × Int32 × Int32 × Int32 × Int64 × (Nat → Int32) × (Nat → Int32) × (Nat → Int32) × (Nat → Int32) × (Nat → Int32)} (h : M_X1_readItem rd_signs rd_size rd_place rd_fault rd_head rg_ropes rg_acts rg_start rg_kinds rg_strengths rg_moved rg_needs rg_forbids = some res) : x_M G l yX1_readItem cX1_readItem 4 none (4) 0 0 [.ref (ad 0), .ref (b 0)] ((WReader G ad rd_signs rd_size rd_place rd_fault rd_head) ++ (WRig G b rg_ropes rg_acts rg_start rg_reached rg_kinds rg_strengths rg_moved rg_needs rg_forbids)) (x_is none ((WReader G ad rd_signs rd_size res.1 res.2.1 res.2.2.1) ++ (WRig G b res.2.2.2.1 res.2.2.2.2.1 res.2.2.2.2.2.1 rg_reached res.2.2.2.2.2.2.1 res.2.2.2.2.2.2.2.1 res.2.2.2.2.2.2.2.2.1 res.2.2.2.2.2.2.2.2.2.1 res.2.2.2.2.2.2.2.2.2.2))) := by
  unfold M_X1_readItem at h
  refine x_enter (ini := false) (by decide) rfl (by decide) rfl (Nat.le_of_ble_eq_true rfl) ?_
  refine x_aload_n dX1_readItem_0 0 rfl rfl ?_
  obtain ⟨r13, e14, h⟩ := x_bind h
  refine x_cV (As := []) (wc := (WReader G ad rd_signs rd_size rd_place rd_fault rd_head)) (w1 := (WReader G ad rd_signs rd_size rd_place rd_fault rd_head)) (pre := ([] : va_W)) (post := (WRig G b rg_ropes rg_acts rg_start rg_reached rg_kinds rg_strengths rg_moved rg_needs rg_forbids)) (rest := []) (st1 := [.int r13]) (ws1 := ((WReader G ad rd_signs rd_size rd_place rd_fault rd_head) ++ (WRig G b rg_ropes rg_acts rg_start rg_reached rg_kinds rg_strengths rg_moved rg_needs rg_forbids))) (ci := 1) 0 dX1_readItem_1 (c_X1_sign (ad := ad) e14) pk_X1_sign ml_X1_63 (by simp only [List.append_assoc, List.append_nil, List.nil_append]) rfl rfl rfl rfl rfl rfl rfl rfl (by simp only [List.append_assoc, List.append_nil, List.nil_append]) ?_
  refine x_istore_n [(2, .int r13), (0, .ref (ad 0)), (1, .ref (b 0))] dX1_readItem_4 rfl (by decide) rfl ?_
  refine x_iload_n dX1_readItem_5 0 rfl rfl ?_
  refine x_cS (As := [.int r13]) (wc := ([] : va_W)) (w1 := ([] : va_W)) (pre := []) (post := ((WReader G ad rd_signs rd_size rd_place rd_fault rd_head) ++ (WRig G b rg_ropes rg_acts rg_start rg_reached rg_kinds rg_strengths rg_moved rg_needs rg_forbids))) (rest := []) (st1 := [.int (M_X1_kindOfLetter r13)]) (ws1 := ((WReader G ad rd_signs rd_size rd_place rd_fault rd_head) ++ (WRig G b rg_ropes rg_acts rg_start rg_reached rg_kinds rg_strengths rg_moved rg_needs rg_forbids))) dX1_readItem_6 (c_X1_kindOfLetter rfl) pk_X1_kindOfLetter ml_X1_67 rfl rfl rfl rfl rfl rfl rfl ?_
  refine x_istore_n [(3, .int (M_X1_kindOfLetter r13)), (2, .int r13), (0, .ref (ad 0)), (1, .ref (b 0))] dX1_readItem_9 rfl (by decide) rfl ?_
  refine x_aload_n dX1_readItem_10 2 rfl rfl ?_
  refine x_get (ci := 1) 4 0 dX1_readItem_11 fl_X1_25 inX1 rfl (by decide) ⟨rfl, rfl, rfl⟩ rfl rfl ?_
  refine x_if_ne 31 dX1_readItem_14 (by decide) (fun c15 => ?_) (fun c15 => ?_)
  · have h := x_neg c15 h
    refine x_lv [2, 3, 1, 0] rfl ?_
    exact w_X1_readItem_b31  _ _ _ _ _ _ _ _ _ _ _ _ _ h
  · have h := x_pos c15 h
    refine x_iload_n dX1_readItem_17 1 rfl rfl ?_
    refine x_bipush 104 dX1_readItem_18 (by decide) ?_
    refine x_icmp_ne 31 dX1_readItem_20 (by decide) (fun c16 => ?_) (fun c16 => ?_)
    · have h := x_neg c16 h
      refine x_lv [2, 3, 1, 0] rfl ?_
      exact w_X1_readItem_b31  _ _ _ _ _ _ _ _ _ _ _ _ _ h
    · have h := x_pos c16 h
      refine x_aload_n dX1_readItem_23 2 rfl rfl ?_
      refine x_aload_n dX1_readItem_24 3 rfl rfl ?_
      obtain ⟨r17, e18, h⟩ := x_bind h
      refine x_cV (As := [.ref (b 0)]) (wc := ((WReader G ad rd_signs rd_size rd_place rd_fault rd_head) ++ (WRig G b rg_ropes rg_acts rg_start rg_reached rg_kinds rg_strengths rg_moved rg_needs rg_forbids))) (w1 := ((WReader G ad rd_signs rd_size r17.1 r17.2.1 r17.2.2.1) ++ (WRig G b rg_ropes rg_acts r17.2.2.2 rg_reached rg_kinds rg_strengths rg_moved rg_needs rg_forbids))) (pre := []) (post := []) (rest := []) (st1 := []) (ws1 := ((WReader G ad rd_signs rd_size r17.1 r17.2.1 r17.2.2.1) ++ (WRig G b rg_ropes rg_acts r17.2.2.2 rg_reached rg_kinds rg_strengths rg_moved rg_needs rg_forbids))) (ci := 1) 0 dX1_readItem_25 (c_X1_readHead (ad := ad) (b := b) e18) pk_X1_readHead ml_X1_70 (x_full _) rfl rfl rfl rfl rfl rfl rfl rfl (x_full _).symm ?_
      refine x_goto 113 dX1_readItem_28 (by decide) ?_
      cases h
      exact x_return dX1_readItem_113 (x_is.rf _ _)
theorem pk_X1_read : x_pv RX1 yX1_read cX1_read 5 (some .int) 3 := ⟨⟨co_X1_read, ni_X1, by decide, by decide +kernel⟩, im_X1_read, se_X1_read⟩
def M_X1_read_b47 (sh_sizes : (Nat → Int32)) (sh_places : (Nat → Nat → Int32)) (rd_signs : (Nat → Int32)) (rd_size : Int32) (rd_place : Int32) (rd_fault : Int32) (rd_head : Int32) (rg_ropes : Int32) (rg_acts : Int32) (rg_start : Int64) (rg_reached : Int32) (rg_kinds : (Nat → Int32)) (rg_strengths : (Nat → Int32)) (rg_moved : (Nat → Int32)) (rg_needs : (Nat → Int32)) (rg_forbids : (Nat → Int32)) : Option (Int32 × (Nat → Int32) × Int32 × Int32 × Int32 × Int32 × Int32 × Int32 × Int64 × Int32 × (Nat → Int32) × (Nat → Int32) × (Nat → Int32) × (Nat → Int32) × (Nat → Int32)) :=
  if rd_fault = (-9 : Int32) then
  (if rg_acts = 0 then
  (some (rd_size, rd_signs, rd_size, rd_place, rd_size, rd_head, rg_ropes, rg_acts, rg_start, rg_reached, rg_kinds, rg_strengths, rg_moved, rg_needs, rg_forbids))
  else
  (some (rd_fault, rd_signs, rd_size, rd_place, rd_fault, rd_head, rg_ropes, rg_acts, rg_start, rg_reached, rg_kinds, rg_strengths, rg_moved, rg_needs, rg_forbids)))
  else
  (some (rd_fault, rd_signs, rd_size, rd_place, rd_fault, rd_head, rg_ropes, rg_acts, rg_start, rg_reached, rg_kinds, rg_strengths, rg_moved, rg_needs, rg_forbids))
set_option maxHeartbeats 4000000 in
set_option maxRecDepth 100000 in
theorem w_X1_read_b47 {G : x_G} {l : Launch} {ax : Nat → Nat} {ad : Nat → Nat} {b : Nat → Nat} {sh_sizes : (Nat → Int32)} {sh_places : (Nat → Nat → Int32)} {res : Int32 × (Nat → Int32) × Int32 × Int32 × Int32 × Int32 × Int32 × Int32 × Int64 × Int32 × (Nat → Int32) × (Nat → Int32) × (Nat → Int32) × (Nat → Int32) × (Nat → Int32)} (rd_signs : (Nat → Int32)) (rd_size : Int32) (rd_place : Int32) (rd_fault : Int32) (rd_head : Int32) (rg_ropes : Int32) (rg_acts : Int32) (rg_start : Int64) (rg_reached : Int32) (rg_kinds : (Nat → Int32)) (rg_strengths : (Nat → Int32)) (rg_moved : (Nat → Int32)) (rg_needs : (Nat → Int32)) (rg_forbids : (Nat → Int32)) (h : M_X1_read_b47 sh_sizes sh_places rd_signs rd_size rd_place rd_fault rd_head rg_ropes rg_acts rg_start rg_reached rg_kinds rg_strengths rg_moved rg_needs rg_forbids = some res) : X G l RX1 cX1_read 5 (x_R 5 0 0) (x_Cm G (some .int) false (x_is (some (.int res.1)) ((WShelf G ax 4 60 60 32 sh_sizes sh_places) ++ ((WReader G ad res.2.1 res.2.2.1 res.2.2.2.1 res.2.2.2.2.1 res.2.2.2.2.2.1) ++ (WRig G b res.2.2.2.2.2.2.1 res.2.2.2.2.2.2.2.1 res.2.2.2.2.2.2.2.2.1 res.2.2.2.2.2.2.2.2.2.1 res.2.2.2.2.2.2.2.2.2.2.1 res.2.2.2.2.2.2.2.2.2.2.2.1 res.2.2.2.2.2.2.2.2.2.2.2.2.1 res.2.2.2.2.2.2.2.2.2.2.2.2.2.1 res.2.2.2.2.2.2.2.2.2.2.2.2.2.2)))) 0 0) 0 0 47 [(0, .ref (ad 0)), (3, .ref (b 0))] [] ((WShelf G ax 4 60 60 32 sh_sizes sh_places) ++ ((WReader G ad rd_signs rd_size rd_place rd_fault rd_head) ++ (WRig G b rg_ropes rg_acts rg_start rg_reached rg_kinds rg_strengths rg_moved rg_needs rg_forbids))) := by
  unfold M_X1_read_b47 at h
  refine x_aload_n dX1_read_47 0 rfl rfl ?_
  refine x_get (ci := 1) 3 7 dX1_read_48 fl_X1_22 inX1 rfl (by decide) ⟨rfl, rfl, rfl⟩ rfl rfl ?_
  refine x_bipush (-9 : Int32) dX1_read_51 (by decide) ?_
  refine x_icmp_ne 71 dX1_read_53 (by decide) (fun c8 => ?_) (fun c8 => ?_)
  · have h := x_neg c8 h
    refine x_aload_n dX1_read_71 0 rfl rfl ?_
    refine x_get (ci := 1) 3 7 dX1_read_72 fl_X1_22 inX1 rfl (by decide) ⟨rfl, rfl, rfl⟩ rfl rfl ?_
    cases h
    exact x_ireturn dX1_read_75 rfl (x_is.rf _ _)
  · have h := x_pos c8 h
    refine x_aload_n dX1_read_56 1 rfl rfl ?_
    refine x_get (ci := 2) 1 9 dX1_read_57 fl_X1_46 inX2 rfl (by decide) ⟨rfl, rfl, rfl⟩ rfl rfl ?_
    refine x_if_ne 71 dX1_read_60 (by decide) (fun c9 => ?_) (fun c9 => ?_)
    · have h := x_neg c9 h
      refine x_aload_n dX1_read_71 0 rfl rfl ?_
      refine x_get (ci := 1) 3 7 dX1_read_72 fl_X1_22 inX1 rfl (by decide) ⟨rfl, rfl, rfl⟩ rfl rfl ?_
      cases h
      exact x_ireturn dX1_read_75 rfl (x_is.rf _ _)
    · have h := x_pos c9 h
      refine x_aload_n dX1_read_63 0 rfl rfl ?_
      refine x_aload_n dX1_read_64 0 rfl rfl ?_
      refine x_get (ci := 1) 1 7 dX1_read_65 fl_X1_15 inX1 rfl (by decide) ⟨rfl, rfl, rfl⟩ rfl rfl ?_
      refine x_put (ci := 1) (ty := .int) 3 7 ((WShelf G ax 4 60 60 32 sh_sizes sh_places) ++ ((WReader G ad rd_signs rd_size rd_place rd_size rd_head) ++ (WRig G b rg_ropes rg_acts rg_start rg_reached rg_kinds rg_strengths rg_moved rg_needs rg_forbids))) dX1_read_68 fl_X1_22 inX1 tyX1_ok nmX1 rfl (by decide) ⟨rfl, rfl, rfl, rfl, rfl⟩ rfl rfl rfl rfl rfl ?_
      refine x_aload_n dX1_read_71 0 rfl rfl ?_
      refine x_get (ci := 1) 3 7 dX1_read_72 fl_X1_22 inX1 rfl (by decide) ⟨rfl, rfl, rfl⟩ rfl rfl ?_
      cases h
      exact x_ireturn dX1_read_75 rfl (x_is.rf _ _)
def M_X1_read_b13 (sh_sizes : (Nat → Int32)) (sh_places : (Nat → Nat → Int32)) : Nat → (Nat → Int32) → Int32 → Int32 → Int32 → Int32 → Int32 → Int32 → Int64 → Int32 → (Nat → Int32) → (Nat → Int32) → (Nat → Int32) → (Nat → Int32) → (Nat → Int32) → Int32 → Option (Int32 × (Nat → Int32) × Int32 × Int32 × Int32 × Int32 × Int32 × Int32 × Int64 × Int32 × (Nat → Int32) × (Nat → Int32) × (Nat → Int32) × (Nat → Int32) × (Nat → Int32))
  | 0, _, _, _, _, _, _, _, _, _, _, _, _, _, _, _ => none
  | n + 1, rd_signs, rd_size, rd_place, rd_fault, rd_head, rg_ropes, rg_acts, rg_start, rg_reached, rg_kinds, rg_strengths, rg_moved, rg_needs, rg_forbids, x4 =>
    if (60 : Int32) ≤ x4 then
    (M_X1_read_b47 sh_sizes sh_places rd_signs rd_size rd_place rd_fault rd_head rg_ropes rg_acts rg_start rg_reached rg_kinds rg_strengths rg_moved rg_needs rg_forbids)
    else
    (if rd_fault = (-9 : Int32) then
    ((M_X1_isMoreAhead rd_signs rd_size rd_place).bind fun r3 =>
    if r3.1 = 0 then
    (M_X1_read_b47 sh_sizes sh_places rd_signs rd_size r3.2 rd_fault rd_head rg_ropes rg_acts rg_start rg_reached rg_kinds rg_strengths rg_moved rg_needs rg_forbids)
    else
    ((M_X1_readItem rd_signs rd_size r3.2 rd_fault rd_head rg_ropes rg_acts rg_start rg_kinds rg_strengths rg_moved rg_needs rg_forbids).bind fun r6 =>
    M_X1_read_b13 sh_sizes sh_places n rd_signs rd_size r6.1 r6.2.1 r6.2.2.1 r6.2.2.2.1 r6.2.2.2.2.1 r6.2.2.2.2.2.1 rg_reached r6.2.2.2.2.2.2.1 r6.2.2.2.2.2.2.2.1 r6.2.2.2.2.2.2.2.2.1 r6.2.2.2.2.2.2.2.2.2.1 r6.2.2.2.2.2.2.2.2.2.2 (x4 + (1 : Int32))))
    else
    (M_X1_read_b47 sh_sizes sh_places rd_signs rd_size rd_place rd_fault rd_head rg_ropes rg_acts rg_start rg_reached rg_kinds rg_strengths rg_moved rg_needs rg_forbids))
set_option maxHeartbeats 4000000 in
set_option maxRecDepth 100000 in
theorem w_X1_read_b13 {G : x_G} {l : Launch} {ax : Nat → Nat} {ad : Nat → Nat} {b : Nat → Nat} {sh_sizes : (Nat → Int32)} {sh_places : (Nat → Nat → Int32)} {res : Int32 × (Nat → Int32) × Int32 × Int32 × Int32 × Int32 × Int32 × Int32 × Int64 × Int32 × (Nat → Int32) × (Nat → Int32) × (Nat → Int32) × (Nat → Int32) × (Nat → Int32)} : ∀ (n : Nat) (rd_signs : (Nat → Int32)) (rd_size : Int32) (rd_place : Int32) (rd_fault : Int32) (rd_head : Int32) (rg_ropes : Int32) (rg_acts : Int32) (rg_start : Int64) (rg_reached : Int32) (rg_kinds : (Nat → Int32)) (rg_strengths : (Nat → Int32)) (rg_moved : (Nat → Int32)) (rg_needs : (Nat → Int32)) (rg_forbids : (Nat → Int32)) (x4 : Int32), M_X1_read_b13 sh_sizes sh_places n rd_signs rd_size rd_place rd_fault rd_head rg_ropes rg_acts rg_start rg_reached rg_kinds rg_strengths rg_moved rg_needs rg_forbids x4 = some res → X G l RX1 cX1_read 5 (x_R 5 0 0) (x_Cm G (some .int) false (x_is (some (.int res.1)) ((WShelf G ax 4 60 60 32 sh_sizes sh_places) ++ ((WReader G ad res.2.1 res.2.2.1 res.2.2.2.1 res.2.2.2.2.1 res.2.2.2.2.2.1) ++ (WRig G b res.2.2.2.2.2.2.1 res.2.2.2.2.2.2.2.1 res.2.2.2.2.2.2.2.2.1 res.2.2.2.2.2.2.2.2.2.1 res.2.2.2.2.2.2.2.2.2.2.1 res.2.2.2.2.2.2.2.2.2.2.2.1 res.2.2.2.2.2.2.2.2.2.2.2.2.1 res.2.2.2.2.2.2.2.2.2.2.2.2.2.1 res.2.2.2.2.2.2.2.2.2.2.2.2.2.2)))) 0 0) 0 0 13 [(0, .ref (ad 0)), (3, .ref (b 0)), (4, .int x4)] [] ((WShelf G ax 4 60 60 32 sh_sizes sh_places) ++ ((WReader G ad rd_signs rd_size rd_place rd_fault rd_head) ++ (WRig G b rg_ropes rg_acts rg_start rg_reached rg_kinds rg_strengths rg_moved rg_needs rg_forbids))) := by
  intro n
  induction n with
  | zero =>
    intro _ _ _ _ _ _ _ _ _ _ _ _ _ _ _ h
    cases h
  | succ n ih =>
    intro rd_signs rd_size rd_place rd_fault rd_head rg_ropes rg_acts rg_start rg_reached rg_kinds rg_strengths rg_moved rg_needs rg_forbids x4 h
    rw [M_X1_read_b13] at h
    refine x_iload dX1_read_13 2 rfl ?_
    refine x_bipush 60 dX1_read_15 (by decide) ?_
    refine x_icmp_ge 47 dX1_read_17 (by decide) (fun c1 => ?_) (fun c1 => ?_)
    · have h := x_pos c1 h
      refine x_lv [0, 1] rfl ?_
      exact w_X1_read_b47  _ _ _ _ _ _ _ _ _ _ _ _ _ _ h
    · have h := x_neg c1 h
      refine x_aload_n dX1_read_20 0 rfl rfl ?_
      refine x_get (ci := 1) 3 7 dX1_read_21 fl_X1_22 inX1 rfl (by decide) ⟨rfl, rfl, rfl⟩ rfl rfl ?_
      refine x_bipush (-9 : Int32) dX1_read_24 (by decide) ?_
      refine x_icmp_ne 47 dX1_read_26 (by decide) (fun c2 => ?_) (fun c2 => ?_)
      · have h := x_neg c2 h
        refine x_lv [0, 1] rfl ?_
        exact w_X1_read_b47  _ _ _ _ _ _ _ _ _ _ _ _ _ _ h
      · have h := x_pos c2 h
        refine x_aload_n dX1_read_29 0 rfl rfl ?_
        obtain ⟨r3, e4, h⟩ := x_bind h
        refine x_cV (As := []) (wc := (WReader G ad rd_signs rd_size rd_place rd_fault rd_head)) (w1 := (WReader G ad rd_signs rd_size r3.2 rd_fault rd_head)) (pre := (WShelf G ax 4 60 60 32 sh_sizes sh_places)) (post := (WRig G b rg_ropes rg_acts rg_start rg_reached rg_kinds rg_strengths rg_moved rg_needs rg_forbids)) (rest := []) (st1 := [.int r3.1]) (ws1 := ((WShelf G ax 4 60 60 32 sh_sizes sh_places) ++ ((WReader G ad rd_signs rd_size r3.2 rd_fault rd_head) ++ (WRig G b rg_ropes rg_acts rg_start rg_reached rg_kinds rg_strengths rg_moved rg_needs rg_forbids)))) (ci := 1) 0 dX1_read_30 (c_X1_isMoreAhead (ad := ad) e4) pk_X1_isMoreAhead ml_X1_38 (by simp only [List.append_assoc, List.append_nil, List.nil_append]) rfl rfl rfl rfl rfl rfl rfl rfl (by simp only [List.append_assoc, List.append_nil, List.nil_append]) ?_
        refine x_if_eq 47 dX1_read_33 (by decide) (fun c5 => ?_) (fun c5 => ?_)
        · have h := x_pos c5 h
          refine x_lv [0, 1] rfl ?_
          exact w_X1_read_b47  _ _ _ _ _ _ _ _ _ _ _ _ _ _ h
        · have h := x_neg c5 h
          refine x_aload_n dX1_read_36 0 rfl rfl ?_
          refine x_aload_n dX1_read_37 1 rfl rfl ?_
          obtain ⟨r6, e7, h⟩ := x_bind h
          refine x_cV (As := [.ref (b 0)]) (wc := ((WReader G ad rd_signs rd_size r3.2 rd_fault rd_head) ++ (WRig G b rg_ropes rg_acts rg_start rg_reached rg_kinds rg_strengths rg_moved rg_needs rg_forbids))) (w1 := ((WReader G ad rd_signs rd_size r6.1 r6.2.1 r6.2.2.1) ++ (WRig G b r6.2.2.2.1 r6.2.2.2.2.1 r6.2.2.2.2.2.1 rg_reached r6.2.2.2.2.2.2.1 r6.2.2.2.2.2.2.2.1 r6.2.2.2.2.2.2.2.2.1 r6.2.2.2.2.2.2.2.2.2.1 r6.2.2.2.2.2.2.2.2.2.2))) (pre := (WShelf G ax 4 60 60 32 sh_sizes sh_places)) (post := ([] : va_W)) (rest := []) (st1 := []) (ws1 := ((WShelf G ax 4 60 60 32 sh_sizes sh_places) ++ ((WReader G ad rd_signs rd_size r6.1 r6.2.1 r6.2.2.1) ++ (WRig G b r6.2.2.2.1 r6.2.2.2.2.1 r6.2.2.2.2.2.1 rg_reached r6.2.2.2.2.2.2.1 r6.2.2.2.2.2.2.2.1 r6.2.2.2.2.2.2.2.2.1 r6.2.2.2.2.2.2.2.2.2.1 r6.2.2.2.2.2.2.2.2.2.2)))) (ci := 1) 0 dX1_read_38 (c_X1_readItem (ad := ad) (b := b) e7) pk_X1_readItem ml_X1_42 (by simp only [List.append_assoc, List.append_nil, List.nil_append]) rfl rfl rfl rfl rfl rfl rfl rfl (by simp only [List.append_assoc, List.append_nil, List.nil_append]) ?_
          refine x_iinc (j := 2) (1 : Int32) [(4, .int (x4 + (1 : Int32))), (0, .ref (ad 0)), (3, .ref (b 0))] dX1_read_41 (by decide) rfl (by decide) rfl ?_
          refine x_goto 13 dX1_read_44 (by decide) ?_
          refine x_lv [1, 2, 0] rfl ?_
          exact ih _ _ _ _ _ _ _ _ _ _ _ _ _ _ _ h
def M_X1_read (sh_sizes : (Nat → Int32)) (sh_places : (Nat → Nat → Int32)) (rd_signs : (Nat → Int32)) (rd_size : Int32) (rd_place : Int32) (rd_fault : Int32) (rd_head : Int32) (rg_ropes : Int32) (rg_acts : Int32) (rg_start : Int64) (rg_reached : Int32) (rg_kinds : (Nat → Int32)) (rg_strengths : (Nat → Int32)) (rg_moved : (Nat → Int32)) (rg_needs : (Nat → Int32)) (rg_forbids : (Nat → Int32)) (x2 : Int32) : Option (Int32 × (Nat → Int32) × Int32 × Int32 × Int32 × Int32 × Int32 × Int32 × Int64 × Int32 × (Nat → Int32) × (Nat → Int32) × (Nat → Int32) × (Nat → Int32) × (Nat → Int32)) :=
  (M_X1_take sh_sizes sh_places rd_signs rd_size rd_place rd_fault rd_head x2).bind fun r10 =>
  M_X1_read_b13 sh_sizes sh_places x_fuel r10.1 r10.2.1 r10.2.2.1 r10.2.2.2.1 r10.2.2.2.2 ((M_X2_clear rg_ropes rg_acts rg_start rg_reached).1) ((M_X2_clear rg_ropes rg_acts rg_start rg_reached).2.1) ((M_X2_clear rg_ropes rg_acts rg_start rg_reached).2.2.1) ((M_X2_clear rg_ropes rg_acts rg_start rg_reached).2.2.2) rg_kinds rg_strengths rg_moved rg_needs rg_forbids (0 : Int32)
set_option maxHeartbeats 4000000 in
set_option maxRecDepth 100000 in
theorem c_X1_read {G : x_G} {l : Launch} {ax : Nat → Nat} {ad : Nat → Nat} {b : Nat → Nat} {sh_sizes : (Nat → Int32)} {sh_places : (Nat → Nat → Int32)} {rd_signs : (Nat → Int32)} {rd_size : Int32} {rd_place : Int32} {rd_fault : Int32} {rd_head : Int32} {rg_ropes : Int32} {rg_acts : Int32} {rg_start : Int64} {rg_reached : Int32} {rg_kinds : (Nat → Int32)} {rg_strengths : (Nat → Int32)} {rg_moved : (Nat → Int32)} {rg_needs : (Nat → Int32)} {rg_forbids : (Nat → Int32)} {x2 : Int32} {res : Int32 × (Nat → Int32) × Int32 × Int32 × Int32 × Int32 × Int32 × Int32 × Int64 × Int32 × (Nat → Int32) × (Nat → Int32) × (Nat → Int32) × (Nat → Int32) × (Nat → Int32)} (h : M_X1_read sh_sizes sh_places rd_signs rd_size rd_place rd_fault rd_head rg_ropes rg_acts rg_start rg_reached rg_kinds rg_strengths rg_moved rg_needs rg_forbids x2 = some res) : x_M G l yX1_read cX1_read 5 (some .int) (5) 0 0 [.ref (ad 0), .ref (ax 0), .int x2, .ref (b 0)] ((WShelf G ax 4 60 60 32 sh_sizes sh_places) ++ ((WReader G ad rd_signs rd_size rd_place rd_fault rd_head) ++ (WRig G b rg_ropes rg_acts rg_start rg_reached rg_kinds rg_strengths rg_moved rg_needs rg_forbids))) (x_is (some (.int res.1)) ((WShelf G ax 4 60 60 32 sh_sizes sh_places) ++ ((WReader G ad res.2.1 res.2.2.1 res.2.2.2.1 res.2.2.2.2.1 res.2.2.2.2.2.1) ++ (WRig G b res.2.2.2.2.2.2.1 res.2.2.2.2.2.2.2.1 res.2.2.2.2.2.2.2.2.1 res.2.2.2.2.2.2.2.2.2.1 res.2.2.2.2.2.2.2.2.2.2.1 res.2.2.2.2.2.2.2.2.2.2.2.1 res.2.2.2.2.2.2.2.2.2.2.2.2.1 res.2.2.2.2.2.2.2.2.2.2.2.2.2.1 res.2.2.2.2.2.2.2.2.2.2.2.2.2.2)))) := by
  unfold M_X1_read at h
  refine x_enter (ini := false) (by decide) rfl (by decide) rfl (Nat.le_of_ble_eq_true rfl) ?_
  refine x_aload_n dX1_read_0 0 rfl rfl ?_
  refine x_aload_n dX1_read_1 1 rfl rfl ?_
  refine x_iload_n dX1_read_2 2 rfl rfl ?_
  obtain ⟨r10, e11, h⟩ := x_bind h
  refine x_cV (As := [.ref (ax 0), .int x2]) (wc := ((WShelf G ax 4 60 60 32 sh_sizes sh_places) ++ (WReader G ad rd_signs rd_size rd_place rd_fault rd_head))) (w1 := ((WShelf G ax 4 60 60 32 sh_sizes sh_places) ++ (WReader G ad r10.1 r10.2.1 r10.2.2.1 r10.2.2.2.1 r10.2.2.2.2))) (pre := ([] : va_W)) (post := (WRig G b rg_ropes rg_acts rg_start rg_reached rg_kinds rg_strengths rg_moved rg_needs rg_forbids)) (rest := []) (st1 := []) (ws1 := ((WShelf G ax 4 60 60 32 sh_sizes sh_places) ++ ((WReader G ad r10.1 r10.2.1 r10.2.2.1 r10.2.2.2.1 r10.2.2.2.2) ++ (WRig G b rg_ropes rg_acts rg_start rg_reached rg_kinds rg_strengths rg_moved rg_needs rg_forbids)))) (ci := 1) 7 dX1_read_3 (c_X1_take (ax := ax) (ad := ad) e11) pk_X1_take ml_X1_29 (by simp only [List.append_assoc, List.append_nil, List.nil_append]) rfl rfl rfl rfl rfl rfl rfl rfl (by simp only [List.append_assoc, List.append_nil, List.nil_append]) ?_
  refine x_aload_n dX1_read_6 3 rfl rfl ?_
  refine x_cV (As := []) (wc := (WRig G b rg_ropes rg_acts rg_start rg_reached rg_kinds rg_strengths rg_moved rg_needs rg_forbids)) (w1 := (WRig G b ((M_X2_clear rg_ropes rg_acts rg_start rg_reached).1) ((M_X2_clear rg_ropes rg_acts rg_start rg_reached).2.1) ((M_X2_clear rg_ropes rg_acts rg_start rg_reached).2.2.1) ((M_X2_clear rg_ropes rg_acts rg_start rg_reached).2.2.2) rg_kinds rg_strengths rg_moved rg_needs rg_forbids)) (pre := ((WShelf G ax 4 60 60 32 sh_sizes sh_places) ++ (WReader G ad r10.1 r10.2.1 r10.2.2.1 r10.2.2.2.1 r10.2.2.2.2))) (post := ([] : va_W)) (rest := []) (st1 := []) (ws1 := ((WShelf G ax 4 60 60 32 sh_sizes sh_places) ++ ((WReader G ad r10.1 r10.2.1 r10.2.2.1 r10.2.2.2.1 r10.2.2.2.2) ++ (WRig G b ((M_X2_clear rg_ropes rg_acts rg_start rg_reached).1) ((M_X2_clear rg_ropes rg_acts rg_start rg_reached).2.1) ((M_X2_clear rg_ropes rg_acts rg_start rg_reached).2.2.1) ((M_X2_clear rg_ropes rg_acts rg_start rg_reached).2.2.2) rg_kinds rg_strengths rg_moved rg_needs rg_forbids)))) (ci := 2) 0 dX1_read_7 (c_X2_clear (b := b) rfl) pk_X2_clear ml_X1_33 (by simp only [List.append_assoc, List.append_nil, List.nil_append]) rfl rfl rfl rfl rfl rfl rfl rfl (by simp only [List.append_assoc, List.append_nil, List.nil_append]) ?_
  refine x_iconst 0 dX1_read_10 (by decide) ?_
  refine x_istore [(4, .int (0 : Int32)), (0, .ref (ad 0)), (1, .ref (ax 0)), (2, .int x2), (3, .ref (b 0))] dX1_read_11 (by decide) rfl ?_
  refine x_lv [1, 4, 0] rfl ?_
  exact w_X1_read_b13  _ _ _ _ _ _ _ _ _ _ _ _ _ _ _ _ h
theorem pk_X3_isTooFar : x_ps yX3_isTooFar cX3_isTooFar 9 (some .boolean) 4 := ⟨⟨co_X3_isTooFar, ni_X3, by decide, by decide +kernel⟩, sm_X3_isTooFar⟩
def M_X3_isTooFar_b62 (ropes : Int32) (acts : Int32) (needs : (Nat → Int32)) (forbids : (Nat → Int32)) (x4 : Int32) (s0 : Int32) (s1 : Int32) : Option (Int32) :=
  if (s0 + s1) ≤ x4 then
  (some (0 : Int32))
  else
  (some (1 : Int32))
set_option maxHeartbeats 4000000 in
set_option maxRecDepth 100000 in
theorem w_X3_isTooFar_b62 {G : x_G} {l : Launch} {b : Nat → Nat} {ropes : Int32} {acts : Int32} {needs : (Nat → Int32)} {forbids : (Nat → Int32)} {start : Int64} {reached : Int32} {kinds : (Nat → Int32)} {strengths : (Nat → Int32)} {moved : (Nat → Int32)} {res : Int32} (x4 : Int32) (s0 : Int32) (s1 : Int32) (h : M_X3_isTooFar_b62 ropes acts needs forbids x4 s0 s1 = some res) : X G l RX3 cX3_isTooFar 9 (x_R 2 0 0) (x_Cm G (some .boolean) false (x_is (some (.int res)) (WRig G b ropes acts start reached kinds strengths moved needs forbids)) 0 0) 0 0 62 [(4, .int x4)] [.int s1, .int s0] (WRig G b ropes acts start reached kinds strengths moved needs forbids) := by
  unfold M_X3_isTooFar_b62 at h
  refine x_iadd dX3_isTooFar_62 ?_
  refine x_iload dX3_isTooFar_63 0 rfl ?_
  refine x_icmp_le 72 dX3_isTooFar_65 (by decide) (fun c1 => ?_) (fun c1 => ?_)
  · have h := x_pos c1 h
    refine x_iconst 0 dX3_isTooFar_72 (by decide) ?_
    cases h
    exact x_ireturn dX3_isTooFar_73 rfl (x_is.rf _ _)
  · have h := x_neg c1 h
    refine x_iconst 1 dX3_isTooFar_68 (by decide) ?_
    refine x_goto 73 dX3_isTooFar_69 (by decide) ?_
    cases h
    exact x_ireturn dX3_isTooFar_73 rfl (x_is.rf _ _)
def M_X3_isTooFar (ropes : Int32) (acts : Int32) (needs : (Nat → Int32)) (forbids : (Nat → Int32)) (x1 : Int32) (x2 : Int64) (x4 : Int32) : Option (Int32) :=
  (M_X5_taut x2).bind fun r2 =>
  (M_X2_needed ropes acts needs x1).bind fun r4 =>
  (M_X2_forbidden ropes acts forbids x1).bind fun r6 =>
  if ((r4 &&& (r2 ^^^ (-1 : Int32))) &&& ((M_X5_letGo x2) ||| (M_X5_parted x2))) = 0 then
  (if (r4 &&& (r2 ^^^ (-1 : Int32))) = 0 then
  (M_X3_isTooFar_b62 ropes acts needs forbids x4 (M_J6_bitCount_0f7a4 (r6 &&& r2)) (0 : Int32))
  else
  (M_X3_isTooFar_b62 ropes acts needs forbids x4 (M_J6_bitCount_0f7a4 (r6 &&& r2)) (1 : Int32)))
  else
  (some (1 : Int32))
set_option maxHeartbeats 4000000 in
set_option maxRecDepth 100000 in
theorem c_X3_isTooFar {G : x_G} {l : Launch} {b : Nat → Nat} {ropes : Int32} {acts : Int32} {needs : (Nat → Int32)} {forbids : (Nat → Int32)} {start : Int64} {reached : Int32} {kinds : (Nat → Int32)} {strengths : (Nat → Int32)} {moved : (Nat → Int32)} {x1 : Int32} {x2 : Int64} {x4 : Int32} {res : Int32} (h : M_X3_isTooFar ropes acts needs forbids x1 x2 x4 = some res) : x_M G l yX3_isTooFar cX3_isTooFar 9 (some .boolean) (2) 0 0 [.ref (b 0), .int x1, .long x2, .int x4] (WRig G b ropes acts start reached kinds strengths moved needs forbids) (x_is (some (.int res)) (WRig G b ropes acts start reached kinds strengths moved needs forbids)) := by
  unfold M_X3_isTooFar at h
  refine x_enter (ini := false) (by decide) rfl (by decide) rfl (Nat.le_of_ble_eq_true rfl) ?_
  refine x_lload_n dX3_isTooFar_0 2 rfl rfl ?_
  obtain ⟨r2, e3, h⟩ := x_bind h
  refine x_cS (As := [.long x2]) (wc := ([] : va_W)) (w1 := ([] : va_W)) (pre := []) (post := (WRig G b ropes acts start reached kinds strengths moved needs forbids)) (rest := []) (st1 := [.int r2]) (ws1 := (WRig G b ropes acts start reached kinds strengths moved needs forbids)) dX3_isTooFar_1 (c_X5_taut e3) pk_X5_taut ml_X3_43 rfl rfl rfl rfl rfl rfl rfl ?_
  refine x_istore [(5, .int r2), (0, .ref (b 0)), (1, .int x1), (2, .long x2), (4, .int x4)] dX3_isTooFar_4 (by decide) rfl ?_
  refine x_lload_n dX3_isTooFar_6 3 rfl rfl ?_
  refine x_cS (As := [.long x2]) (wc := ([] : va_W)) (w1 := ([] : va_W)) (pre := []) (post := (WRig G b ropes acts start reached kinds strengths moved needs forbids)) (rest := []) (st1 := [.int (M_X5_letGo x2)]) (ws1 := (WRig G b ropes acts start reached kinds strengths moved needs forbids)) dX3_isTooFar_7 (c_X5_letGo rfl) pk_X5_letGo ml_X3_46 rfl rfl rfl rfl rfl rfl rfl ?_
  refine x_lload_n dX3_isTooFar_10 3 rfl rfl ?_
  refine x_cS (As := [.long x2]) (wc := ([] : va_W)) (w1 := ([] : va_W)) (pre := []) (post := (WRig G b ropes acts start reached kinds strengths moved needs forbids)) (rest := [.int (M_X5_letGo x2)]) (st1 := [.int (M_X5_parted x2), .int (M_X5_letGo x2)]) (ws1 := (WRig G b ropes acts start reached kinds strengths moved needs forbids)) dX3_isTooFar_11 (c_X5_parted rfl) pk_X5_parted ml_X3_39 rfl rfl rfl rfl rfl rfl rfl ?_
  refine x_ior dX3_isTooFar_14 ?_
  refine x_istore [(6, .int ((M_X5_letGo x2) ||| (M_X5_parted x2))), (5, .int r2), (0, .ref (b 0)), (1, .int x1), (2, .long x2), (4, .int x4)] dX3_isTooFar_15 (by decide) rfl ?_
  refine x_aload_n dX3_isTooFar_17 2 rfl rfl ?_
  refine x_iload_n dX3_isTooFar_18 3 rfl rfl ?_
  obtain ⟨r4, e5, h⟩ := x_bind h
  refine x_cV (As := [.int x1]) (wc := (WRig G b ropes acts start reached kinds strengths moved needs forbids)) (w1 := (WRig G b ropes acts start reached kinds strengths moved needs forbids)) (pre := []) (post := []) (rest := []) (st1 := [.int r4]) (ws1 := (WRig G b ropes acts start reached kinds strengths moved needs forbids)) (ci := 2) 0 dX3_isTooFar_19 (c_X2_needed (b := b) e5) pk_X2_needed ml_X3_49 (x_full _) rfl rfl rfl rfl rfl rfl rfl rfl (x_full _).symm ?_
  refine x_iload dX3_isTooFar_22 1 rfl ?_
  refine x_iconst (-1 : Int32) dX3_isTooFar_24 (by decide) ?_
  refine x_ixor dX3_isTooFar_25 ?_
  refine x_iand dX3_isTooFar_26 ?_
  refine x_istore [(7, .int (r4 &&& (r2 ^^^ (-1 : Int32)))), (6, .int ((M_X5_letGo x2) ||| (M_X5_parted x2))), (5, .int r2), (0, .ref (b 0)), (1, .int x1), (2, .long x2), (4, .int x4)] dX3_isTooFar_27 (by decide) rfl ?_
  refine x_aload_n dX3_isTooFar_29 3 rfl rfl ?_
  refine x_iload_n dX3_isTooFar_30 4 rfl rfl ?_
  obtain ⟨r6, e7, h⟩ := x_bind h
  refine x_cV (As := [.int x1]) (wc := (WRig G b ropes acts start reached kinds strengths moved needs forbids)) (w1 := (WRig G b ropes acts start reached kinds strengths moved needs forbids)) (pre := []) (post := []) (rest := []) (st1 := [.int r6]) (ws1 := (WRig G b ropes acts start reached kinds strengths moved needs forbids)) (ci := 2) 0 dX3_isTooFar_31 (c_X2_forbidden (b := b) e7) pk_X2_forbidden ml_X3_53 (x_full _) rfl rfl rfl rfl rfl rfl rfl rfl (x_full _).symm ?_
  refine x_iload dX3_isTooFar_34 2 rfl ?_
  refine x_iand dX3_isTooFar_36 ?_
  refine x_cS (As := [.int (r6 &&& r2)]) (wc := ([] : va_W)) (w1 := ([] : va_W)) (pre := []) (post := (WRig G b ropes acts start reached kinds strengths moved needs forbids)) (rest := []) (st1 := [.int (M_J6_bitCount_0f7a4 (r6 &&& r2))]) (ws1 := (WRig G b ropes acts start reached kinds strengths moved needs forbids)) dX3_isTooFar_37 (c_J6_bitCount_0f7a4 rfl) pk_J6_bitCount_0f7a4 ml_X3_56 rfl rfl rfl rfl rfl rfl rfl ?_
  refine x_istore [(8, .int (M_J6_bitCount_0f7a4 (r6 &&& r2))), (7, .int (r4 &&& (r2 ^^^ (-1 : Int32)))), (6, .int ((M_X5_letGo x2) ||| (M_X5_parted x2))), (5, .int r2), (0, .ref (b 0)), (1, .int x1), (2, .long x2), (4, .int x4)] dX3_isTooFar_40 (by decide) rfl ?_
  refine x_iload dX3_isTooFar_42 1 rfl ?_
  refine x_iload dX3_isTooFar_44 2 rfl ?_
  refine x_iand dX3_isTooFar_46 ?_
  refine x_if_ne 68 dX3_isTooFar_47 (by decide) (fun c8 => ?_) (fun c8 => ?_)
  · have h := x_neg c8 h
    refine x_iconst 1 dX3_isTooFar_68 (by decide) ?_
    refine x_goto 73 dX3_isTooFar_69 (by decide) ?_
    cases h
    exact x_ireturn dX3_isTooFar_73 rfl (x_is.rf _ _)
  · have h := x_pos c8 h
    refine x_iload dX3_isTooFar_50 0 rfl ?_
    refine x_iload dX3_isTooFar_52 1 rfl ?_
    refine x_if_eq 61 dX3_isTooFar_54 (by decide) (fun c9 => ?_) (fun c9 => ?_)
    · have h := x_pos c9 h
      refine x_iconst 0 dX3_isTooFar_61 (by decide) ?_
      refine x_lv [7] rfl ?_
      exact w_X3_isTooFar_b62  _ _ _ h
    · have h := x_neg c9 h
      refine x_iconst 1 dX3_isTooFar_57 (by decide) ?_
      refine x_goto 62 dX3_isTooFar_58 (by decide) ?_
      refine x_lv [7] rfl ?_
      exact w_X3_isTooFar_b62  _ _ _ h
theorem pk_X3_isReached : x_ps yX3_isReached cX3_isReached 12 (some .boolean) 6 := ⟨⟨co_X3_isReached, ni_X3, by decide, by decide +kernel⟩, sm_X3_isReached⟩
def M_X3_isReached_b149 (rg_ropes : Int32) (rg_acts : Int32) (rg_kinds : (Nat → Int32)) (rg_strengths : (Nat → Int32)) (rg_moved : (Nat → Int32)) (rg_needs : (Nat → Int32)) (rg_forbids : (Nat → Int32)) (kr : Int32 → (Nat → Int32) → Int32 → Int64 → Int32 → Int32 → Option (Int32 × Int32 × (Nat → Int32))) (k52 : Int32 → (Nat → Int32) → Int32 → Int64 → Int32 → Int32 → Int32 → Int32 → Option (Int32 × Int32 × (Nat → Int32))) (rg_reached : Int32) (q_c : (Nat → Int32)) (x1 : Int32) (x2 : Int64) (x5 : Int32) (x6 : Int32) (x7 : Int32) (x8 : Int32) : Option (Int32 × Int32 × (Nat → Int32)) :=
  k52 rg_reached q_c x1 x2 x5 x6 x7 (x8 + (1 : Int32))
set_option maxHeartbeats 4000000 in
set_option maxRecDepth 100000 in
theorem w_X3_isReached_b149 {G : x_G} {l : Launch} {b : Nat → Nat} {aq : Nat → Nat} {rg_ropes : Int32} {rg_acts : Int32} {rg_kinds : (Nat → Int32)} {rg_strengths : (Nat → Int32)} {rg_moved : (Nat → Int32)} {rg_needs : (Nat → Int32)} {rg_forbids : (Nat → Int32)} {rg_start : Int64} {kr : Int32 → (Nat → Int32) → Int32 → Int64 → Int32 → Int32 → Option (Int32 × Int32 × (Nat → Int32))} {k52 : Int32 → (Nat → Int32) → Int32 → Int64 → Int32 → Int32 → Int32 → Int32 → Option (Int32 × Int32 × (Nat → Int32))} {rn : Nat} {res : Int32 × Int32 × (Nat → Int32)} (hkr : ∀ (rg_reached : Int32) (q_c : (Nat → Int32)) (x1 : Int32) (x2 : Int64) (x5 : Int32) (x6 : Int32) (res' : Int32 × Int32 × (Nat → Int32)), kr rg_reached q_c x1 x2 x5 x6 = some res' → x_M G l yX3_isReached cX3_isReached 12 (some .boolean) (5 + rn) 0 0 [.ref (b 0), .int x1, .long x2, .ref (aq 0), .int x5, .int x6] ((WRig G b rg_ropes rg_acts rg_start rg_reached rg_kinds rg_strengths rg_moved rg_needs rg_forbids) ++ (WArr G aq 4 q_c)) (x_is (some (.int res'.1)) ((WRig G b rg_ropes rg_acts rg_start (res'.2.1) rg_kinds rg_strengths rg_moved rg_needs rg_forbids) ++ (WArr G aq 4 (res'.2.2))))) (hk52 : ∀ (rg_reached : Int32) (q_c : (Nat → Int32)) (x1 : Int32) (x2 : Int64) (x5 : Int32) (x6 : Int32) (x7 : Int32) (x8 : Int32), k52 rg_reached q_c x1 x2 x5 x6 x7 x8 = some res → X G l RX3 cX3_isReached 12 (x_R (5 + (rn + 1)) 0 0) (x_Cm G (some .boolean) false (x_is (some (.int res.1)) ((WRig G b rg_ropes rg_acts rg_start res.2.1 rg_kinds rg_strengths rg_moved rg_needs rg_forbids) ++ (WArr G aq 4 res.2.2))) 0 0) 0 0 52 [(0, .ref (b 0)), (1, .int x1), (2, .long x2), (4, .ref (aq 0)), (5, .int x5), (6, .int x6), (7, .int x7), (8, .int x8)] [] ((WRig G b rg_ropes rg_acts rg_start rg_reached rg_kinds rg_strengths rg_moved rg_needs rg_forbids) ++ (WArr G aq 4 q_c))) (rg_reached : Int32) (q_c : (Nat → Int32)) (x1 : Int32) (x2 : Int64) (x5 : Int32) (x6 : Int32) (x7 : Int32) (x8 : Int32) (h : M_X3_isReached_b149 rg_ropes rg_acts rg_kinds rg_strengths rg_moved rg_needs rg_forbids kr k52 rg_reached q_c x1 x2 x5 x6 x7 x8 = some res) : X G l RX3 cX3_isReached 12 (x_R (5 + (rn + 1)) 0 0) (x_Cm G (some .boolean) false (x_is (some (.int res.1)) ((WRig G b rg_ropes rg_acts rg_start res.2.1 rg_kinds rg_strengths rg_moved rg_needs rg_forbids) ++ (WArr G aq 4 res.2.2))) 0 0) 0 0 149 [(0, .ref (b 0)), (1, .int x1), (2, .long x2), (4, .ref (aq 0)), (5, .int x5), (6, .int x6), (7, .int x7), (8, .int x8)] [] ((WRig G b rg_ropes rg_acts rg_start rg_reached rg_kinds rg_strengths rg_moved rg_needs rg_forbids) ++ (WArr G aq 4 q_c)) := by
  unfold M_X3_isReached_b149 at h
  refine x_iinc (j := 7) (1 : Int32) [(8, .int (x8 + (1 : Int32))), (0, .ref (b 0)), (1, .int x1), (2, .long x2), (4, .ref (aq 0)), (5, .int x5), (6, .int x6), (7, .int x7)] dX3_isReached_149 (by decide) rfl (by decide) rfl ?_
  refine x_goto 52 dX3_isReached_152 (by decide) ?_
  refine x_lv [1, 2, 3, 4, 5, 6, 7, 0] rfl ?_
  exact hk52 _ _ _ _ _ _ _ _ h
def M_X3_isReached_b108 (rg_ropes : Int32) (rg_acts : Int32) (rg_kinds : (Nat → Int32)) (rg_strengths : (Nat → Int32)) (rg_moved : (Nat → Int32)) (rg_needs : (Nat → Int32)) (rg_forbids : (Nat → Int32)) (kr : Int32 → (Nat → Int32) → Int32 → Int64 → Int32 → Int32 → Option (Int32 × Int32 × (Nat → Int32))) (k52 : Int32 → (Nat → Int32) → Int32 → Int64 → Int32 → Int32 → Int32 → Int32 → Option (Int32 × Int32 × (Nat → Int32))) (rg_reached : Int32) (q_c : (Nat → Int32)) (x1 : Int32) (x2 : Int64) (x5 : Int32) (x6 : Int32) (x7 : Int32) (x8 : Int32) (s0 : Int64) : Option (Int32 × Int32 × (Nat → Int32)) :=
  if inb x7 4 then
  if (M_X5_parted s0) = (M_X5_parted x2) then
  ((kr rg_reached (upd q_c x7.toNatClampNeg x8) x1 s0 x5 (x6 - (1 : Int32))).bind fun r9 =>
  if r9.1 = 0 then
  (M_X3_isReached_b149 rg_ropes rg_acts rg_kinds rg_strengths rg_moved rg_needs rg_forbids kr k52 r9.2.1 r9.2.2 x1 x2 x5 x6 x7 x8)
  else
  (some ((1 : Int32), r9.2.1, r9.2.2)))
  else
  (M_X3_isReached_b149 rg_ropes rg_acts rg_kinds rg_strengths rg_moved rg_needs rg_forbids kr k52 rg_reached (upd q_c x7.toNatClampNeg x8) x1 x2 x5 x6 x7 x8)
  else none
set_option maxHeartbeats 4000000 in
set_option maxRecDepth 100000 in
theorem w_X3_isReached_b108 {G : x_G} {l : Launch} {b : Nat → Nat} {aq : Nat → Nat} {rg_ropes : Int32} {rg_acts : Int32} {rg_kinds : (Nat → Int32)} {rg_strengths : (Nat → Int32)} {rg_moved : (Nat → Int32)} {rg_needs : (Nat → Int32)} {rg_forbids : (Nat → Int32)} {rg_start : Int64} {kr : Int32 → (Nat → Int32) → Int32 → Int64 → Int32 → Int32 → Option (Int32 × Int32 × (Nat → Int32))} {k52 : Int32 → (Nat → Int32) → Int32 → Int64 → Int32 → Int32 → Int32 → Int32 → Option (Int32 × Int32 × (Nat → Int32))} {rn : Nat} {res : Int32 × Int32 × (Nat → Int32)} (hkr : ∀ (rg_reached : Int32) (q_c : (Nat → Int32)) (x1 : Int32) (x2 : Int64) (x5 : Int32) (x6 : Int32) (res' : Int32 × Int32 × (Nat → Int32)), kr rg_reached q_c x1 x2 x5 x6 = some res' → x_M G l yX3_isReached cX3_isReached 12 (some .boolean) (5 + rn) 0 0 [.ref (b 0), .int x1, .long x2, .ref (aq 0), .int x5, .int x6] ((WRig G b rg_ropes rg_acts rg_start rg_reached rg_kinds rg_strengths rg_moved rg_needs rg_forbids) ++ (WArr G aq 4 q_c)) (x_is (some (.int res'.1)) ((WRig G b rg_ropes rg_acts rg_start (res'.2.1) rg_kinds rg_strengths rg_moved rg_needs rg_forbids) ++ (WArr G aq 4 (res'.2.2))))) (hk52 : ∀ (rg_reached : Int32) (q_c : (Nat → Int32)) (x1 : Int32) (x2 : Int64) (x5 : Int32) (x6 : Int32) (x7 : Int32) (x8 : Int32), k52 rg_reached q_c x1 x2 x5 x6 x7 x8 = some res → X G l RX3 cX3_isReached 12 (x_R (5 + (rn + 1)) 0 0) (x_Cm G (some .boolean) false (x_is (some (.int res.1)) ((WRig G b rg_ropes rg_acts rg_start res.2.1 rg_kinds rg_strengths rg_moved rg_needs rg_forbids) ++ (WArr G aq 4 res.2.2))) 0 0) 0 0 52 [(0, .ref (b 0)), (1, .int x1), (2, .long x2), (4, .ref (aq 0)), (5, .int x5), (6, .int x6), (7, .int x7), (8, .int x8)] [] ((WRig G b rg_ropes rg_acts rg_start rg_reached rg_kinds rg_strengths rg_moved rg_needs rg_forbids) ++ (WArr G aq 4 q_c))) (rg_reached : Int32) (q_c : (Nat → Int32)) (x1 : Int32) (x2 : Int64) (x5 : Int32) (x6 : Int32) (x7 : Int32) (x8 : Int32) (s0 : Int64) (h : M_X3_isReached_b108 rg_ropes rg_acts rg_kinds rg_strengths rg_moved rg_needs rg_forbids kr k52 rg_reached q_c x1 x2 x5 x6 x7 x8 s0 = some res) : X G l RX3 cX3_isReached 12 (x_R (5 + (rn + 1)) 0 0) (x_Cm G (some .boolean) false (x_is (some (.int res.1)) ((WRig G b rg_ropes rg_acts rg_start res.2.1 rg_kinds rg_strengths rg_moved rg_needs rg_forbids) ++ (WArr G aq 4 res.2.2))) 0 0) 0 0 108 [(0, .ref (b 0)), (1, .int x1), (2, .long x2), (4, .ref (aq 0)), (5, .int x5), (6, .int x6), (7, .int x7), (8, .int x8)] [.long s0] ((WRig G b rg_ropes rg_acts rg_start rg_reached rg_kinds rg_strengths rg_moved rg_needs rg_forbids) ++ (WArr G aq 4 q_c)) := by
  unfold M_X3_isReached_b108 at h
  refine x_lstore [(10, .long s0), (0, .ref (b 0)), (1, .int x1), (2, .long x2), (4, .ref (aq 0)), (5, .int x5), (6, .int x6), (7, .int x7), (8, .int x8)] dX3_isReached_108 (by decide) rfl ?_
  refine x_aload dX3_isReached_110 4 rfl ?_
  refine x_iload dX3_isReached_112 7 rfl ?_
  refine x_iload dX3_isReached_114 8 rfl ?_
  obtain ⟨b7, h⟩ := x_guard h
  refine x_iast x7.toNatClampNeg (q0 := 6) ((WRig G b rg_ropes rg_acts rg_start rg_reached rg_kinds rg_strengths rg_moved rg_needs rg_forbids) ++ (WArr G aq 4 ((upd q_c x7.toNatClampNeg x8)))) dX3_isReached_116 rfl rfl b7 rfl ?_
  refine x_lload dX3_isReached_117 0 rfl ?_
  refine x_cS (As := [.long s0]) (wc := ([] : va_W)) (w1 := ([] : va_W)) (pre := []) (post := ((WRig G b rg_ropes rg_acts rg_start rg_reached rg_kinds rg_strengths rg_moved rg_needs rg_forbids) ++ (WArr G aq 4 ((upd q_c x7.toNatClampNeg x8))))) (rest := []) (st1 := [.int (M_X5_parted s0)]) (ws1 := ((WRig G b rg_ropes rg_acts rg_start rg_reached rg_kinds rg_strengths rg_moved rg_needs rg_forbids) ++ (WArr G aq 4 ((upd q_c x7.toNatClampNeg x8))))) dX3_isReached_119 (c_X5_parted rfl) pk_X5_parted ml_X3_39 rfl rfl rfl rfl (x_fit_l (by decide)) rfl rfl ?_
  refine x_lload_n dX3_isReached_122 3 rfl rfl ?_
  refine x_cS (As := [.long x2]) (wc := ([] : va_W)) (w1 := ([] : va_W)) (pre := []) (post := ((WRig G b rg_ropes rg_acts rg_start rg_reached rg_kinds rg_strengths rg_moved rg_needs rg_forbids) ++ (WArr G aq 4 ((upd q_c x7.toNatClampNeg x8))))) (rest := [.int (M_X5_parted s0)]) (st1 := [.int (M_X5_parted x2), .int (M_X5_parted s0)]) (ws1 := ((WRig G b rg_ropes rg_acts rg_start rg_reached rg_kinds rg_strengths rg_moved rg_needs rg_forbids) ++ (WArr G aq 4 ((upd q_c x7.toNatClampNeg x8))))) dX3_isReached_123 (c_X5_parted rfl) pk_X5_parted ml_X3_39 rfl rfl rfl rfl (x_fit_l (by decide)) rfl rfl ?_
  refine x_icmp_ne 149 dX3_isReached_126 (by decide) (fun c8 => ?_) (fun c8 => ?_)
  · have h := x_neg c8 h
    refine x_lv [1, 2, 3, 4, 5, 6, 7, 8] rfl ?_
    exact w_X3_isReached_b149 hkr hk52 _ _ _ _ _ _ _ _ h
  · have h := x_pos c8 h
    refine x_aload_n dX3_isReached_129 1 rfl rfl ?_
    refine x_iload_n dX3_isReached_130 2 rfl rfl ?_
    refine x_lload dX3_isReached_131 0 rfl ?_
    refine x_aload dX3_isReached_133 4 rfl ?_
    refine x_iload dX3_isReached_135 5 rfl ?_
    refine x_iload dX3_isReached_137 6 rfl ?_
    refine x_iconst 1 dX3_isReached_139 (by decide) ?_
    refine x_isub dX3_isReached_140 ?_
    obtain ⟨r9, e10, h⟩ := x_bind h
    refine x_cS (As := [.ref (b 0), .int x1, .long s0, .ref (aq 0), .int x5, .int (x6 - (1 : Int32))]) (wc := ((WRig G b rg_ropes rg_acts rg_start rg_reached rg_kinds rg_strengths rg_moved rg_needs rg_forbids) ++ (WArr G aq 4 ((upd q_c x7.toNatClampNeg x8))))) (w1 := ((WRig G b rg_ropes rg_acts rg_start r9.2.1 rg_kinds rg_strengths rg_moved rg_needs rg_forbids) ++ (WArr G aq 4 r9.2.2))) (pre := []) (post := []) (rest := []) (st1 := [.int r9.1]) (ws1 := ((WRig G b rg_ropes rg_acts rg_start r9.2.1 rg_kinds rg_strengths rg_moved rg_needs rg_forbids) ++ (WArr G aq 4 r9.2.2))) dX3_isReached_141 (hkr _ _ _ _ _ _ _ e10) pk_X3_isReached ml_X3_9 (x_full _) rfl rfl rfl (x_fit_n _ _) rfl (x_full _).symm ?_
    refine x_if_eq 149 dX3_isReached_144 (by decide) (fun c11 => ?_) (fun c11 => ?_)
    · have h := x_pos c11 h
      refine x_lv [1, 2, 3, 4, 5, 6, 7, 8] rfl ?_
      exact w_X3_isReached_b149 hkr hk52 _ _ _ _ _ _ _ _ h
    · have h := x_neg c11 h
      refine x_iconst 1 dX3_isReached_147 (by decide) ?_
      cases h
      exact x_ireturn dX3_isReached_148 rfl (x_is.rf _ _)
def M_X3_isReached_b52 (rg_ropes : Int32) (rg_acts : Int32) (rg_kinds : (Nat → Int32)) (rg_strengths : (Nat → Int32)) (rg_moved : (Nat → Int32)) (rg_needs : (Nat → Int32)) (rg_forbids : (Nat → Int32)) (kr : Int32 → (Nat → Int32) → Int32 → Int64 → Int32 → Int32 → Option (Int32 × Int32 × (Nat → Int32))) : Nat → Int32 → (Nat → Int32) → Int32 → Int64 → Int32 → Int32 → Int32 → Int32 → Option (Int32 × Int32 × (Nat → Int32))
  | 0, _, _, _, _, _, _, _, _ => none
  | n + 1, rg_reached, q_c, x1, x2, x5, x6, x7, x8 =>
    if (12 : Int32) ≤ x8 then
    (some ((0 : Int32), rg_reached, q_c))
    else
    (if (M_X2_isRope rg_ropes (x8 - x8 / (6 : Int32) * (6 : Int32))) = 0 then
    (M_X3_isReached_b149 rg_ropes rg_acts rg_kinds rg_strengths rg_moved rg_needs rg_forbids kr (fun (rg_reached' : Int32) (q_c' : (Nat → Int32)) (x1' : Int32) (x2' : Int64) (x5' : Int32) (x6' : Int32) (x7' : Int32) (x8' : Int32) => M_X3_isReached_b52 rg_ropes rg_acts rg_kinds rg_strengths rg_moved rg_needs rg_forbids kr n rg_reached' q_c' x1' x2' x5' x6' x7' x8') rg_reached q_c x1 x2 x5 x6 x7 x8)
    else
    (if (M_X5_isFast x2 (x8 - x8 / (6 : Int32) * (6 : Int32))) = 0 then
    (M_X3_isReached_b149 rg_ropes rg_acts rg_kinds rg_strengths rg_moved rg_needs rg_forbids kr (fun (rg_reached' : Int32) (q_c' : (Nat → Int32)) (x1' : Int32) (x2' : Int64) (x5' : Int32) (x6' : Int32) (x7' : Int32) (x8' : Int32) => M_X3_isReached_b52 rg_ropes rg_acts rg_kinds rg_strengths rg_moved rg_needs rg_forbids kr n rg_reached' q_c' x1' x2' x5' x6' x7' x8') rg_reached q_c x1 x2 x5 x6 x7 x8)
    else
    (if (6 : Int32) ≤ x8 then
    (M_X3_isReached_b108 rg_ropes rg_acts rg_kinds rg_strengths rg_moved rg_needs rg_forbids kr (fun (rg_reached' : Int32) (q_c' : (Nat → Int32)) (x1' : Int32) (x2' : Int64) (x5' : Int32) (x6' : Int32) (x7' : Int32) (x8' : Int32) => M_X3_isReached_b52 rg_ropes rg_acts rg_kinds rg_strengths rg_moved rg_needs rg_forbids kr n rg_reached' q_c' x1' x2' x5' x6' x7' x8') rg_reached q_c x1 x2 x5 x6 x7 x8 (M_X5_afterLetGo x2 (x8 - x8 / (6 : Int32) * (6 : Int32))))
    else
    ((M_X2_hauled rg_ropes rg_kinds rg_strengths rg_moved rg_reached x2 (x8 - x8 / (6 : Int32) * (6 : Int32)) (1 : Int32)).bind fun r5 =>
    M_X3_isReached_b108 rg_ropes rg_acts rg_kinds rg_strengths rg_moved rg_needs rg_forbids kr (fun (rg_reached' : Int32) (q_c' : (Nat → Int32)) (x1' : Int32) (x2' : Int64) (x5' : Int32) (x6' : Int32) (x7' : Int32) (x8' : Int32) => M_X3_isReached_b52 rg_ropes rg_acts rg_kinds rg_strengths rg_moved rg_needs rg_forbids kr n rg_reached' q_c' x1' x2' x5' x6' x7' x8') r5.2 q_c x1 x2 x5 x6 x7 x8 r5.1))))
set_option maxHeartbeats 4000000 in
set_option maxRecDepth 100000 in
theorem w_X3_isReached_b52 {G : x_G} {l : Launch} {b : Nat → Nat} {aq : Nat → Nat} {rg_ropes : Int32} {rg_acts : Int32} {rg_kinds : (Nat → Int32)} {rg_strengths : (Nat → Int32)} {rg_moved : (Nat → Int32)} {rg_needs : (Nat → Int32)} {rg_forbids : (Nat → Int32)} {rg_start : Int64} {kr : Int32 → (Nat → Int32) → Int32 → Int64 → Int32 → Int32 → Option (Int32 × Int32 × (Nat → Int32))} {rn : Nat} {res : Int32 × Int32 × (Nat → Int32)} (hkr : ∀ (rg_reached : Int32) (q_c : (Nat → Int32)) (x1 : Int32) (x2 : Int64) (x5 : Int32) (x6 : Int32) (res' : Int32 × Int32 × (Nat → Int32)), kr rg_reached q_c x1 x2 x5 x6 = some res' → x_M G l yX3_isReached cX3_isReached 12 (some .boolean) (5 + rn) 0 0 [.ref (b 0), .int x1, .long x2, .ref (aq 0), .int x5, .int x6] ((WRig G b rg_ropes rg_acts rg_start rg_reached rg_kinds rg_strengths rg_moved rg_needs rg_forbids) ++ (WArr G aq 4 q_c)) (x_is (some (.int res'.1)) ((WRig G b rg_ropes rg_acts rg_start (res'.2.1) rg_kinds rg_strengths rg_moved rg_needs rg_forbids) ++ (WArr G aq 4 (res'.2.2))))) : ∀ (n : Nat) (rg_reached : Int32) (q_c : (Nat → Int32)) (x1 : Int32) (x2 : Int64) (x5 : Int32) (x6 : Int32) (x7 : Int32) (x8 : Int32), M_X3_isReached_b52 rg_ropes rg_acts rg_kinds rg_strengths rg_moved rg_needs rg_forbids kr n rg_reached q_c x1 x2 x5 x6 x7 x8 = some res → X G l RX3 cX3_isReached 12 (x_R (5 + (rn + 1)) 0 0) (x_Cm G (some .boolean) false (x_is (some (.int res.1)) ((WRig G b rg_ropes rg_acts rg_start res.2.1 rg_kinds rg_strengths rg_moved rg_needs rg_forbids) ++ (WArr G aq 4 res.2.2))) 0 0) 0 0 52 [(0, .ref (b 0)), (1, .int x1), (2, .long x2), (4, .ref (aq 0)), (5, .int x5), (6, .int x6), (7, .int x7), (8, .int x8)] [] ((WRig G b rg_ropes rg_acts rg_start rg_reached rg_kinds rg_strengths rg_moved rg_needs rg_forbids) ++ (WArr G aq 4 q_c)) := by
  intro n
  induction n with
  | zero =>
    intro _ _ _ _ _ _ _ _ h
    cases h
  | succ n ih =>
    intro rg_reached q_c x1 x2 x5 x6 x7 x8 h
    rw [M_X3_isReached_b52] at h
    refine x_iload dX3_isReached_52 7 rfl ?_
    refine x_bipush 12 dX3_isReached_54 (by decide) ?_
    refine x_icmp_ge 155 dX3_isReached_56 (by decide) (fun c1 => ?_) (fun c1 => ?_)
    · have h := x_pos c1 h
      refine x_iconst 0 dX3_isReached_155 (by decide) ?_
      cases h
      exact x_ireturn dX3_isReached_156 rfl (x_is.rf _ _)
    · have h := x_neg c1 h
      refine x_iload dX3_isReached_59 7 rfl ?_
      refine x_bipush 6 dX3_isReached_61 (by decide) ?_
      refine x_irem dX3_isReached_63 (by decide) ?_
      refine x_istore [(9, .int (x8 - x8 / (6 : Int32) * (6 : Int32))), (0, .ref (b 0)), (1, .int x1), (2, .long x2), (4, .ref (aq 0)), (5, .int x5), (6, .int x6), (7, .int x7), (8, .int x8)] dX3_isReached_64 (by decide) rfl ?_
      refine x_aload_n dX3_isReached_66 1 rfl rfl ?_
      refine x_iload dX3_isReached_67 0 rfl ?_
      refine x_cV (As := [.int (x8 - x8 / (6 : Int32) * (6 : Int32))]) (wc := (WRig G b rg_ropes rg_acts rg_start rg_reached rg_kinds rg_strengths rg_moved rg_needs rg_forbids)) (w1 := (WRig G b rg_ropes rg_acts rg_start rg_reached rg_kinds rg_strengths rg_moved rg_needs rg_forbids)) (pre := ([] : va_W)) (post := (WArr G aq 4 q_c)) (rest := []) (st1 := [.int (M_X2_isRope rg_ropes (x8 - x8 / (6 : Int32) * (6 : Int32)))]) (ws1 := ((WRig G b rg_ropes rg_acts rg_start rg_reached rg_kinds rg_strengths rg_moved rg_needs rg_forbids) ++ (WArr G aq 4 q_c))) (ci := 2) 0 dX3_isReached_69 (c_X2_isRope (b := b) rfl) pk_X2_isRope ml_X3_19 (by simp only [List.append_assoc, List.append_nil, List.nil_append]) rfl rfl rfl rfl rfl rfl (x_fit_l (by decide)) rfl (by simp only [List.append_assoc, List.append_nil, List.nil_append]) ?_
      refine x_if_eq 149 dX3_isReached_72 (by decide) (fun c2 => ?_) (fun c2 => ?_)
      · have h := x_pos c2 h
        refine x_lv [1, 2, 3, 4, 5, 6, 7, 8] rfl ?_
        exact w_X3_isReached_b149 hkr (fun rg_reached' q_c' x1' x2' x5' x6' x7' x8' h => ih rg_reached' q_c' x1' x2' x5' x6' x7' x8' h) _ _ _ _ _ _ _ _ h
      · have h := x_neg c2 h
        refine x_lload_n dX3_isReached_75 3 rfl rfl ?_
        refine x_iload dX3_isReached_76 0 rfl ?_
        refine x_cS (As := [.long x2, .int (x8 - x8 / (6 : Int32) * (6 : Int32))]) (wc := ([] : va_W)) (w1 := ([] : va_W)) (pre := []) (post := ((WRig G b rg_ropes rg_acts rg_start rg_reached rg_kinds rg_strengths rg_moved rg_needs rg_forbids) ++ (WArr G aq 4 q_c))) (rest := []) (st1 := [.int (M_X5_isFast x2 (x8 - x8 / (6 : Int32) * (6 : Int32)))]) (ws1 := ((WRig G b rg_ropes rg_acts rg_start rg_reached rg_kinds rg_strengths rg_moved rg_needs rg_forbids) ++ (WArr G aq 4 q_c))) dX3_isReached_78 (c_X5_isFast rfl) pk_X5_isFast ml_X3_25 rfl rfl rfl rfl (x_fit_l (by decide)) rfl rfl ?_
        refine x_if_eq 149 dX3_isReached_81 (by decide) (fun c3 => ?_) (fun c3 => ?_)
        · have h := x_pos c3 h
          refine x_lv [1, 2, 3, 4, 5, 6, 7, 8] rfl ?_
          exact w_X3_isReached_b149 hkr (fun rg_reached' q_c' x1' x2' x5' x6' x7' x8' h => ih rg_reached' q_c' x1' x2' x5' x6' x7' x8' h) _ _ _ _ _ _ _ _ h
        · have h := x_neg c3 h
          refine x_iload dX3_isReached_84 8 rfl ?_
          refine x_bipush 6 dX3_isReached_86 (by decide) ?_
          refine x_icmp_ge 102 dX3_isReached_88 (by decide) (fun c4 => ?_) (fun c4 => ?_)
          · have h := x_pos c4 h
            refine x_lload_n dX3_isReached_102 3 rfl rfl ?_
            refine x_iload dX3_isReached_103 0 rfl ?_
            refine x_cS (As := [.long x2, .int (x8 - x8 / (6 : Int32) * (6 : Int32))]) (wc := ([] : va_W)) (w1 := ([] : va_W)) (pre := []) (post := ((WRig G b rg_ropes rg_acts rg_start rg_reached rg_kinds rg_strengths rg_moved rg_needs rg_forbids) ++ (WArr G aq 4 q_c))) (rest := []) (st1 := [.long (M_X5_afterLetGo x2 (x8 - x8 / (6 : Int32) * (6 : Int32)))]) (ws1 := ((WRig G b rg_ropes rg_acts rg_start rg_reached rg_kinds rg_strengths rg_moved rg_needs rg_forbids) ++ (WArr G aq 4 q_c))) dX3_isReached_105 (c_X5_afterLetGo rfl) pk_X5_afterLetGo ml_X3_35 rfl rfl rfl rfl (x_fit_l (by decide)) rfl rfl ?_
            refine x_lv [1, 2, 3, 4, 5, 6, 7, 8] rfl ?_
            exact w_X3_isReached_b108 hkr (fun rg_reached' q_c' x1' x2' x5' x6' x7' x8' h => ih rg_reached' q_c' x1' x2' x5' x6' x7' x8' h) _ _ _ _ _ _ _ _ _ h
          · have h := x_neg c4 h
            refine x_aload_n dX3_isReached_91 1 rfl rfl ?_
            refine x_lload_n dX3_isReached_92 3 rfl rfl ?_
            refine x_iload dX3_isReached_93 0 rfl ?_
            refine x_iconst 1 dX3_isReached_95 (by decide) ?_
            obtain ⟨r5, e6, h⟩ := x_bind h
            refine x_cV (As := [.long x2, .int (x8 - x8 / (6 : Int32) * (6 : Int32)), .int (1 : Int32)]) (wc := (WRig G b rg_ropes rg_acts rg_start rg_reached rg_kinds rg_strengths rg_moved rg_needs rg_forbids)) (w1 := (WRig G b rg_ropes rg_acts rg_start r5.2 rg_kinds rg_strengths rg_moved rg_needs rg_forbids)) (pre := ([] : va_W)) (post := (WArr G aq 4 q_c)) (rest := []) (st1 := [.long r5.1]) (ws1 := ((WRig G b rg_ropes rg_acts rg_start r5.2 rg_kinds rg_strengths rg_moved rg_needs rg_forbids) ++ (WArr G aq 4 q_c))) (ci := 2) 0 dX3_isReached_96 (c_X2_hauled (b := b) e6) pk_X2_hauled ml_X3_31 (by simp only [List.append_assoc, List.append_nil, List.nil_append]) rfl rfl rfl rfl rfl rfl (x_fit_l (by decide)) rfl (by simp only [List.append_assoc, List.append_nil, List.nil_append]) ?_
            refine x_goto 108 dX3_isReached_99 (by decide) ?_
            refine x_lv [1, 2, 3, 4, 5, 6, 7, 8] rfl ?_
            exact w_X3_isReached_b108 hkr (fun rg_reached' q_c' x1' x2' x5' x6' x7' x8' h => ih rg_reached' q_c' x1' x2' x5' x6' x7' x8' h) _ _ _ _ _ _ _ _ _ h
def M_X3_isReached (rg_ropes : Int32) (rg_acts : Int32) (rg_kinds : (Nat → Int32)) (rg_strengths : (Nat → Int32)) (rg_moved : (Nat → Int32)) (rg_needs : (Nat → Int32)) (rg_forbids : (Nat → Int32)) : Nat → Int32 → (Nat → Int32) → Int32 → Int64 → Int32 → Int32 → Option (Int32 × Int32 × (Nat → Int32))
  | 0, _, _, _, _, _, _ => none
  | rn + 1, rg_reached, q_c, x1, x2, x5, x6 =>
    if x6 < 0 then
    (some ((0 : Int32), rg_reached, q_c))
    else
    (if x5 < x6 then
    (some ((0 : Int32), rg_reached, q_c))
    else
    ((M_X3_isTooFar rg_ropes rg_acts rg_needs rg_forbids x1 x2 x6).bind fun r14 =>
    if r14 = 0 then
    (if x6 = 0 then
    (some ((1 : Int32), rg_reached, q_c))
    else
    (if (x5 - x6) < (4 : Int32) then
    (M_X3_isReached_b52 rg_ropes rg_acts rg_kinds rg_strengths rg_moved rg_needs rg_forbids (fun (rg_reached' : Int32) (q_c' : (Nat → Int32)) (x1' : Int32) (x2' : Int64) (x5' : Int32) (x6' : Int32) => M_X3_isReached rg_ropes rg_acts rg_kinds rg_strengths rg_moved rg_needs rg_forbids rn rg_reached' q_c' x1' x2' x5' x6') x_fuel rg_reached q_c x1 x2 x5 x6 (x5 - x6) (0 : Int32))
    else
    (some ((0 : Int32), rg_reached, q_c))))
    else
    (some ((0 : Int32), rg_reached, q_c))))
set_option maxHeartbeats 4000000 in
set_option maxRecDepth 100000 in
theorem c_X3_isReached_n {G : x_G} {l : Launch} {b : Nat → Nat} {aq : Nat → Nat} {rg_ropes : Int32} {rg_acts : Int32} {rg_kinds : (Nat → Int32)} {rg_strengths : (Nat → Int32)} {rg_moved : (Nat → Int32)} {rg_needs : (Nat → Int32)} {rg_forbids : (Nat → Int32)} {rg_start : Int64} : ∀ (rn : Nat) (rg_reached : Int32) (q_c : (Nat → Int32)) (x1 : Int32) (x2 : Int64) (x5 : Int32) (x6 : Int32) (res : Int32 × Int32 × (Nat → Int32)), M_X3_isReached rg_ropes rg_acts rg_kinds rg_strengths rg_moved rg_needs rg_forbids rn rg_reached q_c x1 x2 x5 x6 = some res → x_M G l yX3_isReached cX3_isReached 12 (some .boolean) ((5 + rn)) 0 0 [.ref (b 0), .int x1, .long x2, .ref (aq 0), .int x5, .int x6] ((WRig G b rg_ropes rg_acts rg_start rg_reached rg_kinds rg_strengths rg_moved rg_needs rg_forbids) ++ (WArr G aq 4 q_c)) (x_is (some (.int res.1)) ((WRig G b rg_ropes rg_acts rg_start res.2.1 rg_kinds rg_strengths rg_moved rg_needs rg_forbids) ++ (WArr G aq 4 res.2.2))) := by
  intro rn
  induction rn with
  | zero =>
    intro _ _ _ _ _ _ _ h
    cases h
  | succ rn ih =>
    intro rg_reached q_c x1 x2 x5 x6 res h
    rw [M_X3_isReached] at h
    refine x_enter (ini := false) (by decide) rfl (by decide) rfl (Nat.le_of_ble_eq_true rfl) ?_
    refine x_iload dX3_isReached_0 5 rfl ?_
    refine x_if_lt 23 dX3_isReached_2 (by decide) (fun c12 => ?_) (fun c12 => ?_)
    · have h := x_pos c12 h
      refine x_iconst 0 dX3_isReached_23 (by decide) ?_
      cases h
      exact x_ireturn dX3_isReached_24 rfl (x_is.rf _ _)
    · have h := x_neg c12 h
      refine x_iload dX3_isReached_5 5 rfl ?_
      refine x_iload dX3_isReached_7 4 rfl ?_
      refine x_icmp_gt 23 dX3_isReached_9 (by decide) (fun c13 => ?_) (fun c13 => ?_)
      · have h := x_pos c13 h
        refine x_iconst 0 dX3_isReached_23 (by decide) ?_
        cases h
        exact x_ireturn dX3_isReached_24 rfl (x_is.rf _ _)
      · have h := x_neg c13 h
        refine x_aload_n dX3_isReached_12 0 rfl rfl ?_
        refine x_iload_n dX3_isReached_13 1 rfl rfl ?_
        refine x_lload_n dX3_isReached_14 2 rfl rfl ?_
        refine x_iload dX3_isReached_15 5 rfl ?_
        obtain ⟨r14, e15, h⟩ := x_bind h
        refine x_cS (As := [.ref (b 0), .int x1, .long x2, .int x6]) (wc := (WRig G b rg_ropes rg_acts rg_start rg_reached rg_kinds rg_strengths rg_moved rg_needs rg_forbids)) (w1 := (WRig G b rg_ropes rg_acts rg_start rg_reached rg_kinds rg_strengths rg_moved rg_needs rg_forbids)) (pre := ([] : va_W)) (post := (WArr G aq 4 q_c)) (rest := []) (st1 := [.int r14]) (ws1 := ((WRig G b rg_ropes rg_acts rg_start rg_reached rg_kinds rg_strengths rg_moved rg_needs rg_forbids) ++ (WArr G aq 4 q_c))) dX3_isReached_17 (c_X3_isTooFar (b := b) e15) pk_X3_isTooFar ml_X3_15 (by simp only [List.append_assoc, List.append_nil, List.nil_append]) rfl rfl rfl (x_fit_l (by decide)) rfl (by simp only [List.append_assoc, List.append_nil, List.nil_append]) ?_
        refine x_if_eq 25 dX3_isReached_20 (by decide) (fun c16 => ?_) (fun c16 => ?_)
        · have h := x_pos c16 h
          refine x_iload dX3_isReached_25 5 rfl ?_
          refine x_if_ne 32 dX3_isReached_27 (by decide) (fun c17 => ?_) (fun c17 => ?_)
          · have h := x_neg c17 h
            refine x_iload dX3_isReached_32 4 rfl ?_
            refine x_iload dX3_isReached_34 5 rfl ?_
            refine x_isub dX3_isReached_36 ?_
            refine x_istore [(7, .int (x5 - x6)), (0, .ref (b 0)), (1, .int x1), (2, .long x2), (4, .ref (aq 0)), (5, .int x5), (6, .int x6)] dX3_isReached_37 (by decide) rfl ?_
            refine x_iload dX3_isReached_39 0 rfl ?_
            refine x_aload dX3_isReached_41 4 rfl ?_
            refine x_alen 0 6 (4 : Int32) dX3_isReached_43 rfl rfl rfl ?_
            refine x_icmp_lt 49 dX3_isReached_44 (by decide) (fun c18 => ?_) (fun c18 => ?_)
            · have h := x_pos c18 h
              refine x_iconst 0 dX3_isReached_49 (by decide) ?_
              refine x_istore [(8, .int (0 : Int32)), (7, .int (x5 - x6)), (0, .ref (b 0)), (1, .int x1), (2, .long x2), (4, .ref (aq 0)), (5, .int x5), (6, .int x6)] dX3_isReached_50 (by decide) rfl ?_
              refine x_lv [2, 3, 4, 5, 6, 7, 1, 0] rfl ?_
              exact w_X3_isReached_b52 (fun rg_reached' q_c' x1' x2' x5' x6' res' h => ih _ _ _ _ _ _ _ h) _ _ _ _ _ _ _ _ _ h
            · have h := x_neg c18 h
              refine x_iconst 0 dX3_isReached_47 (by decide) ?_
              cases h
              exact x_ireturn dX3_isReached_48 rfl (x_is.rf _ _)
          · have h := x_pos c17 h
            refine x_iconst 1 dX3_isReached_30 (by decide) ?_
            cases h
            exact x_ireturn dX3_isReached_31 rfl (x_is.rf _ _)
        · have h := x_neg c16 h
          refine x_iconst 0 dX3_isReached_23 (by decide) ?_
          cases h
          exact x_ireturn dX3_isReached_24 rfl (x_is.rf _ _)
theorem c_X3_isReached {G : x_G} {l : Launch} {b : Nat → Nat} {aq : Nat → Nat} {rg_ropes : Int32} {rg_acts : Int32} {rg_kinds : (Nat → Int32)} {rg_strengths : (Nat → Int32)} {rg_moved : (Nat → Int32)} {rg_needs : (Nat → Int32)} {rg_forbids : (Nat → Int32)} {rg_start : Int64} {rg_reached : Int32} {q_c : (Nat → Int32)} {x1 : Int32} {x2 : Int64} {x5 : Int32} {x6 : Int32} {res : Int32 × Int32 × (Nat → Int32)} (h : M_X3_isReached rg_ropes rg_acts rg_kinds rg_strengths rg_moved rg_needs rg_forbids 10 rg_reached q_c x1 x2 x5 x6 = some res) : x_M G l yX3_isReached cX3_isReached 12 (some .boolean) ((5 + 10)) 0 0 [.ref (b 0), .int x1, .long x2, .ref (aq 0), .int x5, .int x6] ((WRig G b rg_ropes rg_acts rg_start rg_reached rg_kinds rg_strengths rg_moved rg_needs rg_forbids) ++ (WArr G aq 4 q_c)) (x_is (some (.int res.1)) ((WRig G b rg_ropes rg_acts rg_start res.2.1 rg_kinds rg_strengths rg_moved rg_needs rg_forbids) ++ (WArr G aq 4 res.2.2))) := c_X3_isReached_n 10 _ _ _ _ _ _ _ h
theorem pk_X3_fewest : x_ps yX3_fewest cX3_fewest 6 (some .int) 4 := ⟨⟨co_X3_fewest, ni_X3, by decide, by decide +kernel⟩, sm_X3_fewest⟩
def M_X3_fewest_b3 (rg_ropes : Int32) (rg_acts : Int32) (rg_kinds : (Nat → Int32)) (rg_strengths : (Nat → Int32)) (rg_moved : (Nat → Int32)) (rg_needs : (Nat → Int32)) (rg_forbids : (Nat → Int32)) : Nat → Int32 → (Nat → Int32) → Int32 → Int64 → Int32 → Option (Int32 × Int32 × (Nat → Int32))
  | 0, _, _, _, _, _ => none
  | n + 1, rg_reached, q_c, x1, x2, x5 =>
    if (4 : Int32) < x5 then
    (some ((-9 : Int32), rg_reached, q_c))
    else
    ((M_X3_isReached rg_ropes rg_acts rg_kinds rg_strengths rg_moved rg_needs rg_forbids 10 rg_reached q_c x1 x2 x5 x5).bind fun r2 =>
    if r2.1 = 0 then
    (M_X3_fewest_b3 rg_ropes rg_acts rg_kinds rg_strengths rg_moved rg_needs rg_forbids n r2.2.1 r2.2.2 x1 x2 (x5 + (1 : Int32)))
    else
    (some (x5, r2.2.1, r2.2.2)))
set_option maxHeartbeats 4000000 in
set_option maxRecDepth 100000 in
theorem w_X3_fewest_b3 {G : x_G} {l : Launch} {b : Nat → Nat} {aq : Nat → Nat} {rg_ropes : Int32} {rg_acts : Int32} {rg_kinds : (Nat → Int32)} {rg_strengths : (Nat → Int32)} {rg_moved : (Nat → Int32)} {rg_needs : (Nat → Int32)} {rg_forbids : (Nat → Int32)} {rg_start : Int64} {res : Int32 × Int32 × (Nat → Int32)} : ∀ (n : Nat) (rg_reached : Int32) (q_c : (Nat → Int32)) (x1 : Int32) (x2 : Int64) (x5 : Int32), M_X3_fewest_b3 rg_ropes rg_acts rg_kinds rg_strengths rg_moved rg_needs rg_forbids n rg_reached q_c x1 x2 x5 = some res → X G l RX3 cX3_fewest 6 (x_R 16 0 0) (x_Cm G (some .int) false (x_is (some (.int res.1)) ((WRig G b rg_ropes rg_acts rg_start res.2.1 rg_kinds rg_strengths rg_moved rg_needs rg_forbids) ++ (WArr G aq 4 res.2.2))) 0 0) 0 0 3 [(0, .ref (b 0)), (1, .int x1), (2, .long x2), (4, .ref (aq 0)), (5, .int x5)] [] ((WRig G b rg_ropes rg_acts rg_start rg_reached rg_kinds rg_strengths rg_moved rg_needs rg_forbids) ++ (WArr G aq 4 q_c)) := by
  intro n
  induction n with
  | zero =>
    intro _ _ _ _ _ h
    cases h
  | succ n ih =>
    intro rg_reached q_c x1 x2 x5 h
    rw [M_X3_fewest_b3] at h
    refine x_iload dX3_fewest_3 4 rfl ?_
    refine x_iconst 4 dX3_fewest_5 (by decide) ?_
    refine x_icmp_gt 33 dX3_fewest_6 (by decide) (fun c1 => ?_) (fun c1 => ?_)
    · have h := x_pos c1 h
      refine x_bipush (-9 : Int32) dX3_fewest_33 (by decide) ?_
      cases h
      exact x_ireturn dX3_fewest_35 rfl (x_is.rf _ _)
    · have h := x_neg c1 h
      refine x_aload_n dX3_fewest_9 0 rfl rfl ?_
      refine x_iload_n dX3_fewest_10 1 rfl rfl ?_
      refine x_lload_n dX3_fewest_11 2 rfl rfl ?_
      refine x_aload dX3_fewest_12 3 rfl ?_
      refine x_iload dX3_fewest_14 4 rfl ?_
      refine x_iload dX3_fewest_16 4 rfl ?_
      obtain ⟨r2, e3, h⟩ := x_bind h
      refine x_cS (As := [.ref (b 0), .int x1, .long x2, .ref (aq 0), .int x5, .int x5]) (wc := ((WRig G b rg_ropes rg_acts rg_start rg_reached rg_kinds rg_strengths rg_moved rg_needs rg_forbids) ++ (WArr G aq 4 q_c))) (w1 := ((WRig G b rg_ropes rg_acts rg_start r2.2.1 rg_kinds rg_strengths rg_moved rg_needs rg_forbids) ++ (WArr G aq 4 r2.2.2))) (pre := []) (post := []) (rest := []) (st1 := [.int r2.1]) (ws1 := ((WRig G b rg_ropes rg_acts rg_start r2.2.1 rg_kinds rg_strengths rg_moved rg_needs rg_forbids) ++ (WArr G aq 4 r2.2.2))) dX3_fewest_18 (c_X3_isReached (b := b) (aq := aq) e3) pk_X3_isReached ml_X3_9 (x_full _) rfl rfl rfl rfl rfl (x_full _).symm ?_
      refine x_if_eq 27 dX3_fewest_21 (by decide) (fun c4 => ?_) (fun c4 => ?_)
      · have h := x_pos c4 h
        refine x_iinc (j := 4) (1 : Int32) [(5, .int (x5 + (1 : Int32))), (0, .ref (b 0)), (1, .int x1), (2, .long x2), (4, .ref (aq 0))] dX3_fewest_27 (by decide) rfl (by decide) rfl ?_
        refine x_goto 3 dX3_fewest_30 (by decide) ?_
        refine x_lv [1, 2, 3, 4, 0] rfl ?_
        exact ih _ _ _ _ _ h
      · have h := x_neg c4 h
        refine x_iload dX3_fewest_24 4 rfl ?_
        cases h
        exact x_ireturn dX3_fewest_26 rfl (x_is.rf _ _)
def M_X3_fewest (rg_ropes : Int32) (rg_acts : Int32) (rg_kinds : (Nat → Int32)) (rg_strengths : (Nat → Int32)) (rg_moved : (Nat → Int32)) (rg_needs : (Nat → Int32)) (rg_forbids : (Nat → Int32)) (rg_reached : Int32) (q_c : (Nat → Int32)) (x1 : Int32) (x2 : Int64) : Option (Int32 × Int32 × (Nat → Int32)) :=
  M_X3_fewest_b3 rg_ropes rg_acts rg_kinds rg_strengths rg_moved rg_needs rg_forbids x_fuel rg_reached q_c x1 x2 (0 : Int32)
set_option maxHeartbeats 4000000 in
set_option maxRecDepth 100000 in
theorem c_X3_fewest {G : x_G} {l : Launch} {b : Nat → Nat} {aq : Nat → Nat} {rg_ropes : Int32} {rg_acts : Int32} {rg_kinds : (Nat → Int32)} {rg_strengths : (Nat → Int32)} {rg_moved : (Nat → Int32)} {rg_needs : (Nat → Int32)} {rg_forbids : (Nat → Int32)} {rg_start : Int64} {rg_reached : Int32} {q_c : (Nat → Int32)} {x1 : Int32} {x2 : Int64} {res : Int32 × Int32 × (Nat → Int32)} (h : M_X3_fewest rg_ropes rg_acts rg_kinds rg_strengths rg_moved rg_needs rg_forbids rg_reached q_c x1 x2 = some res) : x_M G l yX3_fewest cX3_fewest 6 (some .int) (16) 0 0 [.ref (b 0), .int x1, .long x2, .ref (aq 0)] ((WRig G b rg_ropes rg_acts rg_start rg_reached rg_kinds rg_strengths rg_moved rg_needs rg_forbids) ++ (WArr G aq 4 q_c)) (x_is (some (.int res.1)) ((WRig G b rg_ropes rg_acts rg_start res.2.1 rg_kinds rg_strengths rg_moved rg_needs rg_forbids) ++ (WArr G aq 4 res.2.2))) := by
  unfold M_X3_fewest at h
  refine x_enter (ini := false) (by decide) rfl (by decide) rfl (Nat.le_of_ble_eq_true rfl) ?_
  refine x_iconst 0 dX3_fewest_0 (by decide) ?_
  refine x_istore [(5, .int (0 : Int32)), (0, .ref (b 0)), (1, .int x1), (2, .long x2), (4, .ref (aq 0))] dX3_fewest_1 (by decide) rfl ?_
  refine x_lv [1, 2, 3, 4, 0] rfl ?_
  exact w_X3_fewest_b3  _ _ _ _ _ _ h
theorem pk_X3_played : x_ps yX3_played cX3_played 8 (some .int) 3 := ⟨⟨co_X3_played, ni_X3, by decide, by decide +kernel⟩, sm_X3_played⟩
def M_X3_played_b122 (ropes : Int32) (kinds : (Nat → Int32)) (strengths : (Nat → Int32)) (moved : (Nat → Int32)) (kr : Int32 → Int64 → Int32 → Option (Int32 × Int32)) (k63 : Int32 → Int64 → Int32 → Int32 → Int32 → Int32 → Option (Int32 × Int32)) (reached : Int32) (x1 : Int64) (x3 : Int32) (x4 : Int32) (x5 : Int32) (x6 : Int32) : Option (Int32 × Int32) :=
  k63 reached x1 x3 x4 x5 (x6 + (2 : Int32))
set_option maxHeartbeats 4000000 in
set_option maxRecDepth 100000 in
theorem w_X3_played_b122 {G : x_G} {l : Launch} {b : Nat → Nat} {ropes : Int32} {kinds : (Nat → Int32)} {strengths : (Nat → Int32)} {moved : (Nat → Int32)} {acts : Int32} {start : Int64} {needs : (Nat → Int32)} {forbids : (Nat → Int32)} {kr : Int32 → Int64 → Int32 → Option (Int32 × Int32)} {k63 : Int32 → Int64 → Int32 → Int32 → Int32 → Int32 → Option (Int32 × Int32)} {rn : Nat} {res : Int32 × Int32} (hkr : ∀ (reached : Int32) (x1 : Int64) (x3 : Int32) (res' : Int32 × Int32), kr reached x1 x3 = some res' → x_M G l yX3_played cX3_played 8 (some .int) (5 + rn) 0 0 [.ref (b 0), .long x1, .int x3] (WRig G b ropes acts start reached kinds strengths moved needs forbids) (x_is (some (.int res'.1)) (WRig G b ropes acts start (res'.2) kinds strengths moved needs forbids))) (hk63 : ∀ (reached : Int32) (x1 : Int64) (x3 : Int32) (x4 : Int32) (x5 : Int32) (x6 : Int32), k63 reached x1 x3 x4 x5 x6 = some res → X G l RX3 cX3_played 8 (x_R (5 + (rn + 1)) 0 0) (x_Cm G (some .int) false (x_is (some (.int res.1)) (WRig G b ropes acts start res.2 kinds strengths moved needs forbids)) 0 0) 0 0 63 [(0, .ref (b 0)), (1, .long x1), (3, .int x3), (4, .int x4), (5, .int x5), (6, .int x6)] [] (WRig G b ropes acts start reached kinds strengths moved needs forbids)) (reached : Int32) (x1 : Int64) (x3 : Int32) (x4 : Int32) (x5 : Int32) (x6 : Int32) (h : M_X3_played_b122 ropes kinds strengths moved kr k63 reached x1 x3 x4 x5 x6 = some res) : X G l RX3 cX3_played 8 (x_R (5 + (rn + 1)) 0 0) (x_Cm G (some .int) false (x_is (some (.int res.1)) (WRig G b ropes acts start res.2 kinds strengths moved needs forbids)) 0 0) 0 0 122 [(0, .ref (b 0)), (1, .long x1), (3, .int x3), (4, .int x4), (5, .int x5), (6, .int x6)] [] (WRig G b ropes acts start reached kinds strengths moved needs forbids) := by
  unfold M_X3_played_b122 at h
  refine x_iinc (j := 5) (2 : Int32) [(6, .int (x6 + (2 : Int32))), (0, .ref (b 0)), (1, .long x1), (3, .int x3), (4, .int x4), (5, .int x5)] dX3_played_122 (by decide) rfl (by decide) rfl ?_
  refine x_goto 63 dX3_played_125 (by decide) ?_
  refine x_lv [1, 2, 3, 4, 5, 0] rfl ?_
  exact hk63 _ _ _ _ _ _ h
def M_X3_played_b120 (ropes : Int32) (kinds : (Nat → Int32)) (strengths : (Nat → Int32)) (moved : (Nat → Int32)) (kr : Int32 → Int64 → Int32 → Option (Int32 × Int32)) (k63 : Int32 → Int64 → Int32 → Int32 → Int32 → Int32 → Option (Int32 × Int32)) (reached : Int32) (x1 : Int64) (x3 : Int32) (x4 : Int32) (x6 : Int32) (s0 : Int32) : Option (Int32 × Int32) :=
  M_X3_played_b122 ropes kinds strengths moved kr k63 reached x1 x3 x4 s0 x6
set_option maxHeartbeats 4000000 in
set_option maxRecDepth 100000 in
theorem w_X3_played_b120 {G : x_G} {l : Launch} {b : Nat → Nat} {ropes : Int32} {kinds : (Nat → Int32)} {strengths : (Nat → Int32)} {moved : (Nat → Int32)} {acts : Int32} {start : Int64} {needs : (Nat → Int32)} {forbids : (Nat → Int32)} {kr : Int32 → Int64 → Int32 → Option (Int32 × Int32)} {k63 : Int32 → Int64 → Int32 → Int32 → Int32 → Int32 → Option (Int32 × Int32)} {rn : Nat} {res : Int32 × Int32} (hkr : ∀ (reached : Int32) (x1 : Int64) (x3 : Int32) (res' : Int32 × Int32), kr reached x1 x3 = some res' → x_M G l yX3_played cX3_played 8 (some .int) (5 + rn) 0 0 [.ref (b 0), .long x1, .int x3] (WRig G b ropes acts start reached kinds strengths moved needs forbids) (x_is (some (.int res'.1)) (WRig G b ropes acts start (res'.2) kinds strengths moved needs forbids))) (hk63 : ∀ (reached : Int32) (x1 : Int64) (x3 : Int32) (x4 : Int32) (x5 : Int32) (x6 : Int32), k63 reached x1 x3 x4 x5 x6 = some res → X G l RX3 cX3_played 8 (x_R (5 + (rn + 1)) 0 0) (x_Cm G (some .int) false (x_is (some (.int res.1)) (WRig G b ropes acts start res.2 kinds strengths moved needs forbids)) 0 0) 0 0 63 [(0, .ref (b 0)), (1, .long x1), (3, .int x3), (4, .int x4), (5, .int x5), (6, .int x6)] [] (WRig G b ropes acts start reached kinds strengths moved needs forbids)) (reached : Int32) (x1 : Int64) (x3 : Int32) (x4 : Int32) (x6 : Int32) (s0 : Int32) (h : M_X3_played_b120 ropes kinds strengths moved kr k63 reached x1 x3 x4 x6 s0 = some res) : X G l RX3 cX3_played 8 (x_R (5 + (rn + 1)) 0 0) (x_Cm G (some .int) false (x_is (some (.int res.1)) (WRig G b ropes acts start res.2 kinds strengths moved needs forbids)) 0 0) 0 0 120 [(0, .ref (b 0)), (1, .long x1), (3, .int x3), (4, .int x4), (6, .int x6)] [.int s0] (WRig G b ropes acts start reached kinds strengths moved needs forbids) := by
  unfold M_X3_played_b120 at h
  refine x_istore [(5, .int s0), (0, .ref (b 0)), (1, .long x1), (3, .int x3), (4, .int x4), (6, .int x6)] dX3_played_120 (by decide) rfl ?_
  refine x_lv [1, 2, 3, 4, 0, 5] rfl ?_
  exact w_X3_played_b122 hkr hk63 _ _ _ _ _ _ h
def M_X3_played_b63 (ropes : Int32) (kinds : (Nat → Int32)) (strengths : (Nat → Int32)) (moved : (Nat → Int32)) (kr : Int32 → Int64 → Int32 → Option (Int32 × Int32)) : Nat → Int32 → Int64 → Int32 → Int32 → Int32 → Int32 → Option (Int32 × Int32)
  | 0, _, _, _, _, _, _ => none
  | n + 1, reached, x1, x3, x4, x5, x6 =>
    if ropes ≤ x6 then
    (some (x5, reached))
    else
    (if (M_X5_isFast x1 x6) = 0 then
    (M_X3_played_b122 ropes kinds strengths moved kr (fun (reached' : Int32) (x1' : Int64) (x3' : Int32) (x4' : Int32) (x5' : Int32) (x6' : Int32) => M_X3_played_b63 ropes kinds strengths moved kr n reached' x1' x3' x4' x5' x6') reached x1 x3 x4 x5 x6)
    else
    ((M_X2_hauled ropes kinds strengths moved reached x1 x6 (1 : Int32)).bind fun r6 =>
    (kr r6.2 r6.1 (x3 - (1 : Int32))).bind fun r8 =>
    if x4 = 0 then
    (M_X3_played_b120 ropes kinds strengths moved kr (fun (reached' : Int32) (x1' : Int64) (x3' : Int32) (x4' : Int32) (x5' : Int32) (x6' : Int32) => M_X3_played_b63 ropes kinds strengths moved kr n reached' x1' x3' x4' x5' x6') r8.2 x1 x3 x4 x6 (M_J9_min_7cf53 x5 r8.1))
    else
    (M_X3_played_b120 ropes kinds strengths moved kr (fun (reached' : Int32) (x1' : Int64) (x3' : Int32) (x4' : Int32) (x5' : Int32) (x6' : Int32) => M_X3_played_b63 ropes kinds strengths moved kr n reached' x1' x3' x4' x5' x6') r8.2 x1 x3 x4 x6 (M_J9_max_7cf53 x5 r8.1))))
set_option maxHeartbeats 4000000 in
set_option maxRecDepth 100000 in
theorem w_X3_played_b63 {G : x_G} {l : Launch} {b : Nat → Nat} {ropes : Int32} {kinds : (Nat → Int32)} {strengths : (Nat → Int32)} {moved : (Nat → Int32)} {acts : Int32} {start : Int64} {needs : (Nat → Int32)} {forbids : (Nat → Int32)} {kr : Int32 → Int64 → Int32 → Option (Int32 × Int32)} {rn : Nat} {res : Int32 × Int32} (hkr : ∀ (reached : Int32) (x1 : Int64) (x3 : Int32) (res' : Int32 × Int32), kr reached x1 x3 = some res' → x_M G l yX3_played cX3_played 8 (some .int) (5 + rn) 0 0 [.ref (b 0), .long x1, .int x3] (WRig G b ropes acts start reached kinds strengths moved needs forbids) (x_is (some (.int res'.1)) (WRig G b ropes acts start (res'.2) kinds strengths moved needs forbids))) : ∀ (n : Nat) (reached : Int32) (x1 : Int64) (x3 : Int32) (x4 : Int32) (x5 : Int32) (x6 : Int32), M_X3_played_b63 ropes kinds strengths moved kr n reached x1 x3 x4 x5 x6 = some res → X G l RX3 cX3_played 8 (x_R (5 + (rn + 1)) 0 0) (x_Cm G (some .int) false (x_is (some (.int res.1)) (WRig G b ropes acts start res.2 kinds strengths moved needs forbids)) 0 0) 0 0 63 [(0, .ref (b 0)), (1, .long x1), (3, .int x3), (4, .int x4), (5, .int x5), (6, .int x6)] [] (WRig G b ropes acts start reached kinds strengths moved needs forbids) := by
  intro n
  induction n with
  | zero =>
    intro _ _ _ _ _ _ h
    cases h
  | succ n ih =>
    intro reached x1 x3 x4 x5 x6 h
    rw [M_X3_played_b63] at h
    refine x_iload dX3_played_63 5 rfl ?_
    refine x_aload_n dX3_played_65 0 rfl rfl ?_
    refine x_get (ci := 2) 0 0 dX3_played_66 fl_X3_71 inX2 rfl (by decide) ⟨rfl, rfl, rfl⟩ rfl rfl ?_
    refine x_icmp_ge 128 dX3_played_69 (by decide) (fun c4 => ?_) (fun c4 => ?_)
    · have h := x_pos c4 h
      refine x_iload dX3_played_128 4 rfl ?_
      cases h
      exact x_ireturn dX3_played_130 rfl (x_is.rf _ _)
    · have h := x_neg c4 h
      refine x_lload_n dX3_played_72 1 rfl rfl ?_
      refine x_iload dX3_played_73 5 rfl ?_
      refine x_cS (As := [.long x1, .int x6]) (wc := ([] : va_W)) (w1 := ([] : va_W)) (pre := []) (post := (WRig G b ropes acts start reached kinds strengths moved needs forbids)) (rest := []) (st1 := [.int (M_X5_isFast x1 x6)]) (ws1 := (WRig G b ropes acts start reached kinds strengths moved needs forbids)) dX3_played_75 (c_X5_isFast rfl) pk_X5_isFast ml_X3_25 rfl rfl rfl rfl (x_fit_l (by decide)) rfl rfl ?_
      refine x_if_eq 122 dX3_played_78 (by decide) (fun c5 => ?_) (fun c5 => ?_)
      · have h := x_pos c5 h
        exact w_X3_played_b122 hkr (fun reached' x1' x3' x4' x5' x6' h => ih reached' x1' x3' x4' x5' x6' h) _ _ _ _ _ _ h
      · have h := x_neg c5 h
        refine x_aload_n dX3_played_81 0 rfl rfl ?_
        refine x_aload_n dX3_played_82 0 rfl rfl ?_
        refine x_lload_n dX3_played_83 1 rfl rfl ?_
        refine x_iload dX3_played_84 5 rfl ?_
        refine x_iconst 1 dX3_played_86 (by decide) ?_
        obtain ⟨r6, e7, h⟩ := x_bind h
        refine x_cV (As := [.long x1, .int x6, .int (1 : Int32)]) (wc := (WRig G b ropes acts start reached kinds strengths moved needs forbids)) (w1 := (WRig G b ropes acts start r6.2 kinds strengths moved needs forbids)) (pre := []) (post := []) (rest := [.ref (b 0)]) (st1 := [.long r6.1, .ref (b 0)]) (ws1 := (WRig G b ropes acts start r6.2 kinds strengths moved needs forbids)) (ci := 2) 0 dX3_played_87 (c_X2_hauled (b := b) e7) pk_X2_hauled ml_X3_31 (x_full _) rfl rfl rfl rfl rfl rfl (x_fit_l (by decide)) rfl (x_full _).symm ?_
        refine x_iload_n dX3_played_90 2 rfl rfl ?_
        refine x_iconst 1 dX3_played_91 (by decide) ?_
        refine x_isub dX3_played_92 ?_
        obtain ⟨r8, e9, h⟩ := x_bind h
        refine x_cS (As := [.ref (b 0), .long r6.1, .int (x3 - (1 : Int32))]) (wc := (WRig G b ropes acts start r6.2 kinds strengths moved needs forbids)) (w1 := (WRig G b ropes acts start r8.2 kinds strengths moved needs forbids)) (pre := []) (post := []) (rest := []) (st1 := [.int r8.1]) (ws1 := (WRig G b ropes acts start r8.2 kinds strengths moved needs forbids)) dX3_played_93 (hkr _ _ _ _ e9) pk_X3_played ml_X3_67 (x_full _) rfl rfl rfl (x_fit_n _ _) rfl (x_full _).symm ?_
        refine x_istore [(7, .int r8.1), (0, .ref (b 0)), (1, .long x1), (3, .int x3), (4, .int x4), (5, .int x5), (6, .int x6)] dX3_played_96 (by decide) rfl ?_
        refine x_iload dX3_played_98 4 rfl ?_
        refine x_if_eq 113 dX3_played_100 (by decide) (fun c10 => ?_) (fun c10 => ?_)
        · have h := x_pos c10 h
          refine x_iload dX3_played_113 5 rfl ?_
          refine x_iload dX3_played_115 0 rfl ?_
          refine x_cS (As := [.int x5, .int r8.1]) (wc := ([] : va_W)) (w1 := ([] : va_W)) (pre := []) (post := (WRig G b ropes acts start r8.2 kinds strengths moved needs forbids)) (rest := []) (st1 := [.int (M_J9_min_7cf53 x5 r8.1)]) (ws1 := (WRig G b ropes acts start r8.2 kinds strengths moved needs forbids)) dX3_played_117 (c_J9_min_7cf53 rfl) pk_J9_min_7cf53 ml_X3_61 rfl rfl rfl rfl (x_fit_l (by decide)) rfl rfl ?_
          refine x_lv [1, 2, 3, 4, 6] rfl ?_
          exact w_X3_played_b120 hkr (fun reached' x1' x3' x4' x5' x6' h => ih reached' x1' x3' x4' x5' x6' h) _ _ _ _ _ _ h
        · have h := x_neg c10 h
          refine x_iload dX3_played_103 5 rfl ?_
          refine x_iload dX3_played_105 0 rfl ?_
          refine x_cS (As := [.int x5, .int r8.1]) (wc := ([] : va_W)) (w1 := ([] : va_W)) (pre := []) (post := (WRig G b ropes acts start r8.2 kinds strengths moved needs forbids)) (rest := []) (st1 := [.int (M_J9_max_7cf53 x5 r8.1)]) (ws1 := (WRig G b ropes acts start r8.2 kinds strengths moved needs forbids)) dX3_played_107 (c_J9_max_7cf53 rfl) pk_J9_max_7cf53 ml_X3_75 rfl rfl rfl rfl (x_fit_l (by decide)) rfl rfl ?_
          refine x_goto 120 dX3_played_110 (by decide) ?_
          refine x_lv [1, 2, 3, 4, 6] rfl ?_
          exact w_X3_played_b120 hkr (fun reached' x1' x3' x4' x5' x6' h => ih reached' x1' x3' x4' x5' x6' h) _ _ _ _ _ _ h
def M_X3_played_b61 (ropes : Int32) (kinds : (Nat → Int32)) (strengths : (Nat → Int32)) (moved : (Nat → Int32)) (kr : Int32 → Int64 → Int32 → Option (Int32 × Int32)) (reached : Int32) (x1 : Int64) (x3 : Int32) (x4 : Int32) (x5 : Int32) (s0 : Int32) : Option (Int32 × Int32) :=
  M_X3_played_b63 ropes kinds strengths moved kr x_fuel reached x1 x3 x4 x5 s0
set_option maxHeartbeats 4000000 in
set_option maxRecDepth 100000 in
theorem w_X3_played_b61 {G : x_G} {l : Launch} {b : Nat → Nat} {ropes : Int32} {kinds : (Nat → Int32)} {strengths : (Nat → Int32)} {moved : (Nat → Int32)} {acts : Int32} {start : Int64} {needs : (Nat → Int32)} {forbids : (Nat → Int32)} {kr : Int32 → Int64 → Int32 → Option (Int32 × Int32)} {rn : Nat} {res : Int32 × Int32} (hkr : ∀ (reached : Int32) (x1 : Int64) (x3 : Int32) (res' : Int32 × Int32), kr reached x1 x3 = some res' → x_M G l yX3_played cX3_played 8 (some .int) (5 + rn) 0 0 [.ref (b 0), .long x1, .int x3] (WRig G b ropes acts start reached kinds strengths moved needs forbids) (x_is (some (.int res'.1)) (WRig G b ropes acts start (res'.2) kinds strengths moved needs forbids))) (reached : Int32) (x1 : Int64) (x3 : Int32) (x4 : Int32) (x5 : Int32) (s0 : Int32) (h : M_X3_played_b61 ropes kinds strengths moved kr reached x1 x3 x4 x5 s0 = some res) : X G l RX3 cX3_played 8 (x_R (5 + (rn + 1)) 0 0) (x_Cm G (some .int) false (x_is (some (.int res.1)) (WRig G b ropes acts start res.2 kinds strengths moved needs forbids)) 0 0) 0 0 61 [(0, .ref (b 0)), (1, .long x1), (3, .int x3), (4, .int x4), (5, .int x5)] [.int s0] (WRig G b ropes acts start reached kinds strengths moved needs forbids) := by
  unfold M_X3_played_b61 at h
  refine x_istore [(6, .int s0), (0, .ref (b 0)), (1, .long x1), (3, .int x3), (4, .int x4), (5, .int x5)] dX3_played_61 (by decide) rfl ?_
  refine x_lv [1, 2, 3, 4, 5, 0] rfl ?_
  exact w_X3_played_b63 hkr _ _ _ _ _ _ _ h
def M_X3_played_b39 (ropes : Int32) (kinds : (Nat → Int32)) (strengths : (Nat → Int32)) (moved : (Nat → Int32)) (kr : Int32 → Int64 → Int32 → Option (Int32 × Int32)) (reached : Int32) (x1 : Int64) (x3 : Int32) (s0 : Int32) : Option (Int32 × Int32) :=
  (kr reached x1 (x3 - (1 : Int32))).bind fun r1 =>
  if s0 = 0 then
  (M_X3_played_b61 ropes kinds strengths moved kr r1.2 x1 x3 s0 r1.1 (1 : Int32))
  else
  (M_X3_played_b61 ropes kinds strengths moved kr r1.2 x1 x3 s0 r1.1 (0 : Int32))
set_option maxHeartbeats 4000000 in
set_option maxRecDepth 100000 in
theorem w_X3_played_b39 {G : x_G} {l : Launch} {b : Nat → Nat} {ropes : Int32} {kinds : (Nat → Int32)} {strengths : (Nat → Int32)} {moved : (Nat → Int32)} {acts : Int32} {start : Int64} {needs : (Nat → Int32)} {forbids : (Nat → Int32)} {kr : Int32 → Int64 → Int32 → Option (Int32 × Int32)} {rn : Nat} {res : Int32 × Int32} (hkr : ∀ (reached : Int32) (x1 : Int64) (x3 : Int32) (res' : Int32 × Int32), kr reached x1 x3 = some res' → x_M G l yX3_played cX3_played 8 (some .int) (5 + rn) 0 0 [.ref (b 0), .long x1, .int x3] (WRig G b ropes acts start reached kinds strengths moved needs forbids) (x_is (some (.int res'.1)) (WRig G b ropes acts start (res'.2) kinds strengths moved needs forbids))) (reached : Int32) (x1 : Int64) (x3 : Int32) (s0 : Int32) (h : M_X3_played_b39 ropes kinds strengths moved kr reached x1 x3 s0 = some res) : X G l RX3 cX3_played 8 (x_R (5 + (rn + 1)) 0 0) (x_Cm G (some .int) false (x_is (some (.int res.1)) (WRig G b ropes acts start res.2 kinds strengths moved needs forbids)) 0 0) 0 0 39 [(0, .ref (b 0)), (1, .long x1), (3, .int x3)] [.int s0] (WRig G b ropes acts start reached kinds strengths moved needs forbids) := by
  unfold M_X3_played_b39 at h
  refine x_istore [(4, .int s0), (0, .ref (b 0)), (1, .long x1), (3, .int x3)] dX3_played_39 (by decide) rfl ?_
  refine x_aload_n dX3_played_41 1 rfl rfl ?_
  refine x_lload_n dX3_played_42 2 rfl rfl ?_
  refine x_iload_n dX3_played_43 3 rfl rfl ?_
  refine x_iconst 1 dX3_played_44 (by decide) ?_
  refine x_isub dX3_played_45 ?_
  obtain ⟨r1, e2, h⟩ := x_bind h
  refine x_cS (As := [.ref (b 0), .long x1, .int (x3 - (1 : Int32))]) (wc := (WRig G b ropes acts start reached kinds strengths moved needs forbids)) (w1 := (WRig G b ropes acts start r1.2 kinds strengths moved needs forbids)) (pre := []) (post := []) (rest := []) (st1 := [.int r1.1]) (ws1 := (WRig G b ropes acts start r1.2 kinds strengths moved needs forbids)) dX3_played_46 (hkr _ _ _ _ e2) pk_X3_played ml_X3_67 (x_full _) rfl rfl rfl (x_fit_n _ _) rfl (x_full _).symm ?_
  refine x_istore [(5, .int r1.1), (4, .int s0), (0, .ref (b 0)), (1, .long x1), (3, .int x3)] dX3_played_49 (by decide) rfl ?_
  refine x_iload dX3_played_51 1 rfl ?_
  refine x_if_eq 60 dX3_played_53 (by decide) (fun c3 => ?_) (fun c3 => ?_)
  · have h := x_pos c3 h
    refine x_iconst 1 dX3_played_60 (by decide) ?_
    refine x_lv [2, 3, 4, 1, 0] rfl ?_
    exact w_X3_played_b61 hkr _ _ _ _ _ _ h
  · have h := x_neg c3 h
    refine x_iconst 0 dX3_played_56 (by decide) ?_
    refine x_goto 61 dX3_played_57 (by decide) ?_
    refine x_lv [2, 3, 4, 1, 0] rfl ?_
    exact w_X3_played_b61 hkr _ _ _ _ _ _ h
def M_X3_played (ropes : Int32) (kinds : (Nat → Int32)) (strengths : (Nat → Int32)) (moved : (Nat → Int32)) : Nat → Int32 → Int64 → Int32 → Option (Int32 × Int32)
  | 0, _, _, _ => none
  | rn + 1, reached, x1, x3 =>
    if 0 < x3 then
    (if (x3 - x3 / (2 : Int32) * (2 : Int32)) = 0 then
    (M_X3_played_b39 ropes kinds strengths moved (fun (reached' : Int32) (x1' : Int64) (x3' : Int32) => M_X3_played ropes kinds strengths moved rn reached' x1' x3') reached x1 x3 (1 : Int32))
    else
    (M_X3_played_b39 ropes kinds strengths moved (fun (reached' : Int32) (x1' : Int64) (x3' : Int32) => M_X3_played ropes kinds strengths moved rn reached' x1' x3') reached x1 x3 (0 : Int32)))
    else
    (some (((M_J6_bitCount_0f7a4 ((M_X5_parted x1) &&& (42 : Int32))) - (M_J6_bitCount_0f7a4 ((M_X5_parted x1) &&& (21 : Int32)))), reached))
set_option maxHeartbeats 4000000 in
set_option maxRecDepth 100000 in
theorem c_X3_played_n {G : x_G} {l : Launch} {b : Nat → Nat} {ropes : Int32} {kinds : (Nat → Int32)} {strengths : (Nat → Int32)} {moved : (Nat → Int32)} {acts : Int32} {start : Int64} {needs : (Nat → Int32)} {forbids : (Nat → Int32)} : ∀ (rn : Nat) (reached : Int32) (x1 : Int64) (x3 : Int32) (res : Int32 × Int32), M_X3_played ropes kinds strengths moved rn reached x1 x3 = some res → x_M G l yX3_played cX3_played 8 (some .int) ((5 + rn)) 0 0 [.ref (b 0), .long x1, .int x3] (WRig G b ropes acts start reached kinds strengths moved needs forbids) (x_is (some (.int res.1)) (WRig G b ropes acts start res.2 kinds strengths moved needs forbids)) := by
  intro rn
  induction rn with
  | zero =>
    intro _ _ _ _ h
    cases h
  | succ rn ih =>
    intro reached x1 x3 res h
    rw [M_X3_played] at h
    refine x_enter (ini := false) (by decide) rfl (by decide) rfl (Nat.le_of_ble_eq_true rfl) ?_
    refine x_iload_n dX3_played_0 2 rfl rfl ?_
    refine x_if_gt 28 dX3_played_1 (by decide) (fun c11 => ?_) (fun c11 => ?_)
    · have h := x_pos c11 h
      refine x_iload_n dX3_played_28 2 rfl rfl ?_
      refine x_iconst 2 dX3_played_29 (by decide) ?_
      refine x_irem dX3_played_30 (by decide) ?_
      refine x_if_ne 38 dX3_played_31 (by decide) (fun c12 => ?_) (fun c12 => ?_)
      · have h := x_neg c12 h
        refine x_iconst 0 dX3_played_38 (by decide) ?_
        exact w_X3_played_b39 (fun reached' x1' x3' res' h => ih _ _ _ _ h) _ _ _ _ h
      · have h := x_pos c12 h
        refine x_iconst 1 dX3_played_34 (by decide) ?_
        refine x_goto 39 dX3_played_35 (by decide) ?_
        exact w_X3_played_b39 (fun reached' x1' x3' res' h => ih _ _ _ _ h) _ _ _ _ h
    · have h := x_neg c11 h
      refine x_lload_n dX3_played_4 1 rfl rfl ?_
      refine x_cS (As := [.long x1]) (wc := ([] : va_W)) (w1 := ([] : va_W)) (pre := []) (post := (WRig G b ropes acts start reached kinds strengths moved needs forbids)) (rest := []) (st1 := [.int (M_X5_parted x1)]) (ws1 := (WRig G b ropes acts start reached kinds strengths moved needs forbids)) dX3_played_5 (c_X5_parted rfl) pk_X5_parted ml_X3_39 rfl rfl rfl rfl (x_fit_l (by decide)) rfl rfl ?_
      refine x_istore [(4, .int (M_X5_parted x1)), (0, .ref (b 0)), (1, .long x1), (3, .int x3)] dX3_played_8 (by decide) rfl ?_
      refine x_iload dX3_played_10 0 rfl ?_
      refine x_bipush 42 dX3_played_12 (by decide) ?_
      refine x_iand dX3_played_14 ?_
      refine x_cS (As := [.int ((M_X5_parted x1) &&& (42 : Int32))]) (wc := ([] : va_W)) (w1 := ([] : va_W)) (pre := []) (post := (WRig G b ropes acts start reached kinds strengths moved needs forbids)) (rest := []) (st1 := [.int (M_J6_bitCount_0f7a4 ((M_X5_parted x1) &&& (42 : Int32)))]) (ws1 := (WRig G b ropes acts start reached kinds strengths moved needs forbids)) dX3_played_15 (c_J6_bitCount_0f7a4 rfl) pk_J6_bitCount_0f7a4 ml_X3_56 rfl rfl rfl rfl (x_fit_l (by decide)) rfl rfl ?_
      refine x_iload dX3_played_18 0 rfl ?_
      refine x_bipush 21 dX3_played_20 (by decide) ?_
      refine x_iand dX3_played_22 ?_
      refine x_cS (As := [.int ((M_X5_parted x1) &&& (21 : Int32))]) (wc := ([] : va_W)) (w1 := ([] : va_W)) (pre := []) (post := (WRig G b ropes acts start reached kinds strengths moved needs forbids)) (rest := [.int (M_J6_bitCount_0f7a4 ((M_X5_parted x1) &&& (42 : Int32)))]) (st1 := [.int (M_J6_bitCount_0f7a4 ((M_X5_parted x1) &&& (21 : Int32))), .int (M_J6_bitCount_0f7a4 ((M_X5_parted x1) &&& (42 : Int32)))]) (ws1 := (WRig G b ropes acts start reached kinds strengths moved needs forbids)) dX3_played_23 (c_J6_bitCount_0f7a4 rfl) pk_J6_bitCount_0f7a4 ml_X3_56 rfl rfl rfl rfl (x_fit_l (by decide)) rfl rfl ?_
      refine x_isub dX3_played_26 ?_
      cases h
      exact x_ireturn dX3_played_27 rfl (x_is.rf _ _)
theorem c_X3_played {G : x_G} {l : Launch} {b : Nat → Nat} {ropes : Int32} {kinds : (Nat → Int32)} {strengths : (Nat → Int32)} {moved : (Nat → Int32)} {acts : Int32} {start : Int64} {needs : (Nat → Int32)} {forbids : (Nat → Int32)} {reached : Int32} {x1 : Int64} {x3 : Int32} {res : Int32 × Int32} (h : M_X3_played ropes kinds strengths moved 10 reached x1 x3 = some res) : x_M G l yX3_played cX3_played 8 (some .int) ((5 + 10)) 0 0 [.ref (b 0), .long x1, .int x3] (WRig G b ropes acts start reached kinds strengths moved needs forbids) (x_is (some (.int res.1)) (WRig G b ropes acts start res.2 kinds strengths moved needs forbids)) := c_X3_played_n 10 _ _ _ _ h
theorem pk_X3_outcome : x_ps yX3_outcome cX3_outcome 4 (some .int) 3 := ⟨⟨co_X3_outcome, ni_X3, by decide, by decide +kernel⟩, sm_X3_outcome⟩
def M_X3_outcome (ropes : Int32) (kinds : (Nat → Int32)) (strengths : (Nat → Int32)) (moved : (Nat → Int32)) (reached : Int32) (x1 : Int64) (x3 : Int32) : Option (Int32 × Int32) :=
  (M_X3_played ropes kinds strengths moved 10 reached x1 (M_J9_min_7cf53 x3 (6 : Int32))).bind fun r1 =>
  some (r1.1, r1.2)
set_option maxHeartbeats 4000000 in
set_option maxRecDepth 100000 in
theorem c_X3_outcome {G : x_G} {l : Launch} {b : Nat → Nat} {ropes : Int32} {kinds : (Nat → Int32)} {strengths : (Nat → Int32)} {moved : (Nat → Int32)} {acts : Int32} {start : Int64} {needs : (Nat → Int32)} {forbids : (Nat → Int32)} {reached : Int32} {x1 : Int64} {x3 : Int32} {res : Int32 × Int32} (h : M_X3_outcome ropes kinds strengths moved reached x1 x3 = some res) : x_M G l yX3_outcome cX3_outcome 4 (some .int) (16) 0 0 [.ref (b 0), .long x1, .int x3] (WRig G b ropes acts start reached kinds strengths moved needs forbids) (x_is (some (.int res.1)) (WRig G b ropes acts start res.2 kinds strengths moved needs forbids)) := by
  unfold M_X3_outcome at h
  refine x_enter (ini := false) (by decide) rfl (by decide) rfl (Nat.le_of_ble_eq_true rfl) ?_
  refine x_aload_n dX3_outcome_0 0 rfl rfl ?_
  refine x_lload_n dX3_outcome_1 1 rfl rfl ?_
  refine x_iload_n dX3_outcome_2 2 rfl rfl ?_
  refine x_bipush 6 dX3_outcome_3 (by decide) ?_
  refine x_cS (As := [.int x3, .int (6 : Int32)]) (wc := ([] : va_W)) (w1 := ([] : va_W)) (pre := []) (post := (WRig G b ropes acts start reached kinds strengths moved needs forbids)) (rest := [.long x1, .ref (b 0)]) (st1 := [.int (M_J9_min_7cf53 x3 (6 : Int32)), .long x1, .ref (b 0)]) (ws1 := (WRig G b ropes acts start reached kinds strengths moved needs forbids)) dX3_outcome_5 (c_J9_min_7cf53 rfl) pk_J9_min_7cf53 ml_X3_61 rfl rfl rfl rfl rfl rfl rfl ?_
  obtain ⟨r1, e2, h⟩ := x_bind h
  refine x_cS (As := [.ref (b 0), .long x1, .int (M_J9_min_7cf53 x3 (6 : Int32))]) (wc := (WRig G b ropes acts start reached kinds strengths moved needs forbids)) (w1 := (WRig G b ropes acts start r1.2 kinds strengths moved needs forbids)) (pre := []) (post := []) (rest := []) (st1 := [.int r1.1]) (ws1 := (WRig G b ropes acts start r1.2 kinds strengths moved needs forbids)) dX3_outcome_8 (c_X3_played (b := b) e2) pk_X3_played ml_X3_67 (x_full _) rfl rfl rfl rfl rfl (x_full _).symm ?_
  cases h
  exact x_ireturn dX3_outcome_11 rfl (x_is.rf _ _)
