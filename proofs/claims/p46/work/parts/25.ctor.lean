theorem dv_X0 : ∀ j, j < 4 → defaultValue (tyX0 j) = vp_V [.null, .int 0, .null, .null] j := by decide +kernel
theorem dv_X1 : ∀ j, j < 5 → defaultValue (tyX1 j) = vp_V [.null, .int 0, .int 0, .int 0, .int 0] j := by decide +kernel
theorem dv_X2 : ∀ j, j < 9 → defaultValue (tyX2 j) = vp_V [.int 0, .int 0, .long 0, .int 0, .null, .null, .null, .null, .null] j := by decide +kernel
theorem dv_X4 : ∀ j, j < 4 → defaultValue (tyX4 j) = vp_V [.int 0, .int 0, .null, .null] j := by decide +kernel
theorem dv_X6 : ∀ j, j < 12 → defaultValue (tyX6 j) = vp_V [.null, .null, .null, .null, .null, .null, .null, .null, .int 0, .int 0, .long 0, .long 0] j := by decide +kernel
theorem pi_X2_init : x_pi yX2_init cX2_init 1 0 := ⟨⟨co_X2_init, ni_X2, by decide, by decide +kernel⟩, im_X2_init, rfl⟩
set_option maxHeartbeats 4000000 in
set_option maxRecDepth 100000 in
theorem k_X2_init {G : x_G} {l : Launch} {h0 : Nat} : x_M G l yX2_init cX2_init 1 none 1 5 26 [.ref h0] [(h0, .inr (2, [.int 0, .int 0, .long 0, .int 0, .null, .null, .null, .null, .null]))] (fun v w => v = none ∧ ∃ a : Nat → Nat, a 0 = h0 ∧ w = WRig G a 0 0 0 0 (fun _ => 0) (fun _ => 0) (fun _ => 0) (fun _ => 0) (fun _ => 0)) := by
  refine x_enter (ini := true) (by decide) rfl (by decide) rfl (Nat.le_of_ble_eq_true rfl) ?_
  show X G l RX2 cX2_init 1 (x_R 1 5 26) _ 0 0 0 [(0, .ref h0)] [] _
  refine x_aload_n dX2_init_0 0 rfl rfl ?_
  refine x_objInit dX2_init_1 ml_X2_3 ?_
  refine x_aload_n dX2_init_4 0 rfl rfl ?_
  refine x_iconst (0 : Int32) dX2_init_5 (by decide) ?_
  refine x_put (ci := 2) (ty := .int) 0 0 [(h0, .inr (2, [.int (0 : Int32), .int 0, .long 0, .int 0, .null, .null, .null, .null, .null]))] dX2_init_6 fl_X2_9 inX2 tyX2_ok nmX2 rfl (by decide) ⟨rfl, rfl, rfl, rfl, rfl⟩ rfl rfl rfl rfl rfl ?_
  refine x_aload_n dX2_init_9 0 rfl rfl ?_
  refine x_iconst (0 : Int32) dX2_init_10 (by decide) ?_
  refine x_put (ci := 2) (ty := .int) 1 0 [(h0, .inr (2, [.int (0 : Int32), .int (0 : Int32), .long 0, .int 0, .null, .null, .null, .null, .null]))] dX2_init_11 fl_X2_15 inX2 tyX2_ok nmX2 rfl (by decide) ⟨rfl, rfl, rfl, rfl, rfl⟩ rfl rfl rfl rfl rfl ?_
  refine x_aload_n dX2_init_14 0 rfl rfl ?_
  refine x_lconst 0 dX2_init_15 (by decide) ?_
  refine x_put (ci := 2) (ty := .long) 2 0 [(h0, .inr (2, [.int (0 : Int32), .int (0 : Int32), .long (0 : Int64), .int 0, .null, .null, .null, .null, .null]))] dX2_init_16 fl_X2_18 inX2 tyX2_ok nmX2 rfl (by decide) ⟨rfl, rfl, rfl, rfl, rfl⟩ rfl rfl rfl rfl rfl ?_
  refine x_aload_n dX2_init_19 0 rfl rfl ?_
  refine x_iconst (0 : Int32) dX2_init_20 (by decide) ?_
  refine x_put (ci := 2) (ty := .int) 3 0 [(h0, .inr (2, [.int (0 : Int32), .int (0 : Int32), .long (0 : Int64), .int (0 : Int32), .null, .null, .null, .null, .null]))] dX2_init_21 fl_X2_22 inX2 tyX2_ok nmX2 rfl (by decide) ⟨rfl, rfl, rfl, rfl, rfl⟩ rfl rfl rfl rfl rfl ?_
  refine x_aload_n dX2_init_24 0 rfl rfl ?_
  refine x_bipush (6 : Int32) dX2_init_25 (by decide) ?_
  refine x_newa (a0 := (6, .inl (fun _ => 0))) 0 6 dX2_init_27 ac_int rfl rfl x_nm_int (fun cA => rfl) (by decide) (by decide) (by decide) (by decide) (fun q1 => ?_)
  refine x_ws (ws' := [(h0, .inr (2, [.int (0 : Int32), .int (0 : Int32), .long (0 : Int64), .int (0 : Int32), .null, .null, .null, .null, .null])), (q1, .inl (G.2 0, 6, .inl (fun _ => 0)))]) (by first | rfl | simp only [List.append_assoc, List.append_nil, List.nil_append, List.cons_append]) ?_
  refine x_putF (ci := 2) (ty := (.array .int)) 4 0 [(h0, .inr (2, [.int (0 : Int32), .int (0 : Int32), .long (0 : Int64), .int (0 : Int32), .ref q1, .null, .null, .null, .null])), (q1, .inl (G.2 0, 6, .inl (fun _ => 0)))] dX2_init_29 fl_X2_25 inX2 tyX2_ok nmX2 rfl (by decide) ⟨rfl, rfl, rfl, rfl, rfl⟩ rfl rfl rfl rfl rfl ?_
  refine x_aload_n dX2_init_32 0 rfl rfl ?_
  refine x_bipush (6 : Int32) dX2_init_33 (by decide) ?_
  refine x_newa (a0 := (6, .inl (fun _ => 0))) 0 6 dX2_init_35 ac_int rfl rfl x_nm_int (fun cA => rfl) (by decide) (by decide) (by decide) (by decide) (fun q2 => ?_)
  refine x_ws (ws' := [(h0, .inr (2, [.int (0 : Int32), .int (0 : Int32), .long (0 : Int64), .int (0 : Int32), .ref q1, .null, .null, .null, .null])), (q1, .inl (G.2 0, 6, .inl (fun _ => 0))), (q2, .inl (G.2 0, 6, .inl (fun _ => 0)))]) (by first | rfl | simp only [List.append_assoc, List.append_nil, List.nil_append, List.cons_append]) ?_
  refine x_putF (ci := 2) (ty := (.array .int)) 5 0 [(h0, .inr (2, [.int (0 : Int32), .int (0 : Int32), .long (0 : Int64), .int (0 : Int32), .ref q1, .ref q2, .null, .null, .null])), (q1, .inl (G.2 0, 6, .inl (fun _ => 0))), (q2, .inl (G.2 0, 6, .inl (fun _ => 0)))] dX2_init_37 fl_X2_29 inX2 tyX2_ok nmX2 rfl (by decide) ⟨rfl, rfl, rfl, rfl, rfl⟩ rfl rfl rfl rfl rfl ?_
  refine x_aload_n dX2_init_40 0 rfl rfl ?_
  refine x_bipush (6 : Int32) dX2_init_41 (by decide) ?_
  refine x_newa (a0 := (6, .inl (fun _ => 0))) 0 6 dX2_init_43 ac_int rfl rfl x_nm_int (fun cA => rfl) (by decide) (by decide) (by decide) (by decide) (fun q3 => ?_)
  refine x_ws (ws' := [(h0, .inr (2, [.int (0 : Int32), .int (0 : Int32), .long (0 : Int64), .int (0 : Int32), .ref q1, .ref q2, .null, .null, .null])), (q1, .inl (G.2 0, 6, .inl (fun _ => 0))), (q2, .inl (G.2 0, 6, .inl (fun _ => 0))), (q3, .inl (G.2 0, 6, .inl (fun _ => 0)))]) (by first | rfl | simp only [List.append_assoc, List.append_nil, List.nil_append, List.cons_append]) ?_
  refine x_putF (ci := 2) (ty := (.array .int)) 6 0 [(h0, .inr (2, [.int (0 : Int32), .int (0 : Int32), .long (0 : Int64), .int (0 : Int32), .ref q1, .ref q2, .ref q3, .null, .null])), (q1, .inl (G.2 0, 6, .inl (fun _ => 0))), (q2, .inl (G.2 0, 6, .inl (fun _ => 0))), (q3, .inl (G.2 0, 6, .inl (fun _ => 0)))] dX2_init_45 fl_X2_32 inX2 tyX2_ok nmX2 rfl (by decide) ⟨rfl, rfl, rfl, rfl, rfl⟩ rfl rfl rfl rfl rfl ?_
  refine x_aload_n dX2_init_48 0 rfl rfl ?_
  refine x_iconst (4 : Int32) dX2_init_49 (by decide) ?_
  refine x_newa (a0 := (4, .inl (fun _ => 0))) 0 4 dX2_init_50 ac_int rfl rfl x_nm_int (fun cA => rfl) (by decide) (by decide) (by decide) (by decide) (fun q4 => ?_)
  refine x_ws (ws' := [(h0, .inr (2, [.int (0 : Int32), .int (0 : Int32), .long (0 : Int64), .int (0 : Int32), .ref q1, .ref q2, .ref q3, .null, .null])), (q1, .inl (G.2 0, 6, .inl (fun _ => 0))), (q2, .inl (G.2 0, 6, .inl (fun _ => 0))), (q3, .inl (G.2 0, 6, .inl (fun _ => 0))), (q4, .inl (G.2 0, 4, .inl (fun _ => 0)))]) (by first | rfl | simp only [List.append_assoc, List.append_nil, List.nil_append, List.cons_append]) ?_
  refine x_putF (ci := 2) (ty := (.array .int)) 7 0 [(h0, .inr (2, [.int (0 : Int32), .int (0 : Int32), .long (0 : Int64), .int (0 : Int32), .ref q1, .ref q2, .ref q3, .ref q4, .null])), (q1, .inl (G.2 0, 6, .inl (fun _ => 0))), (q2, .inl (G.2 0, 6, .inl (fun _ => 0))), (q3, .inl (G.2 0, 6, .inl (fun _ => 0))), (q4, .inl (G.2 0, 4, .inl (fun _ => 0)))] dX2_init_52 fl_X2_35 inX2 tyX2_ok nmX2 rfl (by decide) ⟨rfl, rfl, rfl, rfl, rfl⟩ rfl rfl rfl rfl rfl ?_
  refine x_aload_n dX2_init_55 0 rfl rfl ?_
  refine x_iconst (4 : Int32) dX2_init_56 (by decide) ?_
  refine x_newa (a0 := (4, .inl (fun _ => 0))) 0 4 dX2_init_57 ac_int rfl rfl x_nm_int (fun cA => rfl) (by decide) (by decide) (by decide) (by decide) (fun q5 => ?_)
  refine x_ws (ws' := [(h0, .inr (2, [.int (0 : Int32), .int (0 : Int32), .long (0 : Int64), .int (0 : Int32), .ref q1, .ref q2, .ref q3, .ref q4, .null])), (q1, .inl (G.2 0, 6, .inl (fun _ => 0))), (q2, .inl (G.2 0, 6, .inl (fun _ => 0))), (q3, .inl (G.2 0, 6, .inl (fun _ => 0))), (q4, .inl (G.2 0, 4, .inl (fun _ => 0))), (q5, .inl (G.2 0, 4, .inl (fun _ => 0)))]) (by first | rfl | simp only [List.append_assoc, List.append_nil, List.nil_append, List.cons_append]) ?_
  refine x_putF (ci := 2) (ty := (.array .int)) 8 0 [(h0, .inr (2, [.int (0 : Int32), .int (0 : Int32), .long (0 : Int64), .int (0 : Int32), .ref q1, .ref q2, .ref q3, .ref q4, .ref q5])), (q1, .inl (G.2 0, 6, .inl (fun _ => 0))), (q2, .inl (G.2 0, 6, .inl (fun _ => 0))), (q3, .inl (G.2 0, 6, .inl (fun _ => 0))), (q4, .inl (G.2 0, 4, .inl (fun _ => 0))), (q5, .inl (G.2 0, 4, .inl (fun _ => 0)))] dX2_init_59 fl_X2_38 inX2 tyX2_ok nmX2 rfl (by decide) ⟨rfl, rfl, rfl, rfl, rfl⟩ rfl rfl rfl rfl rfl ?_
  exact x_return dX2_init_62 ⟨rfl, fun k => match k with | 0 => h0 | 1 => q1 | 2 => q2 | 3 => q3 | 4 => q4 | _ => q5, rfl, rfl⟩
theorem pi_X1_init : x_pi yX1_init cX1_init 1 0 := ⟨⟨co_X1_init, ni_X1, by decide, by decide +kernel⟩, im_X1_init, rfl⟩
set_option maxHeartbeats 4000000 in
set_option maxRecDepth 100000 in
theorem k_X1_init {G : x_G} {l : Launch} {h0 : Nat} : x_M G l yX1_init cX1_init 1 none 1 1 60 [.ref h0] [(h0, .inr (1, [.null, .int 0, .int 0, .int 0, .int 0]))] (fun v w => v = none ∧ ∃ a : Nat → Nat, a 0 = h0 ∧ w = WReader G a (fun _ => 0) 0 0 (-9) 0) := by
  refine x_enter (ini := true) (by decide) rfl (by decide) rfl (Nat.le_of_ble_eq_true rfl) ?_
  show X G l RX1 cX1_init 1 (x_R 1 1 60) _ 0 0 0 [(0, .ref h0)] [] _
  refine x_aload_n dX1_init_0 0 rfl rfl ?_
  refine x_objInit dX1_init_1 ml_X1_3 ?_
  refine x_aload_n dX1_init_4 0 rfl rfl ?_
  refine x_bipush (60 : Int32) dX1_init_5 (by decide) ?_
  refine x_newa (a0 := (60, .inl (fun _ => 0))) 0 60 dX1_init_7 ac_int rfl rfl x_nm_int (fun cA => rfl) (by decide) (by decide) (by decide) (by decide) (fun q1 => ?_)
  refine x_ws (ws' := [(h0, .inr (1, [.null, .int 0, .int 0, .int 0, .int 0])), (q1, .inl (G.2 0, 60, .inl (fun _ => 0)))]) (by first | rfl | simp only [List.append_assoc, List.append_nil, List.nil_append, List.cons_append]) ?_
  refine x_putF (ci := 1) (ty := (.array .int)) 0 0 [(h0, .inr (1, [.ref q1, .int 0, .int 0, .int 0, .int 0])), (q1, .inl (G.2 0, 60, .inl (fun _ => 0)))] dX1_init_9 fl_X1_9 inX1 tyX1_ok nmX1 rfl (by decide) ⟨rfl, rfl, rfl, rfl, rfl⟩ rfl rfl rfl rfl rfl ?_
  refine x_aload_n dX1_init_12 0 rfl rfl ?_
  refine x_iconst (0 : Int32) dX1_init_13 (by decide) ?_
  refine x_put (ci := 1) (ty := .int) 1 0 [(h0, .inr (1, [.ref q1, .int (0 : Int32), .int 0, .int 0, .int 0])), (q1, .inl (G.2 0, 60, .inl (fun _ => 0)))] dX1_init_14 fl_X1_15 inX1 tyX1_ok nmX1 rfl (by decide) ⟨rfl, rfl, rfl, rfl, rfl⟩ rfl rfl rfl rfl rfl ?_
  refine x_aload_n dX1_init_17 0 rfl rfl ?_
  refine x_iconst (0 : Int32) dX1_init_18 (by decide) ?_
  refine x_put (ci := 1) (ty := .int) 2 0 [(h0, .inr (1, [.ref q1, .int (0 : Int32), .int (0 : Int32), .int 0, .int 0])), (q1, .inl (G.2 0, 60, .inl (fun _ => 0)))] dX1_init_19 fl_X1_19 inX1 tyX1_ok nmX1 rfl (by decide) ⟨rfl, rfl, rfl, rfl, rfl⟩ rfl rfl rfl rfl rfl ?_
  refine x_aload_n dX1_init_22 0 rfl rfl ?_
  refine x_bipush (-9 : Int32) dX1_init_23 (by decide) ?_
  refine x_put (ci := 1) (ty := .int) 3 0 [(h0, .inr (1, [.ref q1, .int (0 : Int32), .int (0 : Int32), .int (-9 : Int32), .int 0])), (q1, .inl (G.2 0, 60, .inl (fun _ => 0)))] dX1_init_25 fl_X1_22 inX1 tyX1_ok nmX1 rfl (by decide) ⟨rfl, rfl, rfl, rfl, rfl⟩ rfl rfl rfl rfl rfl ?_
  refine x_aload_n dX1_init_28 0 rfl rfl ?_
  refine x_iconst (0 : Int32) dX1_init_29 (by decide) ?_
  refine x_put (ci := 1) (ty := .boolean) 4 0 [(h0, .inr (1, [.ref q1, .int (0 : Int32), .int (0 : Int32), .int (-9 : Int32), .int (0 : Int32)])), (q1, .inl (G.2 0, 60, .inl (fun _ => 0)))] dX1_init_30 fl_X1_25 inX1 tyX1_ok nmX1 rfl (by decide) ⟨rfl, rfl, rfl, rfl, rfl⟩ rfl rfl rfl rfl rfl ?_
  exact x_return dX1_init_33 ⟨rfl, fun k => match k with | 0 => h0 | _ => q1, rfl, rfl⟩
theorem pi_X4_init : x_pi yX4_init cX4_init 5 3 := ⟨⟨co_X4_init, ni_X4, by decide, by decide +kernel⟩, im_X4_init, rfl⟩
set_option maxHeartbeats 4000000 in
set_option maxRecDepth 100000 in
theorem k_X4_init_6_40_0 {G : x_G} {l : Launch} {h0 : Nat} : x_M G l yX4_init cX4_init 5 none 2 8 252 [.ref h0, .int (6 : Int32), .int (40 : Int32), .int (0 : Int32)] [(h0, .inr (3, [.int 0, .int 0, .null, .null]))] (fun v w => v = none ∧ ∃ a : Nat → Nat, a 0 = h0 ∧ w = WShelf G a 6 40 40 0 (upd (upd (upd (upd (upd (upd (fun _ => 0) 0 (-1 : Int32)) 1 (-1 : Int32)) 2 (-1 : Int32)) 3 (-1 : Int32)) 4 (-1 : Int32)) 5 (-1 : Int32)) (fun _ _ => 0)) := by
  refine x_enter (ini := true) (by decide) rfl (by decide) rfl (Nat.le_of_ble_eq_true rfl) ?_
  show X G l RX4 cX4_init 5 (x_R 2 8 252) _ 0 0 0 [(0, .ref h0), (1, .int (6 : Int32)), (2, .int (40 : Int32)), (3, .int (0 : Int32))] [] _
  refine x_aload_n dX4_init_0 0 rfl rfl ?_
  refine x_objInit dX4_init_1 ml_X4_3 ?_
  refine x_aload_n dX4_init_4 0 rfl rfl ?_
  refine x_iload_n dX4_init_5 2 rfl rfl ?_
  refine x_putF (ci := 3) (ty := .int) 0 0 [(h0, .inr (3, [.int (40 : Int32), .int 0, .null, .null]))] dX4_init_6 fl_X4_9 inX4 tyX4_ok nmX4 rfl (by decide) ⟨rfl, rfl, rfl, rfl, rfl⟩ rfl rfl rfl rfl rfl ?_
  refine x_aload_n dX4_init_9 0 rfl rfl ?_
  refine x_iload_n dX4_init_10 3 rfl rfl ?_
  refine x_putF (ci := 3) (ty := .int) 1 0 [(h0, .inr (3, [.int (40 : Int32), .int (0 : Int32), .null, .null]))] dX4_init_11 fl_X4_15 inX4 tyX4_ok nmX4 rfl (by decide) ⟨rfl, rfl, rfl, rfl, rfl⟩ rfl rfl rfl rfl rfl ?_
  refine x_aload_n dX4_init_14 0 rfl rfl ?_
  refine x_iload_n dX4_init_15 1 rfl rfl ?_
  refine x_iconst (0 : Int32) dX4_init_16 (by decide) ?_
  refine x_cS (As := [.int (6 : Int32), .int (0 : Int32)]) (wc := []) (w1 := []) (pre := []) (post := [(h0, .inr (3, [.int (40 : Int32), .int (0 : Int32), .null, .null]))]) (rest := [.ref h0]) (st1 := [.int 6, .ref h0]) (ws1 := [(h0, .inr (3, [.int (40 : Int32), .int (0 : Int32), .null, .null]))]) dX4_init_17 (c_J9_max_7cf53 (res := 6) (by decide)) pk_J9_max_7cf53 ml_X4_18 rfl rfl rfl rfl (by decide) rfl rfl ?_
  refine x_iload_n dX4_init_20 2 rfl rfl ?_
  refine x_iconst (0 : Int32) dX4_init_21 (by decide) ?_
  refine x_cS (As := [.int (40 : Int32), .int (0 : Int32)]) (wc := []) (w1 := []) (pre := []) (post := [(h0, .inr (3, [.int (40 : Int32), .int (0 : Int32), .null, .null]))]) (rest := [.int (6 : Int32), .ref h0]) (st1 := [.int 40, .int (6 : Int32), .ref h0]) (ws1 := [(h0, .inr (3, [.int (40 : Int32), .int (0 : Int32), .null, .null]))]) dX4_init_22 (c_J9_max_7cf53 (res := 40) (by decide)) pk_J9_max_7cf53 ml_X4_18 rfl rfl rfl rfl (by decide) rfl rfl ?_
  refine x_multi (ty := .int) (z := (40, .inl (fun _ => 0))) 0 3 6 40 dX4_init_25 cl_X4_24 (fun s hs => hs.2.2.2.2.1) ac_int rfl rfl (fun s cA => Iff.rfl) (by decide) (by decide) (by decide) (by decide) (by decide) (by decide) (by decide) rfl rfl (fun c => arrV_new _ _ _) (by decide) (fun q1 r1 => ?_)
  refine x_ws (ws' := ([(h0, .inr (3, [.int (40 : Int32), .int (0 : Int32), .null, .null])), (q1, .inl (G.2 3, 6, .inr (.inr (.inr (.inr (x_oc 6 r1))))))] ++ ((List.range 6).map (fun i => (r1 i, .inl (G.2 0, 40, .inl (fun _ => 0))))))) (by simp only [List.append_assoc, List.append_nil, List.nil_append, List.cons_append]) ?_
  refine x_putF (ci := 3) (ty := (.array (.array .int))) 2 0 ([(h0, .inr (3, [.int (40 : Int32), .int (0 : Int32), .ref q1, .null])), (q1, .inl (G.2 3, 6, .inr (.inr (.inr (.inr (x_oc 6 r1))))))] ++ ((List.range 6).map (fun i => (r1 i, .inl (G.2 0, 40, .inl (fun _ => 0)))))) dX4_init_29 fl_X4_26 inX4 tyX4_ok nmX4 rfl (by decide) ⟨rfl, rfl, rfl, rfl, rfl⟩ rfl rfl rfl rfl rfl ?_
  refine x_aload_n dX4_init_32 0 rfl rfl ?_
  refine x_aload_n dX4_init_33 0 rfl rfl ?_
  refine x_get (ci := 3) 2 0 dX4_init_34 fl_X4_26 inX4 rfl (by decide) ⟨rfl, rfl, rfl⟩ rfl rfl ?_
  refine x_alen 3 1 (6 : Int32) dX4_init_37 rfl rfl rfl ?_
  refine x_newa (a0 := (6, .inl (fun _ => 0))) 0 6 dX4_init_38 ac_int rfl rfl x_nm_int (fun cA => rfl) (by decide) (by decide) (by decide) (by decide) (fun q2 => ?_)
  refine x_ws (ws' := ([(h0, .inr (3, [.int (40 : Int32), .int (0 : Int32), .ref q1, .null])), (q1, .inl (G.2 3, 6, .inr (.inr (.inr (.inr (x_oc 6 r1))))))] ++ (((List.range 6).map (fun i => (r1 i, .inl (G.2 0, 40, .inl (fun _ => 0))))) ++ [(q2, .inl (G.2 0, 6, .inl (fun _ => 0)))]))) (by first | rfl | simp only [List.append_assoc, List.append_nil, List.nil_append, List.cons_append]) ?_
  refine x_putF (ci := 3) (ty := (.array .int)) 3 0 ([(h0, .inr (3, [.int (40 : Int32), .int (0 : Int32), .ref q1, .ref q2])), (q1, .inl (G.2 3, 6, .inr (.inr (.inr (.inr (x_oc 6 r1))))))] ++ (((List.range 6).map (fun i => (r1 i, .inl (G.2 0, 40, .inl (fun _ => 0))))) ++ [(q2, .inl (G.2 0, 6, .inl (fun _ => 0)))])) dX4_init_40 fl_X4_29 inX4 tyX4_ok nmX4 rfl (by decide) ⟨rfl, rfl, rfl, rfl, rfl⟩ rfl rfl rfl rfl rfl ?_
  refine x_iconst (0 : Int32) dX4_init_43 (by decide) ?_
  refine x_istore [(4, .int (0 : Int32)), (0, .ref h0), (1, .int (6 : Int32)), (2, .int (40 : Int32)), (3, .int (0 : Int32))] dX4_init_44 (by decide) rfl ?_
  refine x_iload dX4_init_46 0 rfl ?_
  refine x_aload_n dX4_init_48 1 rfl rfl ?_
  refine x_get (ci := 3) 3 0 dX4_init_49 fl_X4_29 inX4 rfl (by decide) ⟨rfl, rfl, rfl⟩ rfl rfl ?_
  refine x_alen 0 8 (6 : Int32) dX4_init_52 rfl rfl rfl ?_
  refine x_icmp_ge 70 dX4_init_53 (by decide) (fun c0 => ?_) (fun c0 => ?_)
  exact absurd c0 (by decide)
  refine x_aload_n dX4_init_56 1 rfl rfl ?_
  refine x_get (ci := 3) 3 0 dX4_init_57 fl_X4_29 inX4 rfl (by decide) ⟨rfl, rfl, rfl⟩ rfl rfl ?_
  refine x_iload dX4_init_60 0 rfl ?_
  refine x_iconst (-1 : Int32) dX4_init_62 (by decide) ?_
  refine x_iast 0 (q0 := 8) ([(h0, .inr (3, [.int (40 : Int32), .int (0 : Int32), .ref q1, .ref q2])), (q1, .inl (G.2 3, 6, .inr (.inr (.inr (.inr (x_oc 6 r1))))))] ++ (((List.range 6).map (fun i => (r1 i, .inl (G.2 0, 40, .inl (fun _ => 0))))) ++ [(q2, .inl (G.2 0, 6, .inl (upd (fun _ => 0) 0 (-1 : Int32))))])) dX4_init_63 (by decide) rfl (by decide) rfl ?_
  refine x_iinc (j := 0) (1 : Int32) [(4, .int ((0 : Int32) + (1 : Int32))), (0, .ref h0), (1, .int (6 : Int32)), (2, .int (40 : Int32)), (3, .int (0 : Int32))] dX4_init_64 (by decide) rfl (by decide) rfl ?_
  refine x_goto 46 dX4_init_67 (by decide) ?_
  refine x_iload dX4_init_46 0 rfl ?_
  refine x_aload_n dX4_init_48 1 rfl rfl ?_
  refine x_get (ci := 3) 3 0 dX4_init_49 fl_X4_29 inX4 rfl (by decide) ⟨rfl, rfl, rfl⟩ rfl rfl ?_
  refine x_alen 0 8 (6 : Int32) dX4_init_52 rfl rfl rfl ?_
  refine x_icmp_ge 70 dX4_init_53 (by decide) (fun c0 => ?_) (fun c0 => ?_)
  exact absurd c0 (by decide)
  refine x_aload_n dX4_init_56 1 rfl rfl ?_
  refine x_get (ci := 3) 3 0 dX4_init_57 fl_X4_29 inX4 rfl (by decide) ⟨rfl, rfl, rfl⟩ rfl rfl ?_
  refine x_iload dX4_init_60 0 rfl ?_
  refine x_iconst (-1 : Int32) dX4_init_62 (by decide) ?_
  refine x_iast 1 (q0 := 8) ([(h0, .inr (3, [.int (40 : Int32), .int (0 : Int32), .ref q1, .ref q2])), (q1, .inl (G.2 3, 6, .inr (.inr (.inr (.inr (x_oc 6 r1))))))] ++ (((List.range 6).map (fun i => (r1 i, .inl (G.2 0, 40, .inl (fun _ => 0))))) ++ [(q2, .inl (G.2 0, 6, .inl (upd (upd (fun _ => 0) 0 (-1 : Int32)) 1 (-1 : Int32))))])) dX4_init_63 (by decide) rfl (by decide) rfl ?_
  refine x_iinc (j := 0) (1 : Int32) [(4, .int (((0 : Int32) + (1 : Int32)) + (1 : Int32))), (0, .ref h0), (1, .int (6 : Int32)), (2, .int (40 : Int32)), (3, .int (0 : Int32))] dX4_init_64 (by decide) rfl (by decide) rfl ?_
  refine x_goto 46 dX4_init_67 (by decide) ?_
  refine x_iload dX4_init_46 0 rfl ?_
  refine x_aload_n dX4_init_48 1 rfl rfl ?_
  refine x_get (ci := 3) 3 0 dX4_init_49 fl_X4_29 inX4 rfl (by decide) ⟨rfl, rfl, rfl⟩ rfl rfl ?_
  refine x_alen 0 8 (6 : Int32) dX4_init_52 rfl rfl rfl ?_
  refine x_icmp_ge 70 dX4_init_53 (by decide) (fun c0 => ?_) (fun c0 => ?_)
  exact absurd c0 (by decide)
  refine x_aload_n dX4_init_56 1 rfl rfl ?_
  refine x_get (ci := 3) 3 0 dX4_init_57 fl_X4_29 inX4 rfl (by decide) ⟨rfl, rfl, rfl⟩ rfl rfl ?_
  refine x_iload dX4_init_60 0 rfl ?_
  refine x_iconst (-1 : Int32) dX4_init_62 (by decide) ?_
  refine x_iast 2 (q0 := 8) ([(h0, .inr (3, [.int (40 : Int32), .int (0 : Int32), .ref q1, .ref q2])), (q1, .inl (G.2 3, 6, .inr (.inr (.inr (.inr (x_oc 6 r1))))))] ++ (((List.range 6).map (fun i => (r1 i, .inl (G.2 0, 40, .inl (fun _ => 0))))) ++ [(q2, .inl (G.2 0, 6, .inl (upd (upd (upd (fun _ => 0) 0 (-1 : Int32)) 1 (-1 : Int32)) 2 (-1 : Int32))))])) dX4_init_63 (by decide) rfl (by decide) rfl ?_
  refine x_iinc (j := 0) (1 : Int32) [(4, .int ((((0 : Int32) + (1 : Int32)) + (1 : Int32)) + (1 : Int32))), (0, .ref h0), (1, .int (6 : Int32)), (2, .int (40 : Int32)), (3, .int (0 : Int32))] dX4_init_64 (by decide) rfl (by decide) rfl ?_
  refine x_goto 46 dX4_init_67 (by decide) ?_
  refine x_iload dX4_init_46 0 rfl ?_
  refine x_aload_n dX4_init_48 1 rfl rfl ?_
  refine x_get (ci := 3) 3 0 dX4_init_49 fl_X4_29 inX4 rfl (by decide) ⟨rfl, rfl, rfl⟩ rfl rfl ?_
  refine x_alen 0 8 (6 : Int32) dX4_init_52 rfl rfl rfl ?_
  refine x_icmp_ge 70 dX4_init_53 (by decide) (fun c0 => ?_) (fun c0 => ?_)
  exact absurd c0 (by decide)
  refine x_aload_n dX4_init_56 1 rfl rfl ?_
  refine x_get (ci := 3) 3 0 dX4_init_57 fl_X4_29 inX4 rfl (by decide) ⟨rfl, rfl, rfl⟩ rfl rfl ?_
  refine x_iload dX4_init_60 0 rfl ?_
  refine x_iconst (-1 : Int32) dX4_init_62 (by decide) ?_
  refine x_iast 3 (q0 := 8) ([(h0, .inr (3, [.int (40 : Int32), .int (0 : Int32), .ref q1, .ref q2])), (q1, .inl (G.2 3, 6, .inr (.inr (.inr (.inr (x_oc 6 r1))))))] ++ (((List.range 6).map (fun i => (r1 i, .inl (G.2 0, 40, .inl (fun _ => 0))))) ++ [(q2, .inl (G.2 0, 6, .inl (upd (upd (upd (upd (fun _ => 0) 0 (-1 : Int32)) 1 (-1 : Int32)) 2 (-1 : Int32)) 3 (-1 : Int32))))])) dX4_init_63 (by decide) rfl (by decide) rfl ?_
  refine x_iinc (j := 0) (1 : Int32) [(4, .int (((((0 : Int32) + (1 : Int32)) + (1 : Int32)) + (1 : Int32)) + (1 : Int32))), (0, .ref h0), (1, .int (6 : Int32)), (2, .int (40 : Int32)), (3, .int (0 : Int32))] dX4_init_64 (by decide) rfl (by decide) rfl ?_
  refine x_goto 46 dX4_init_67 (by decide) ?_
  refine x_iload dX4_init_46 0 rfl ?_
  refine x_aload_n dX4_init_48 1 rfl rfl ?_
  refine x_get (ci := 3) 3 0 dX4_init_49 fl_X4_29 inX4 rfl (by decide) ⟨rfl, rfl, rfl⟩ rfl rfl ?_
  refine x_alen 0 8 (6 : Int32) dX4_init_52 rfl rfl rfl ?_
  refine x_icmp_ge 70 dX4_init_53 (by decide) (fun c0 => ?_) (fun c0 => ?_)
  exact absurd c0 (by decide)
  refine x_aload_n dX4_init_56 1 rfl rfl ?_
  refine x_get (ci := 3) 3 0 dX4_init_57 fl_X4_29 inX4 rfl (by decide) ⟨rfl, rfl, rfl⟩ rfl rfl ?_
  refine x_iload dX4_init_60 0 rfl ?_
  refine x_iconst (-1 : Int32) dX4_init_62 (by decide) ?_
  refine x_iast 4 (q0 := 8) ([(h0, .inr (3, [.int (40 : Int32), .int (0 : Int32), .ref q1, .ref q2])), (q1, .inl (G.2 3, 6, .inr (.inr (.inr (.inr (x_oc 6 r1))))))] ++ (((List.range 6).map (fun i => (r1 i, .inl (G.2 0, 40, .inl (fun _ => 0))))) ++ [(q2, .inl (G.2 0, 6, .inl (upd (upd (upd (upd (upd (fun _ => 0) 0 (-1 : Int32)) 1 (-1 : Int32)) 2 (-1 : Int32)) 3 (-1 : Int32)) 4 (-1 : Int32))))])) dX4_init_63 (by decide) rfl (by decide) rfl ?_
  refine x_iinc (j := 0) (1 : Int32) [(4, .int ((((((0 : Int32) + (1 : Int32)) + (1 : Int32)) + (1 : Int32)) + (1 : Int32)) + (1 : Int32))), (0, .ref h0), (1, .int (6 : Int32)), (2, .int (40 : Int32)), (3, .int (0 : Int32))] dX4_init_64 (by decide) rfl (by decide) rfl ?_
  refine x_goto 46 dX4_init_67 (by decide) ?_
  refine x_iload dX4_init_46 0 rfl ?_
  refine x_aload_n dX4_init_48 1 rfl rfl ?_
  refine x_get (ci := 3) 3 0 dX4_init_49 fl_X4_29 inX4 rfl (by decide) ⟨rfl, rfl, rfl⟩ rfl rfl ?_
  refine x_alen 0 8 (6 : Int32) dX4_init_52 rfl rfl rfl ?_
  refine x_icmp_ge 70 dX4_init_53 (by decide) (fun c0 => ?_) (fun c0 => ?_)
  exact absurd c0 (by decide)
  refine x_aload_n dX4_init_56 1 rfl rfl ?_
  refine x_get (ci := 3) 3 0 dX4_init_57 fl_X4_29 inX4 rfl (by decide) ⟨rfl, rfl, rfl⟩ rfl rfl ?_
  refine x_iload dX4_init_60 0 rfl ?_
  refine x_iconst (-1 : Int32) dX4_init_62 (by decide) ?_
  refine x_iast 5 (q0 := 8) ([(h0, .inr (3, [.int (40 : Int32), .int (0 : Int32), .ref q1, .ref q2])), (q1, .inl (G.2 3, 6, .inr (.inr (.inr (.inr (x_oc 6 r1))))))] ++ (((List.range 6).map (fun i => (r1 i, .inl (G.2 0, 40, .inl (fun _ => 0))))) ++ [(q2, .inl (G.2 0, 6, .inl (upd (upd (upd (upd (upd (upd (fun _ => 0) 0 (-1 : Int32)) 1 (-1 : Int32)) 2 (-1 : Int32)) 3 (-1 : Int32)) 4 (-1 : Int32)) 5 (-1 : Int32))))])) dX4_init_63 (by decide) rfl (by decide) rfl ?_
  refine x_iinc (j := 0) (1 : Int32) [(4, .int (((((((0 : Int32) + (1 : Int32)) + (1 : Int32)) + (1 : Int32)) + (1 : Int32)) + (1 : Int32)) + (1 : Int32))), (0, .ref h0), (1, .int (6 : Int32)), (2, .int (40 : Int32)), (3, .int (0 : Int32))] dX4_init_64 (by decide) rfl (by decide) rfl ?_
  refine x_goto 46 dX4_init_67 (by decide) ?_
  refine x_iload dX4_init_46 0 rfl ?_
  refine x_aload_n dX4_init_48 1 rfl rfl ?_
  refine x_get (ci := 3) 3 0 dX4_init_49 fl_X4_29 inX4 rfl (by decide) ⟨rfl, rfl, rfl⟩ rfl rfl ?_
  refine x_alen 0 8 (6 : Int32) dX4_init_52 rfl rfl rfl ?_
  refine x_icmp_ge 70 dX4_init_53 (by decide) (fun c0 => ?_) (fun c0 => ?_)
  rotate_left; exact absurd (by decide) c0
  refine x_perm (ws' := (h0, .inr (3, [.int (40 : Int32), .int (0 : Int32), .ref q1, .ref q2])) :: (q1, .inl (G.2 3, 6, .inr (.inr (.inr (.inr (x_oc 6 r1)))))) :: (q2, .inl (G.2 0, 6, .inl (upd (upd (upd (upd (upd (upd (fun _ => 0) 0 (-1 : Int32)) 1 (-1 : Int32)) 2 (-1 : Int32)) 3 (-1 : Int32)) 4 (-1 : Int32)) 5 (-1 : Int32)))) :: x_gI (G.2 0) 6 r1 40 (fun _ _ => 0)) [0, 1, 8, 2, 3, 4, 5, 6, 7] (by decide) rfl ?_
  exact x_return dX4_init_70 ⟨rfl, x_ad3 h0 q1 q2 r1, rfl, by unfold WShelf; rw [x_ad3_r]; rfl⟩
set_option maxHeartbeats 4000000 in
set_option maxRecDepth 100000 in
theorem k_X4_init_4_60_32 {G : x_G} {l : Launch} {h0 : Nat} : x_M G l yX4_init cX4_init 5 none 2 6 248 [.ref h0, .int (4 : Int32), .int (60 : Int32), .int (32 : Int32)] [(h0, .inr (3, [.int 0, .int 0, .null, .null]))] (fun v w => v = none ∧ ∃ a : Nat → Nat, a 0 = h0 ∧ w = WShelf G a 4 60 60 32 (upd (upd (upd (upd (fun _ => 0) 0 (-1 : Int32)) 1 (-1 : Int32)) 2 (-1 : Int32)) 3 (-1 : Int32)) (fun _ _ => 0)) := by
  refine x_enter (ini := true) (by decide) rfl (by decide) rfl (Nat.le_of_ble_eq_true rfl) ?_
  show X G l RX4 cX4_init 5 (x_R 2 6 248) _ 0 0 0 [(0, .ref h0), (1, .int (4 : Int32)), (2, .int (60 : Int32)), (3, .int (32 : Int32))] [] _
  refine x_aload_n dX4_init_0 0 rfl rfl ?_
  refine x_objInit dX4_init_1 ml_X4_3 ?_
  refine x_aload_n dX4_init_4 0 rfl rfl ?_
  refine x_iload_n dX4_init_5 2 rfl rfl ?_
  refine x_putF (ci := 3) (ty := .int) 0 0 [(h0, .inr (3, [.int (60 : Int32), .int 0, .null, .null]))] dX4_init_6 fl_X4_9 inX4 tyX4_ok nmX4 rfl (by decide) ⟨rfl, rfl, rfl, rfl, rfl⟩ rfl rfl rfl rfl rfl ?_
  refine x_aload_n dX4_init_9 0 rfl rfl ?_
  refine x_iload_n dX4_init_10 3 rfl rfl ?_
  refine x_putF (ci := 3) (ty := .int) 1 0 [(h0, .inr (3, [.int (60 : Int32), .int (32 : Int32), .null, .null]))] dX4_init_11 fl_X4_15 inX4 tyX4_ok nmX4 rfl (by decide) ⟨rfl, rfl, rfl, rfl, rfl⟩ rfl rfl rfl rfl rfl ?_
  refine x_aload_n dX4_init_14 0 rfl rfl ?_
  refine x_iload_n dX4_init_15 1 rfl rfl ?_
  refine x_iconst (0 : Int32) dX4_init_16 (by decide) ?_
  refine x_cS (As := [.int (4 : Int32), .int (0 : Int32)]) (wc := []) (w1 := []) (pre := []) (post := [(h0, .inr (3, [.int (60 : Int32), .int (32 : Int32), .null, .null]))]) (rest := [.ref h0]) (st1 := [.int 4, .ref h0]) (ws1 := [(h0, .inr (3, [.int (60 : Int32), .int (32 : Int32), .null, .null]))]) dX4_init_17 (c_J9_max_7cf53 (res := 4) (by decide)) pk_J9_max_7cf53 ml_X4_18 rfl rfl rfl rfl (by decide) rfl rfl ?_
  refine x_iload_n dX4_init_20 2 rfl rfl ?_
  refine x_iconst (0 : Int32) dX4_init_21 (by decide) ?_
  refine x_cS (As := [.int (60 : Int32), .int (0 : Int32)]) (wc := []) (w1 := []) (pre := []) (post := [(h0, .inr (3, [.int (60 : Int32), .int (32 : Int32), .null, .null]))]) (rest := [.int (4 : Int32), .ref h0]) (st1 := [.int 60, .int (4 : Int32), .ref h0]) (ws1 := [(h0, .inr (3, [.int (60 : Int32), .int (32 : Int32), .null, .null]))]) dX4_init_22 (c_J9_max_7cf53 (res := 60) (by decide)) pk_J9_max_7cf53 ml_X4_18 rfl rfl rfl rfl (by decide) rfl rfl ?_
  refine x_multi (ty := .int) (z := (60, .inl (fun _ => 0))) 0 3 4 60 dX4_init_25 cl_X4_24 (fun s hs => hs.2.2.2.2.1) ac_int rfl rfl (fun s cA => Iff.rfl) (by decide) (by decide) (by decide) (by decide) (by decide) (by decide) (by decide) rfl rfl (fun c => arrV_new _ _ _) (by decide) (fun q1 r1 => ?_)
  refine x_ws (ws' := ([(h0, .inr (3, [.int (60 : Int32), .int (32 : Int32), .null, .null])), (q1, .inl (G.2 3, 4, .inr (.inr (.inr (.inr (x_oc 4 r1))))))] ++ ((List.range 4).map (fun i => (r1 i, .inl (G.2 0, 60, .inl (fun _ => 0))))))) (by simp only [List.append_assoc, List.append_nil, List.nil_append, List.cons_append]) ?_
  refine x_putF (ci := 3) (ty := (.array (.array .int))) 2 0 ([(h0, .inr (3, [.int (60 : Int32), .int (32 : Int32), .ref q1, .null])), (q1, .inl (G.2 3, 4, .inr (.inr (.inr (.inr (x_oc 4 r1))))))] ++ ((List.range 4).map (fun i => (r1 i, .inl (G.2 0, 60, .inl (fun _ => 0)))))) dX4_init_29 fl_X4_26 inX4 tyX4_ok nmX4 rfl (by decide) ⟨rfl, rfl, rfl, rfl, rfl⟩ rfl rfl rfl rfl rfl ?_
  refine x_aload_n dX4_init_32 0 rfl rfl ?_
  refine x_aload_n dX4_init_33 0 rfl rfl ?_
  refine x_get (ci := 3) 2 0 dX4_init_34 fl_X4_26 inX4 rfl (by decide) ⟨rfl, rfl, rfl⟩ rfl rfl ?_
  refine x_alen 3 1 (4 : Int32) dX4_init_37 rfl rfl rfl ?_
  refine x_newa (a0 := (4, .inl (fun _ => 0))) 0 4 dX4_init_38 ac_int rfl rfl x_nm_int (fun cA => rfl) (by decide) (by decide) (by decide) (by decide) (fun q2 => ?_)
  refine x_ws (ws' := ([(h0, .inr (3, [.int (60 : Int32), .int (32 : Int32), .ref q1, .null])), (q1, .inl (G.2 3, 4, .inr (.inr (.inr (.inr (x_oc 4 r1))))))] ++ (((List.range 4).map (fun i => (r1 i, .inl (G.2 0, 60, .inl (fun _ => 0))))) ++ [(q2, .inl (G.2 0, 4, .inl (fun _ => 0)))]))) (by first | rfl | simp only [List.append_assoc, List.append_nil, List.nil_append, List.cons_append]) ?_
  refine x_putF (ci := 3) (ty := (.array .int)) 3 0 ([(h0, .inr (3, [.int (60 : Int32), .int (32 : Int32), .ref q1, .ref q2])), (q1, .inl (G.2 3, 4, .inr (.inr (.inr (.inr (x_oc 4 r1))))))] ++ (((List.range 4).map (fun i => (r1 i, .inl (G.2 0, 60, .inl (fun _ => 0))))) ++ [(q2, .inl (G.2 0, 4, .inl (fun _ => 0)))])) dX4_init_40 fl_X4_29 inX4 tyX4_ok nmX4 rfl (by decide) ⟨rfl, rfl, rfl, rfl, rfl⟩ rfl rfl rfl rfl rfl ?_
  refine x_iconst (0 : Int32) dX4_init_43 (by decide) ?_
  refine x_istore [(4, .int (0 : Int32)), (0, .ref h0), (1, .int (4 : Int32)), (2, .int (60 : Int32)), (3, .int (32 : Int32))] dX4_init_44 (by decide) rfl ?_
  refine x_iload dX4_init_46 0 rfl ?_
  refine x_aload_n dX4_init_48 1 rfl rfl ?_
  refine x_get (ci := 3) 3 0 dX4_init_49 fl_X4_29 inX4 rfl (by decide) ⟨rfl, rfl, rfl⟩ rfl rfl ?_
  refine x_alen 0 6 (4 : Int32) dX4_init_52 rfl rfl rfl ?_
  refine x_icmp_ge 70 dX4_init_53 (by decide) (fun c0 => ?_) (fun c0 => ?_)
  exact absurd c0 (by decide)
  refine x_aload_n dX4_init_56 1 rfl rfl ?_
  refine x_get (ci := 3) 3 0 dX4_init_57 fl_X4_29 inX4 rfl (by decide) ⟨rfl, rfl, rfl⟩ rfl rfl ?_
  refine x_iload dX4_init_60 0 rfl ?_
  refine x_iconst (-1 : Int32) dX4_init_62 (by decide) ?_
  refine x_iast 0 (q0 := 6) ([(h0, .inr (3, [.int (60 : Int32), .int (32 : Int32), .ref q1, .ref q2])), (q1, .inl (G.2 3, 4, .inr (.inr (.inr (.inr (x_oc 4 r1))))))] ++ (((List.range 4).map (fun i => (r1 i, .inl (G.2 0, 60, .inl (fun _ => 0))))) ++ [(q2, .inl (G.2 0, 4, .inl (upd (fun _ => 0) 0 (-1 : Int32))))])) dX4_init_63 (by decide) rfl (by decide) rfl ?_
  refine x_iinc (j := 0) (1 : Int32) [(4, .int ((0 : Int32) + (1 : Int32))), (0, .ref h0), (1, .int (4 : Int32)), (2, .int (60 : Int32)), (3, .int (32 : Int32))] dX4_init_64 (by decide) rfl (by decide) rfl ?_
  refine x_goto 46 dX4_init_67 (by decide) ?_
  refine x_iload dX4_init_46 0 rfl ?_
  refine x_aload_n dX4_init_48 1 rfl rfl ?_
  refine x_get (ci := 3) 3 0 dX4_init_49 fl_X4_29 inX4 rfl (by decide) ⟨rfl, rfl, rfl⟩ rfl rfl ?_
  refine x_alen 0 6 (4 : Int32) dX4_init_52 rfl rfl rfl ?_
  refine x_icmp_ge 70 dX4_init_53 (by decide) (fun c0 => ?_) (fun c0 => ?_)
  exact absurd c0 (by decide)
  refine x_aload_n dX4_init_56 1 rfl rfl ?_
  refine x_get (ci := 3) 3 0 dX4_init_57 fl_X4_29 inX4 rfl (by decide) ⟨rfl, rfl, rfl⟩ rfl rfl ?_
  refine x_iload dX4_init_60 0 rfl ?_
  refine x_iconst (-1 : Int32) dX4_init_62 (by decide) ?_
  refine x_iast 1 (q0 := 6) ([(h0, .inr (3, [.int (60 : Int32), .int (32 : Int32), .ref q1, .ref q2])), (q1, .inl (G.2 3, 4, .inr (.inr (.inr (.inr (x_oc 4 r1))))))] ++ (((List.range 4).map (fun i => (r1 i, .inl (G.2 0, 60, .inl (fun _ => 0))))) ++ [(q2, .inl (G.2 0, 4, .inl (upd (upd (fun _ => 0) 0 (-1 : Int32)) 1 (-1 : Int32))))])) dX4_init_63 (by decide) rfl (by decide) rfl ?_
  refine x_iinc (j := 0) (1 : Int32) [(4, .int (((0 : Int32) + (1 : Int32)) + (1 : Int32))), (0, .ref h0), (1, .int (4 : Int32)), (2, .int (60 : Int32)), (3, .int (32 : Int32))] dX4_init_64 (by decide) rfl (by decide) rfl ?_
  refine x_goto 46 dX4_init_67 (by decide) ?_
  refine x_iload dX4_init_46 0 rfl ?_
  refine x_aload_n dX4_init_48 1 rfl rfl ?_
  refine x_get (ci := 3) 3 0 dX4_init_49 fl_X4_29 inX4 rfl (by decide) ⟨rfl, rfl, rfl⟩ rfl rfl ?_
  refine x_alen 0 6 (4 : Int32) dX4_init_52 rfl rfl rfl ?_
  refine x_icmp_ge 70 dX4_init_53 (by decide) (fun c0 => ?_) (fun c0 => ?_)
  exact absurd c0 (by decide)
  refine x_aload_n dX4_init_56 1 rfl rfl ?_
  refine x_get (ci := 3) 3 0 dX4_init_57 fl_X4_29 inX4 rfl (by decide) ⟨rfl, rfl, rfl⟩ rfl rfl ?_
  refine x_iload dX4_init_60 0 rfl ?_
  refine x_iconst (-1 : Int32) dX4_init_62 (by decide) ?_
  refine x_iast 2 (q0 := 6) ([(h0, .inr (3, [.int (60 : Int32), .int (32 : Int32), .ref q1, .ref q2])), (q1, .inl (G.2 3, 4, .inr (.inr (.inr (.inr (x_oc 4 r1))))))] ++ (((List.range 4).map (fun i => (r1 i, .inl (G.2 0, 60, .inl (fun _ => 0))))) ++ [(q2, .inl (G.2 0, 4, .inl (upd (upd (upd (fun _ => 0) 0 (-1 : Int32)) 1 (-1 : Int32)) 2 (-1 : Int32))))])) dX4_init_63 (by decide) rfl (by decide) rfl ?_
  refine x_iinc (j := 0) (1 : Int32) [(4, .int ((((0 : Int32) + (1 : Int32)) + (1 : Int32)) + (1 : Int32))), (0, .ref h0), (1, .int (4 : Int32)), (2, .int (60 : Int32)), (3, .int (32 : Int32))] dX4_init_64 (by decide) rfl (by decide) rfl ?_
  refine x_goto 46 dX4_init_67 (by decide) ?_
  refine x_iload dX4_init_46 0 rfl ?_
  refine x_aload_n dX4_init_48 1 rfl rfl ?_
  refine x_get (ci := 3) 3 0 dX4_init_49 fl_X4_29 inX4 rfl (by decide) ⟨rfl, rfl, rfl⟩ rfl rfl ?_
  refine x_alen 0 6 (4 : Int32) dX4_init_52 rfl rfl rfl ?_
  refine x_icmp_ge 70 dX4_init_53 (by decide) (fun c0 => ?_) (fun c0 => ?_)
  exact absurd c0 (by decide)
  refine x_aload_n dX4_init_56 1 rfl rfl ?_
  refine x_get (ci := 3) 3 0 dX4_init_57 fl_X4_29 inX4 rfl (by decide) ⟨rfl, rfl, rfl⟩ rfl rfl ?_
  refine x_iload dX4_init_60 0 rfl ?_
  refine x_iconst (-1 : Int32) dX4_init_62 (by decide) ?_
  refine x_iast 3 (q0 := 6) ([(h0, .inr (3, [.int (60 : Int32), .int (32 : Int32), .ref q1, .ref q2])), (q1, .inl (G.2 3, 4, .inr (.inr (.inr (.inr (x_oc 4 r1))))))] ++ (((List.range 4).map (fun i => (r1 i, .inl (G.2 0, 60, .inl (fun _ => 0))))) ++ [(q2, .inl (G.2 0, 4, .inl (upd (upd (upd (upd (fun _ => 0) 0 (-1 : Int32)) 1 (-1 : Int32)) 2 (-1 : Int32)) 3 (-1 : Int32))))])) dX4_init_63 (by decide) rfl (by decide) rfl ?_
  refine x_iinc (j := 0) (1 : Int32) [(4, .int (((((0 : Int32) + (1 : Int32)) + (1 : Int32)) + (1 : Int32)) + (1 : Int32))), (0, .ref h0), (1, .int (4 : Int32)), (2, .int (60 : Int32)), (3, .int (32 : Int32))] dX4_init_64 (by decide) rfl (by decide) rfl ?_
  refine x_goto 46 dX4_init_67 (by decide) ?_
  refine x_iload dX4_init_46 0 rfl ?_
  refine x_aload_n dX4_init_48 1 rfl rfl ?_
  refine x_get (ci := 3) 3 0 dX4_init_49 fl_X4_29 inX4 rfl (by decide) ⟨rfl, rfl, rfl⟩ rfl rfl ?_
  refine x_alen 0 6 (4 : Int32) dX4_init_52 rfl rfl rfl ?_
  refine x_icmp_ge 70 dX4_init_53 (by decide) (fun c0 => ?_) (fun c0 => ?_)
  rotate_left; exact absurd (by decide) c0
  refine x_perm (ws' := (h0, .inr (3, [.int (60 : Int32), .int (32 : Int32), .ref q1, .ref q2])) :: (q1, .inl (G.2 3, 4, .inr (.inr (.inr (.inr (x_oc 4 r1)))))) :: (q2, .inl (G.2 0, 4, .inl (upd (upd (upd (upd (fun _ => 0) 0 (-1 : Int32)) 1 (-1 : Int32)) 2 (-1 : Int32)) 3 (-1 : Int32)))) :: x_gI (G.2 0) 4 r1 60 (fun _ _ => 0)) [0, 1, 6, 2, 3, 4, 5] (by decide) rfl ?_
  exact x_return dX4_init_70 ⟨rfl, x_ad3 h0 q1 q2 r1, rfl, by unfold WShelf; rw [x_ad3_r]; rfl⟩
theorem pi_X0_init : x_pi yX0_init cX0_init 2 0 := ⟨⟨co_X0_init, ni_X0, by decide, by decide +kernel⟩, im_X0_init, rfl⟩
set_option maxHeartbeats 4000000 in
set_option maxRecDepth 100000 in
theorem k_X0_init {G : x_G} {l : Launch} {h0 : Nat} : x_M G l yX0_init cX0_init 2 none 1 6 170 [.ref h0] [(h0, .inr (0, [.null, .int 0, .null, .null]))] (fun v w => v = none ∧ ∃ a : Nat → Nat, a 0 = h0 ∧ w = WLog G a (fun _ => 0) 0 (fun _ _ => 0) (upd (upd (upd (fun _ => 0) 0 (-1 : Int32)) 1 (-1 : Int32)) 2 (-1 : Int32))) := by
  refine x_enter (ini := true) (by decide) rfl (by decide) rfl (Nat.le_of_ble_eq_true rfl) ?_
  show X G l RX0 cX0_init 2 (x_R 1 6 170) _ 0 0 0 [(0, .ref h0)] [] _
  refine x_aload_n dX0_init_0 0 rfl rfl ?_
  refine x_objInit dX0_init_1 ml_X0_3 ?_
  refine x_aload_n dX0_init_4 0 rfl rfl ?_
  refine x_bipush (41 : Int32) dX0_init_5 (by decide) ?_
  refine x_newa (a0 := (41, .inr (.inl (fun _ => 0)))) 2 41 dX0_init_7 ac_long rfl rfl x_nm_long (fun cA => rfl) (by decide) (by decide) (by decide) (by decide) (fun q1 => ?_)
  refine x_ws (ws' := [(h0, .inr (0, [.null, .int 0, .null, .null])), (q1, .inl (G.2 2, 41, .inr (.inl (fun _ => 0))))]) (by first | rfl | simp only [List.append_assoc, List.append_nil, List.nil_append, List.cons_append]) ?_
  refine x_putF (ci := 0) (ty := (.array .long)) 0 0 [(h0, .inr (0, [.ref q1, .int 0, .null, .null])), (q1, .inl (G.2 2, 41, .inr (.inl (fun _ => 0))))] dX0_init_9 fl_X0_9 inX0 tyX0_ok nmX0 rfl (by decide) ⟨rfl, rfl, rfl, rfl, rfl⟩ rfl rfl rfl rfl rfl ?_
  refine x_aload_n dX0_init_12 0 rfl rfl ?_
  refine x_iconst (0 : Int32) dX0_init_13 (by decide) ?_
  refine x_put (ci := 0) (ty := .int) 1 0 [(h0, .inr (0, [.ref q1, .int (0 : Int32), .null, .null])), (q1, .inl (G.2 2, 41, .inr (.inl (fun _ => 0))))] dX0_init_14 fl_X0_15 inX0 tyX0_ok nmX0 rfl (by decide) ⟨rfl, rfl, rfl, rfl, rfl⟩ rfl rfl rfl rfl rfl ?_
  refine x_aload_n dX0_init_17 0 rfl rfl ?_
  refine x_iconst (3 : Int32) dX0_init_18 (by decide) ?_
  refine x_bipush (41 : Int32) dX0_init_19 (by decide) ?_
  refine x_multi (ty := .long) (z := (41, .inr (.inl (fun _ => 0)))) 2 4 3 41 dX0_init_21 cl_X0_19 (fun s hs => hs.2.2.2.2.2) ac_long rfl rfl (fun s cA => Iff.rfl) (by decide) (by decide) (by decide) (by decide) (by decide) (by decide) (by decide) rfl rfl (fun c => arrV_new _ _ _) (by decide) (fun q2 r2 => ?_)
  refine x_ws (ws' := ([(h0, .inr (0, [.ref q1, .int (0 : Int32), .null, .null])), (q1, .inl (G.2 2, 41, .inr (.inl (fun _ => 0)))), (q2, .inl (G.2 4, 3, .inr (.inr (.inr (.inr (x_oc 3 r2))))))] ++ ((List.range 3).map (fun i => (r2 i, .inl (G.2 2, 41, .inr (.inl (fun _ => 0)))))))) (by simp only [List.append_assoc, List.append_nil, List.nil_append, List.cons_append]) ?_
  refine x_putF (ci := 0) (ty := (.array (.array .long))) 2 0 ([(h0, .inr (0, [.ref q1, .int (0 : Int32), .ref q2, .null])), (q1, .inl (G.2 2, 41, .inr (.inl (fun _ => 0)))), (q2, .inl (G.2 4, 3, .inr (.inr (.inr (.inr (x_oc 3 r2))))))] ++ ((List.range 3).map (fun i => (r2 i, .inl (G.2 2, 41, .inr (.inl (fun _ => 0))))))) dX0_init_25 fl_X0_21 inX0 tyX0_ok nmX0 rfl (by decide) ⟨rfl, rfl, rfl, rfl, rfl⟩ rfl rfl rfl rfl rfl ?_
  refine x_aload_n dX0_init_28 0 rfl rfl ?_
  refine x_iconst (3 : Int32) dX0_init_29 (by decide) ?_
  refine x_newa (a0 := (3, .inl (fun _ => 0))) 0 3 dX0_init_30 ac_int rfl rfl x_nm_int (fun cA => rfl) (by decide) (by decide) (by decide) (by decide) (fun q3 => ?_)
  refine x_ws (ws' := ([(h0, .inr (0, [.ref q1, .int (0 : Int32), .ref q2, .null])), (q1, .inl (G.2 2, 41, .inr (.inl (fun _ => 0)))), (q2, .inl (G.2 4, 3, .inr (.inr (.inr (.inr (x_oc 3 r2))))))] ++ (((List.range 3).map (fun i => (r2 i, .inl (G.2 2, 41, .inr (.inl (fun _ => 0)))))) ++ [(q3, .inl (G.2 0, 3, .inl (fun _ => 0)))]))) (by first | rfl | simp only [List.append_assoc, List.append_nil, List.nil_append, List.cons_append]) ?_
  refine x_putF (ci := 0) (ty := (.array .int)) 3 0 ([(h0, .inr (0, [.ref q1, .int (0 : Int32), .ref q2, .ref q3])), (q1, .inl (G.2 2, 41, .inr (.inl (fun _ => 0)))), (q2, .inl (G.2 4, 3, .inr (.inr (.inr (.inr (x_oc 3 r2))))))] ++ (((List.range 3).map (fun i => (r2 i, .inl (G.2 2, 41, .inr (.inl (fun _ => 0)))))) ++ [(q3, .inl (G.2 0, 3, .inl (fun _ => 0)))])) dX0_init_32 fl_X0_24 inX0 tyX0_ok nmX0 rfl (by decide) ⟨rfl, rfl, rfl, rfl, rfl⟩ rfl rfl rfl rfl rfl ?_
  refine x_iconst (0 : Int32) dX0_init_35 (by decide) ?_
  refine x_istore_n [(1, .int (0 : Int32)), (0, .ref h0)] dX0_init_36 rfl (by decide) rfl ?_
  refine x_iload_n dX0_init_37 0 rfl rfl ?_
  refine x_iconst (3 : Int32) dX0_init_38 (by decide) ?_
  refine x_icmp_ge 55 dX0_init_39 (by decide) (fun c0 => ?_) (fun c0 => ?_)
  exact absurd c0 (by decide)
  refine x_aload_n dX0_init_42 1 rfl rfl ?_
  refine x_get (ci := 0) 3 0 dX0_init_43 fl_X0_24 inX0 rfl (by decide) ⟨rfl, rfl, rfl⟩ rfl rfl ?_
  refine x_iload_n dX0_init_46 0 rfl rfl ?_
  refine x_iconst (-1 : Int32) dX0_init_47 (by decide) ?_
  refine x_iast 0 (q0 := 6) ([(h0, .inr (0, [.ref q1, .int (0 : Int32), .ref q2, .ref q3])), (q1, .inl (G.2 2, 41, .inr (.inl (fun _ => 0)))), (q2, .inl (G.2 4, 3, .inr (.inr (.inr (.inr (x_oc 3 r2))))))] ++ (((List.range 3).map (fun i => (r2 i, .inl (G.2 2, 41, .inr (.inl (fun _ => 0)))))) ++ [(q3, .inl (G.2 0, 3, .inl (upd (fun _ => 0) 0 (-1 : Int32))))])) dX0_init_48 (by decide) rfl (by decide) rfl ?_
  refine x_iinc (j := 0) (1 : Int32) [(1, .int ((0 : Int32) + (1 : Int32))), (0, .ref h0)] dX0_init_49 (by decide) rfl (by decide) rfl ?_
  refine x_goto 37 dX0_init_52 (by decide) ?_
  refine x_iload_n dX0_init_37 0 rfl rfl ?_
  refine x_iconst (3 : Int32) dX0_init_38 (by decide) ?_
  refine x_icmp_ge 55 dX0_init_39 (by decide) (fun c0 => ?_) (fun c0 => ?_)
  exact absurd c0 (by decide)
  refine x_aload_n dX0_init_42 1 rfl rfl ?_
  refine x_get (ci := 0) 3 0 dX0_init_43 fl_X0_24 inX0 rfl (by decide) ⟨rfl, rfl, rfl⟩ rfl rfl ?_
  refine x_iload_n dX0_init_46 0 rfl rfl ?_
  refine x_iconst (-1 : Int32) dX0_init_47 (by decide) ?_
  refine x_iast 1 (q0 := 6) ([(h0, .inr (0, [.ref q1, .int (0 : Int32), .ref q2, .ref q3])), (q1, .inl (G.2 2, 41, .inr (.inl (fun _ => 0)))), (q2, .inl (G.2 4, 3, .inr (.inr (.inr (.inr (x_oc 3 r2))))))] ++ (((List.range 3).map (fun i => (r2 i, .inl (G.2 2, 41, .inr (.inl (fun _ => 0)))))) ++ [(q3, .inl (G.2 0, 3, .inl (upd (upd (fun _ => 0) 0 (-1 : Int32)) 1 (-1 : Int32))))])) dX0_init_48 (by decide) rfl (by decide) rfl ?_
  refine x_iinc (j := 0) (1 : Int32) [(1, .int (((0 : Int32) + (1 : Int32)) + (1 : Int32))), (0, .ref h0)] dX0_init_49 (by decide) rfl (by decide) rfl ?_
  refine x_goto 37 dX0_init_52 (by decide) ?_
  refine x_iload_n dX0_init_37 0 rfl rfl ?_
  refine x_iconst (3 : Int32) dX0_init_38 (by decide) ?_
  refine x_icmp_ge 55 dX0_init_39 (by decide) (fun c0 => ?_) (fun c0 => ?_)
  exact absurd c0 (by decide)
  refine x_aload_n dX0_init_42 1 rfl rfl ?_
  refine x_get (ci := 0) 3 0 dX0_init_43 fl_X0_24 inX0 rfl (by decide) ⟨rfl, rfl, rfl⟩ rfl rfl ?_
  refine x_iload_n dX0_init_46 0 rfl rfl ?_
  refine x_iconst (-1 : Int32) dX0_init_47 (by decide) ?_
  refine x_iast 2 (q0 := 6) ([(h0, .inr (0, [.ref q1, .int (0 : Int32), .ref q2, .ref q3])), (q1, .inl (G.2 2, 41, .inr (.inl (fun _ => 0)))), (q2, .inl (G.2 4, 3, .inr (.inr (.inr (.inr (x_oc 3 r2))))))] ++ (((List.range 3).map (fun i => (r2 i, .inl (G.2 2, 41, .inr (.inl (fun _ => 0)))))) ++ [(q3, .inl (G.2 0, 3, .inl (upd (upd (upd (fun _ => 0) 0 (-1 : Int32)) 1 (-1 : Int32)) 2 (-1 : Int32))))])) dX0_init_48 (by decide) rfl (by decide) rfl ?_
  refine x_iinc (j := 0) (1 : Int32) [(1, .int ((((0 : Int32) + (1 : Int32)) + (1 : Int32)) + (1 : Int32))), (0, .ref h0)] dX0_init_49 (by decide) rfl (by decide) rfl ?_
  refine x_goto 37 dX0_init_52 (by decide) ?_
  refine x_iload_n dX0_init_37 0 rfl rfl ?_
  refine x_iconst (3 : Int32) dX0_init_38 (by decide) ?_
  refine x_icmp_ge 55 dX0_init_39 (by decide) (fun c0 => ?_) (fun c0 => ?_)
  rotate_left; exact absurd (by decide) c0
  refine x_perm (ws' := (h0, .inr (0, [.ref q1, .int (0 : Int32), .ref q2, .ref q3])) :: (q1, .inl (G.2 2, 41, .inr (.inl (fun _ => 0)))) :: (q2, .inl (G.2 4, 3, .inr (.inr (.inr (.inr (x_oc 3 r2)))))) :: (q3, .inl (G.2 0, 3, .inl (upd (upd (upd (fun _ => 0) 0 (-1 : Int32)) 1 (-1 : Int32)) 2 (-1 : Int32)))) :: x_gL (G.2 2) 3 r2 41 (fun _ _ => 0)) [0, 1, 2, 6, 3, 4, 5] (by decide) rfl ?_
  exact x_return dX0_init_55 ⟨rfl, x_ad4 h0 q1 q2 q3 r2, rfl, by unfold WLog; rw [x_ad4_r]; rfl⟩
theorem pi_X6_init : x_pi yX6_init cX6_init 1 0 := ⟨⟨co_X6_init, ni_X6, by decide, by decide +kernel⟩, im_X6_init, rfl⟩
set_option maxHeartbeats 4000000 in
set_option maxRecDepth 100000 in
theorem k_X6_init {G : x_G} {l : Launch} {h0 : Nat} : x_M G l yX6_init cX6_init 1 none 3 39 827 [.ref h0] [(h0, .inr (4, [.null, .null, .null, .null, .null, .null, .null, .null, .int 0, .int 0, .long 0, .long 0]))] (fun v w => v = none ∧ ∃ a ar al af ax ad b c aq : Nat → Nat, a 0 = h0 ∧ w = WO G a ar al af ax ad b c aq 0 0 0 1 ++ (WShelf G ar 6 40 40 0 (upd (upd (upd (upd (upd (upd (fun _ => 0) 0 (-1 : Int32)) 1 (-1 : Int32)) 2 (-1 : Int32)) 3 (-1 : Int32)) 4 (-1 : Int32)) 5 (-1 : Int32)) (fun _ _ => 0) ++ (WLog G al (fun _ => 0) 0 (fun _ _ => 0) (upd (upd (upd (fun _ => 0) 0 (-1 : Int32)) 1 (-1 : Int32)) 2 (-1 : Int32)) ++ (WArr G af 6 (fun _ => 0) ++ (WShelf G ax 4 60 60 32 (upd (upd (upd (upd (fun _ => 0) 0 (-1 : Int32)) 1 (-1 : Int32)) 2 (-1 : Int32)) 3 (-1 : Int32)) (fun _ _ => 0) ++ (WReader G ad (fun _ => 0) 0 0 (-9) 0 ++ (WRig G c 0 0 0 0 (fun _ => 0) (fun _ => 0) (fun _ => 0) (fun _ => 0) (fun _ => 0) ++ (WRig G b 0 0 0 0 (fun _ => 0) (fun _ => 0) (fun _ => 0) (fun _ => 0) (fun _ => 0) ++ WArr G aq 4 (fun _ => 0))))))))) := by
  refine x_enter (ini := true) (by decide) rfl (by decide) rfl (Nat.le_of_ble_eq_true rfl) ?_
  show X G l RX6 cX6_init 1 (x_R 3 39 827) _ 0 0 0 [(0, .ref h0)] [] _
  refine x_aload_n dX6_init_0 0 rfl rfl ?_
  refine x_objInit dX6_init_1 ml_X6_1 ?_
  refine x_aload_n dX6_init_4 0 rfl rfl ?_
  refine x_new (ci := 3) (fs := [.int 0, .int 0, .null, .null]) dX6_init_5 cl_X6_7 it_X4 ni_X4 inX4 tyX4_ok rfl dv_X4 (by decide) (fun q1 => ?_)
  refine x_ws (ws' := [(h0, .inr (4, [.null, .null, .null, .null, .null, .null, .null, .null, .int 0, .int 0, .long 0, .long 0])), (q1, .inr (3, [.int 0, .int 0, .null, .null]))]) (by first | rfl | simp only [List.append_assoc, List.append_nil, List.nil_append, List.cons_append]) ?_
  refine x_dup dX6_init_8 rfl ?_
  refine x_bipush (6 : Int32) dX6_init_9 (by decide) ?_
  refine x_bipush (40 : Int32) dX6_init_11 (by decide) ?_
  refine x_iconst (0 : Int32) dX6_init_13 (by decide) ?_
  refine x_callI (As := [.int (6 : Int32), .int (40 : Int32), .int (0 : Int32)]) (wc := [(q1, .inr (3, [.int 0, .int 0, .null, .null]))]) (pre := [(h0, .inr (4, [.null, .null, .null, .null, .null, .null, .null, .null, .int 0, .int 0, .long 0, .long 0]))]) (post := []) (rest := [.ref q1, .ref h0]) dX6_init_14 (k_X4_init_6_40_0 (h0 := q1)) pi_X4_init ml_X6_11 (by first | rfl | simp only [List.append_assoc, List.append_nil, List.nil_append, List.cons_append]) rfl rfl rfl (by decide) (fun v w hv => ?_)
  obtain ⟨rfl, a2, ha2, rfl⟩ := hv
  subst ha2
  refine x_ws (ws' := ([(h0, .inr (4, [.null, .null, .null, .null, .null, .null, .null, .null, .int 0, .int 0, .long 0, .long 0]))] ++ WShelf G a2 6 40 40 0 (upd (upd (upd (upd (upd (upd (fun _ => 0) 0 (-1 : Int32)) 1 (-1 : Int32)) 2 (-1 : Int32)) 3 (-1 : Int32)) 4 (-1 : Int32)) 5 (-1 : Int32)) (fun _ _ => 0))) (by simp only [List.append_assoc, List.append_nil, List.nil_append, List.cons_append]) ?_
  refine x_putF (ci := 4) (ty := (.object RX4)) 0 0 ([(h0, .inr (4, [.ref (a2 0), .null, .null, .null, .null, .null, .null, .null, .int 0, .int 0, .long 0, .long 0]))] ++ WShelf G a2 6 40 40 0 (upd (upd (upd (upd (upd (upd (fun _ => 0) 0 (-1 : Int32)) 1 (-1 : Int32)) 2 (-1 : Int32)) 3 (-1 : Int32)) 4 (-1 : Int32)) 5 (-1 : Int32)) (fun _ _ => 0)) dX6_init_17 fl_X6_14 inX6 tyX6_ok nmX6 rfl (by decide) ⟨rfl, rfl, rfl, rfl, rfl⟩ rfl rfl rfl rfl rfl ?_
  refine x_aload_n dX6_init_20 0 rfl rfl ?_
  refine x_new (ci := 3) (fs := [.int 0, .int 0, .null, .null]) dX6_init_21 cl_X6_7 it_X4 ni_X4 inX4 tyX4_ok rfl dv_X4 (by decide) (fun q3 => ?_)
  refine x_ws (ws' := ([(h0, .inr (4, [.ref (a2 0), .null, .null, .null, .null, .null, .null, .null, .int 0, .int 0, .long 0, .long 0]))] ++ (WShelf G a2 6 40 40 0 (upd (upd (upd (upd (upd (upd (fun _ => 0) 0 (-1 : Int32)) 1 (-1 : Int32)) 2 (-1 : Int32)) 3 (-1 : Int32)) 4 (-1 : Int32)) 5 (-1 : Int32)) (fun _ _ => 0) ++ [(q3, .inr (3, [.int 0, .int 0, .null, .null]))]))) (by first | rfl | simp only [List.append_assoc, List.append_nil, List.nil_append, List.cons_append]) ?_
  refine x_dup dX6_init_24 rfl ?_
  refine x_iconst (4 : Int32) dX6_init_25 (by decide) ?_
  refine x_bipush (60 : Int32) dX6_init_26 (by decide) ?_
  refine x_bipush (32 : Int32) dX6_init_28 (by decide) ?_
  refine x_callI (As := [.int (4 : Int32), .int (60 : Int32), .int (32 : Int32)]) (wc := [(q3, .inr (3, [.int 0, .int 0, .null, .null]))]) (pre := ([(h0, .inr (4, [.ref (a2 0), .null, .null, .null, .null, .null, .null, .null, .int 0, .int 0, .long 0, .long 0]))] ++ WShelf G a2 6 40 40 0 (upd (upd (upd (upd (upd (upd (fun _ => 0) 0 (-1 : Int32)) 1 (-1 : Int32)) 2 (-1 : Int32)) 3 (-1 : Int32)) 4 (-1 : Int32)) 5 (-1 : Int32)) (fun _ _ => 0))) (post := []) (rest := [.ref q3, .ref h0]) dX6_init_30 (k_X4_init_4_60_32 (h0 := q3)) pi_X4_init ml_X6_11 (by first | rfl | simp only [List.append_assoc, List.append_nil, List.nil_append, List.cons_append]) rfl rfl rfl (by decide) (fun v w hv => ?_)
  obtain ⟨rfl, a4, ha4, rfl⟩ := hv
  subst ha4
  refine x_ws (ws' := ([(h0, .inr (4, [.ref (a2 0), .null, .null, .null, .null, .null, .null, .null, .int 0, .int 0, .long 0, .long 0]))] ++ (WShelf G a2 6 40 40 0 (upd (upd (upd (upd (upd (upd (fun _ => 0) 0 (-1 : Int32)) 1 (-1 : Int32)) 2 (-1 : Int32)) 3 (-1 : Int32)) 4 (-1 : Int32)) 5 (-1 : Int32)) (fun _ _ => 0) ++ WShelf G a4 4 60 60 32 (upd (upd (upd (upd (fun _ => 0) 0 (-1 : Int32)) 1 (-1 : Int32)) 2 (-1 : Int32)) 3 (-1 : Int32)) (fun _ _ => 0)))) (by simp only [List.append_assoc, List.append_nil, List.nil_append, List.cons_append]) ?_
  refine x_putF (ci := 4) (ty := (.object RX4)) 1 0 ([(h0, .inr (4, [.ref (a2 0), .ref (a4 0), .null, .null, .null, .null, .null, .null, .int 0, .int 0, .long 0, .long 0]))] ++ (WShelf G a2 6 40 40 0 (upd (upd (upd (upd (upd (upd (fun _ => 0) 0 (-1 : Int32)) 1 (-1 : Int32)) 2 (-1 : Int32)) 3 (-1 : Int32)) 4 (-1 : Int32)) 5 (-1 : Int32)) (fun _ _ => 0) ++ WShelf G a4 4 60 60 32 (upd (upd (upd (upd (fun _ => 0) 0 (-1 : Int32)) 1 (-1 : Int32)) 2 (-1 : Int32)) 3 (-1 : Int32)) (fun _ _ => 0))) dX6_init_33 fl_X6_18 inX6 tyX6_ok nmX6 rfl (by decide) ⟨rfl, rfl, rfl, rfl, rfl⟩ rfl rfl rfl rfl rfl ?_
  refine x_aload_n dX6_init_36 0 rfl rfl ?_
  refine x_new (ci := 1) (fs := [.null, .int 0, .int 0, .int 0, .int 0]) dX6_init_37 cl_X6_21 it_X1 ni_X1 inX1 tyX1_ok rfl dv_X1 (by decide) (fun q5 => ?_)
  refine x_ws (ws' := ([(h0, .inr (4, [.ref (a2 0), .ref (a4 0), .null, .null, .null, .null, .null, .null, .int 0, .int 0, .long 0, .long 0]))] ++ (WShelf G a2 6 40 40 0 (upd (upd (upd (upd (upd (upd (fun _ => 0) 0 (-1 : Int32)) 1 (-1 : Int32)) 2 (-1 : Int32)) 3 (-1 : Int32)) 4 (-1 : Int32)) 5 (-1 : Int32)) (fun _ _ => 0) ++ (WShelf G a4 4 60 60 32 (upd (upd (upd (upd (fun _ => 0) 0 (-1 : Int32)) 1 (-1 : Int32)) 2 (-1 : Int32)) 3 (-1 : Int32)) (fun _ _ => 0) ++ [(q5, .inr (1, [.null, .int 0, .int 0, .int 0, .int 0]))])))) (by first | rfl | simp only [List.append_assoc, List.append_nil, List.nil_append, List.cons_append]) ?_
  refine x_dup dX6_init_40 rfl ?_
  refine x_callIN (As := []) (wc := [(q5, .inr (1, [.null, .int 0, .int 0, .int 0, .int 0]))]) (pre := ([(h0, .inr (4, [.ref (a2 0), .ref (a4 0), .null, .null, .null, .null, .null, .null, .int 0, .int 0, .long 0, .long 0]))] ++ (WShelf G a2 6 40 40 0 (upd (upd (upd (upd (upd (upd (fun _ => 0) 0 (-1 : Int32)) 1 (-1 : Int32)) 2 (-1 : Int32)) 3 (-1 : Int32)) 4 (-1 : Int32)) 5 (-1 : Int32)) (fun _ _ => 0) ++ WShelf G a4 4 60 60 32 (upd (upd (upd (upd (fun _ => 0) 0 (-1 : Int32)) 1 (-1 : Int32)) 2 (-1 : Int32)) 3 (-1 : Int32)) (fun _ _ => 0)))) (post := []) (rest := [.ref q5, .ref h0]) dX6_init_41 (k_X1_init (h0 := q5)) pi_X1_init (fun s hs => hs.1) (by first | rfl | simp only [List.append_assoc, List.append_nil, List.nil_append, List.cons_append]) rfl rfl rfl (by decide) (fun v w hv => ?_)
  obtain ⟨rfl, a6, ha6, rfl⟩ := hv
  subst ha6
  refine x_ws (ws' := ([(h0, .inr (4, [.ref (a2 0), .ref (a4 0), .null, .null, .null, .null, .null, .null, .int 0, .int 0, .long 0, .long 0]))] ++ (WShelf G a2 6 40 40 0 (upd (upd (upd (upd (upd (upd (fun _ => 0) 0 (-1 : Int32)) 1 (-1 : Int32)) 2 (-1 : Int32)) 3 (-1 : Int32)) 4 (-1 : Int32)) 5 (-1 : Int32)) (fun _ _ => 0) ++ (WShelf G a4 4 60 60 32 (upd (upd (upd (upd (fun _ => 0) 0 (-1 : Int32)) 1 (-1 : Int32)) 2 (-1 : Int32)) 3 (-1 : Int32)) (fun _ _ => 0) ++ WReader G a6 (fun _ => 0) 0 0 (-9) 0)))) (by simp only [List.append_assoc, List.append_nil, List.nil_append, List.cons_append]) ?_
  refine x_putF (ci := 4) (ty := (.object RX1)) 2 0 ([(h0, .inr (4, [.ref (a2 0), .ref (a4 0), .ref (a6 0), .null, .null, .null, .null, .null, .int 0, .int 0, .long 0, .long 0]))] ++ (WShelf G a2 6 40 40 0 (upd (upd (upd (upd (upd (upd (fun _ => 0) 0 (-1 : Int32)) 1 (-1 : Int32)) 2 (-1 : Int32)) 3 (-1 : Int32)) 4 (-1 : Int32)) 5 (-1 : Int32)) (fun _ _ => 0) ++ (WShelf G a4 4 60 60 32 (upd (upd (upd (upd (fun _ => 0) 0 (-1 : Int32)) 1 (-1 : Int32)) 2 (-1 : Int32)) 3 (-1 : Int32)) (fun _ _ => 0) ++ WReader G a6 (fun _ => 0) 0 0 (-9) 0))) dX6_init_44 fl_X6_24 inX6 tyX6_ok nmX6 rfl (by decide) ⟨rfl, rfl, rfl, rfl, rfl⟩ rfl rfl rfl rfl rfl ?_
  refine x_aload_n dX6_init_47 0 rfl rfl ?_
  refine x_new (ci := 0) (fs := [.null, .int 0, .null, .null]) dX6_init_48 cl_X6_28 it_X0 ni_X0 inX0 tyX0_ok rfl dv_X0 (by decide) (fun q7 => ?_)
  refine x_ws (ws' := ([(h0, .inr (4, [.ref (a2 0), .ref (a4 0), .ref (a6 0), .null, .null, .null, .null, .null, .int 0, .int 0, .long 0, .long 0]))] ++ (WShelf G a2 6 40 40 0 (upd (upd (upd (upd (upd (upd (fun _ => 0) 0 (-1 : Int32)) 1 (-1 : Int32)) 2 (-1 : Int32)) 3 (-1 : Int32)) 4 (-1 : Int32)) 5 (-1 : Int32)) (fun _ _ => 0) ++ (WShelf G a4 4 60 60 32 (upd (upd (upd (upd (fun _ => 0) 0 (-1 : Int32)) 1 (-1 : Int32)) 2 (-1 : Int32)) 3 (-1 : Int32)) (fun _ _ => 0) ++ (WReader G a6 (fun _ => 0) 0 0 (-9) 0 ++ [(q7, .inr (0, [.null, .int 0, .null, .null]))]))))) (by first | rfl | simp only [List.append_assoc, List.append_nil, List.nil_append, List.cons_append]) ?_
  refine x_dup dX6_init_51 rfl ?_
  refine x_callI (As := []) (wc := [(q7, .inr (0, [.null, .int 0, .null, .null]))]) (pre := ([(h0, .inr (4, [.ref (a2 0), .ref (a4 0), .ref (a6 0), .null, .null, .null, .null, .null, .int 0, .int 0, .long 0, .long 0]))] ++ (WShelf G a2 6 40 40 0 (upd (upd (upd (upd (upd (upd (fun _ => 0) 0 (-1 : Int32)) 1 (-1 : Int32)) 2 (-1 : Int32)) 3 (-1 : Int32)) 4 (-1 : Int32)) 5 (-1 : Int32)) (fun _ _ => 0) ++ (WShelf G a4 4 60 60 32 (upd (upd (upd (upd (fun _ => 0) 0 (-1 : Int32)) 1 (-1 : Int32)) 2 (-1 : Int32)) 3 (-1 : Int32)) (fun _ _ => 0) ++ WReader G a6 (fun _ => 0) 0 0 (-9) 0)))) (post := []) (rest := [.ref q7, .ref h0]) dX6_init_52 (k_X0_init (h0 := q7)) pi_X0_init ml_X6_30 (by first | rfl | simp only [List.append_assoc, List.append_nil, List.nil_append, List.cons_append]) rfl rfl rfl (by decide) (fun v w hv => ?_)
  obtain ⟨rfl, a8, ha8, rfl⟩ := hv
  subst ha8
  refine x_ws (ws' := ([(h0, .inr (4, [.ref (a2 0), .ref (a4 0), .ref (a6 0), .null, .null, .null, .null, .null, .int 0, .int 0, .long 0, .long 0]))] ++ (WShelf G a2 6 40 40 0 (upd (upd (upd (upd (upd (upd (fun _ => 0) 0 (-1 : Int32)) 1 (-1 : Int32)) 2 (-1 : Int32)) 3 (-1 : Int32)) 4 (-1 : Int32)) 5 (-1 : Int32)) (fun _ _ => 0) ++ (WShelf G a4 4 60 60 32 (upd (upd (upd (upd (fun _ => 0) 0 (-1 : Int32)) 1 (-1 : Int32)) 2 (-1 : Int32)) 3 (-1 : Int32)) (fun _ _ => 0) ++ (WReader G a6 (fun _ => 0) 0 0 (-9) 0 ++ WLog G a8 (fun _ => 0) 0 (fun _ _ => 0) (upd (upd (upd (fun _ => 0) 0 (-1 : Int32)) 1 (-1 : Int32)) 2 (-1 : Int32))))))) (by simp only [List.append_assoc, List.append_nil, List.nil_append, List.cons_append]) ?_
  refine x_putF (ci := 4) (ty := (.object RX0)) 3 0 ([(h0, .inr (4, [.ref (a2 0), .ref (a4 0), .ref (a6 0), .ref (a8 0), .null, .null, .null, .null, .int 0, .int 0, .long 0, .long 0]))] ++ (WShelf G a2 6 40 40 0 (upd (upd (upd (upd (upd (upd (fun _ => 0) 0 (-1 : Int32)) 1 (-1 : Int32)) 2 (-1 : Int32)) 3 (-1 : Int32)) 4 (-1 : Int32)) 5 (-1 : Int32)) (fun _ _ => 0) ++ (WShelf G a4 4 60 60 32 (upd (upd (upd (upd (fun _ => 0) 0 (-1 : Int32)) 1 (-1 : Int32)) 2 (-1 : Int32)) 3 (-1 : Int32)) (fun _ _ => 0) ++ (WReader G a6 (fun _ => 0) 0 0 (-9) 0 ++ WLog G a8 (fun _ => 0) 0 (fun _ _ => 0) (upd (upd (upd (fun _ => 0) 0 (-1 : Int32)) 1 (-1 : Int32)) 2 (-1 : Int32)))))) dX6_init_55 fl_X6_31 inX6 tyX6_ok nmX6 rfl (by decide) ⟨rfl, rfl, rfl, rfl, rfl⟩ rfl rfl rfl rfl rfl ?_
  refine x_aload_n dX6_init_58 0 rfl rfl ?_
  refine x_iconst (4 : Int32) dX6_init_59 (by decide) ?_
  refine x_newa (a0 := (4, .inl (fun _ => 0))) 0 4 dX6_init_60 ac_int rfl rfl x_nm_int (fun cA => rfl) (by decide) (by decide) (by decide) (by decide) (fun q9 => ?_)
  refine x_ws (ws' := ([(h0, .inr (4, [.ref (a2 0), .ref (a4 0), .ref (a6 0), .ref (a8 0), .null, .null, .null, .null, .int 0, .int 0, .long 0, .long 0]))] ++ (WShelf G a2 6 40 40 0 (upd (upd (upd (upd (upd (upd (fun _ => 0) 0 (-1 : Int32)) 1 (-1 : Int32)) 2 (-1 : Int32)) 3 (-1 : Int32)) 4 (-1 : Int32)) 5 (-1 : Int32)) (fun _ _ => 0) ++ (WShelf G a4 4 60 60 32 (upd (upd (upd (upd (fun _ => 0) 0 (-1 : Int32)) 1 (-1 : Int32)) 2 (-1 : Int32)) 3 (-1 : Int32)) (fun _ _ => 0) ++ (WReader G a6 (fun _ => 0) 0 0 (-9) 0 ++ (WLog G a8 (fun _ => 0) 0 (fun _ _ => 0) (upd (upd (upd (fun _ => 0) 0 (-1 : Int32)) 1 (-1 : Int32)) 2 (-1 : Int32)) ++ [(q9, .inl (G.2 0, 4, .inl (fun _ => 0)))])))))) (by first | rfl | simp only [List.append_assoc, List.append_nil, List.nil_append, List.cons_append]) ?_
  refine x_putF (ci := 4) (ty := (.array .int)) 4 0 ([(h0, .inr (4, [.ref (a2 0), .ref (a4 0), .ref (a6 0), .ref (a8 0), .ref q9, .null, .null, .null, .int 0, .int 0, .long 0, .long 0]))] ++ (WShelf G a2 6 40 40 0 (upd (upd (upd (upd (upd (upd (fun _ => 0) 0 (-1 : Int32)) 1 (-1 : Int32)) 2 (-1 : Int32)) 3 (-1 : Int32)) 4 (-1 : Int32)) 5 (-1 : Int32)) (fun _ _ => 0) ++ (WShelf G a4 4 60 60 32 (upd (upd (upd (upd (fun _ => 0) 0 (-1 : Int32)) 1 (-1 : Int32)) 2 (-1 : Int32)) 3 (-1 : Int32)) (fun _ _ => 0) ++ (WReader G a6 (fun _ => 0) 0 0 (-9) 0 ++ (WLog G a8 (fun _ => 0) 0 (fun _ _ => 0) (upd (upd (upd (fun _ => 0) 0 (-1 : Int32)) 1 (-1 : Int32)) 2 (-1 : Int32)) ++ [(q9, .inl (G.2 0, 4, .inl (fun _ => 0)))]))))) dX6_init_62 fl_X6_35 inX6 tyX6_ok nmX6 rfl (by decide) ⟨rfl, rfl, rfl, rfl, rfl⟩ rfl rfl rfl rfl rfl ?_
  refine x_aload_n dX6_init_65 0 rfl rfl ?_
  refine x_bipush (6 : Int32) dX6_init_66 (by decide) ?_
  refine x_newa (a0 := (6, .inl (fun _ => 0))) 0 6 dX6_init_68 ac_int rfl rfl x_nm_int (fun cA => rfl) (by decide) (by decide) (by decide) (by decide) (fun q10 => ?_)
  refine x_ws (ws' := ([(h0, .inr (4, [.ref (a2 0), .ref (a4 0), .ref (a6 0), .ref (a8 0), .ref q9, .null, .null, .null, .int 0, .int 0, .long 0, .long 0]))] ++ (WShelf G a2 6 40 40 0 (upd (upd (upd (upd (upd (upd (fun _ => 0) 0 (-1 : Int32)) 1 (-1 : Int32)) 2 (-1 : Int32)) 3 (-1 : Int32)) 4 (-1 : Int32)) 5 (-1 : Int32)) (fun _ _ => 0) ++ (WShelf G a4 4 60 60 32 (upd (upd (upd (upd (fun _ => 0) 0 (-1 : Int32)) 1 (-1 : Int32)) 2 (-1 : Int32)) 3 (-1 : Int32)) (fun _ _ => 0) ++ (WReader G a6 (fun _ => 0) 0 0 (-9) 0 ++ (WLog G a8 (fun _ => 0) 0 (fun _ _ => 0) (upd (upd (upd (fun _ => 0) 0 (-1 : Int32)) 1 (-1 : Int32)) 2 (-1 : Int32)) ++ [(q9, .inl (G.2 0, 4, .inl (fun _ => 0))), (q10, .inl (G.2 0, 6, .inl (fun _ => 0)))])))))) (by first | rfl | simp only [List.append_assoc, List.append_nil, List.nil_append, List.cons_append]) ?_
  refine x_putF (ci := 4) (ty := (.array .int)) 5 0 ([(h0, .inr (4, [.ref (a2 0), .ref (a4 0), .ref (a6 0), .ref (a8 0), .ref q9, .ref q10, .null, .null, .int 0, .int 0, .long 0, .long 0]))] ++ (WShelf G a2 6 40 40 0 (upd (upd (upd (upd (upd (upd (fun _ => 0) 0 (-1 : Int32)) 1 (-1 : Int32)) 2 (-1 : Int32)) 3 (-1 : Int32)) 4 (-1 : Int32)) 5 (-1 : Int32)) (fun _ _ => 0) ++ (WShelf G a4 4 60 60 32 (upd (upd (upd (upd (fun _ => 0) 0 (-1 : Int32)) 1 (-1 : Int32)) 2 (-1 : Int32)) 3 (-1 : Int32)) (fun _ _ => 0) ++ (WReader G a6 (fun _ => 0) 0 0 (-9) 0 ++ (WLog G a8 (fun _ => 0) 0 (fun _ _ => 0) (upd (upd (upd (fun _ => 0) 0 (-1 : Int32)) 1 (-1 : Int32)) 2 (-1 : Int32)) ++ [(q9, .inl (G.2 0, 4, .inl (fun _ => 0))), (q10, .inl (G.2 0, 6, .inl (fun _ => 0)))]))))) dX6_init_70 fl_X6_39 inX6 tyX6_ok nmX6 rfl (by decide) ⟨rfl, rfl, rfl, rfl, rfl⟩ rfl rfl rfl rfl rfl ?_
  refine x_aload_n dX6_init_73 0 rfl rfl ?_
  refine x_new (ci := 2) (fs := [.int 0, .int 0, .long 0, .int 0, .null, .null, .null, .null, .null]) dX6_init_74 cl_X6_42 it_X2 ni_X2 inX2 tyX2_ok rfl dv_X2 (by decide) (fun q11 => ?_)
  refine x_ws (ws' := ([(h0, .inr (4, [.ref (a2 0), .ref (a4 0), .ref (a6 0), .ref (a8 0), .ref q9, .ref q10, .null, .null, .int 0, .int 0, .long 0, .long 0]))] ++ (WShelf G a2 6 40 40 0 (upd (upd (upd (upd (upd (upd (fun _ => 0) 0 (-1 : Int32)) 1 (-1 : Int32)) 2 (-1 : Int32)) 3 (-1 : Int32)) 4 (-1 : Int32)) 5 (-1 : Int32)) (fun _ _ => 0) ++ (WShelf G a4 4 60 60 32 (upd (upd (upd (upd (fun _ => 0) 0 (-1 : Int32)) 1 (-1 : Int32)) 2 (-1 : Int32)) 3 (-1 : Int32)) (fun _ _ => 0) ++ (WReader G a6 (fun _ => 0) 0 0 (-9) 0 ++ (WLog G a8 (fun _ => 0) 0 (fun _ _ => 0) (upd (upd (upd (fun _ => 0) 0 (-1 : Int32)) 1 (-1 : Int32)) 2 (-1 : Int32)) ++ [(q9, .inl (G.2 0, 4, .inl (fun _ => 0))), (q10, .inl (G.2 0, 6, .inl (fun _ => 0))), (q11, .inr (2, [.int 0, .int 0, .long 0, .int 0, .null, .null, .null, .null, .null]))])))))) (by first | rfl | simp only [List.append_assoc, List.append_nil, List.nil_append, List.cons_append]) ?_
  refine x_dup dX6_init_77 rfl ?_
  refine x_callIN (As := []) (wc := [(q11, .inr (2, [.int 0, .int 0, .long 0, .int 0, .null, .null, .null, .null, .null]))]) (pre := ([(h0, .inr (4, [.ref (a2 0), .ref (a4 0), .ref (a6 0), .ref (a8 0), .ref q9, .ref q10, .null, .null, .int 0, .int 0, .long 0, .long 0]))] ++ (WShelf G a2 6 40 40 0 (upd (upd (upd (upd (upd (upd (fun _ => 0) 0 (-1 : Int32)) 1 (-1 : Int32)) 2 (-1 : Int32)) 3 (-1 : Int32)) 4 (-1 : Int32)) 5 (-1 : Int32)) (fun _ _ => 0) ++ (WShelf G a4 4 60 60 32 (upd (upd (upd (upd (fun _ => 0) 0 (-1 : Int32)) 1 (-1 : Int32)) 2 (-1 : Int32)) 3 (-1 : Int32)) (fun _ _ => 0) ++ (WReader G a6 (fun _ => 0) 0 0 (-9) 0 ++ (WLog G a8 (fun _ => 0) 0 (fun _ _ => 0) (upd (upd (upd (fun _ => 0) 0 (-1 : Int32)) 1 (-1 : Int32)) 2 (-1 : Int32)) ++ [(q9, .inl (G.2 0, 4, .inl (fun _ => 0))), (q10, .inl (G.2 0, 6, .inl (fun _ => 0)))])))))) (post := []) (rest := [.ref q11, .ref h0]) dX6_init_78 (k_X2_init (h0 := q11)) pi_X2_init (fun s hs => hs.2.1) (by first | rfl | simp only [List.append_assoc, List.append_nil, List.nil_append, List.cons_append]) rfl rfl rfl (by decide) (fun v w hv => ?_)
  obtain ⟨rfl, a12, ha12, rfl⟩ := hv
  subst ha12
  refine x_ws (ws' := ([(h0, .inr (4, [.ref (a2 0), .ref (a4 0), .ref (a6 0), .ref (a8 0), .ref q9, .ref q10, .null, .null, .int 0, .int 0, .long 0, .long 0]))] ++ (WShelf G a2 6 40 40 0 (upd (upd (upd (upd (upd (upd (fun _ => 0) 0 (-1 : Int32)) 1 (-1 : Int32)) 2 (-1 : Int32)) 3 (-1 : Int32)) 4 (-1 : Int32)) 5 (-1 : Int32)) (fun _ _ => 0) ++ (WShelf G a4 4 60 60 32 (upd (upd (upd (upd (fun _ => 0) 0 (-1 : Int32)) 1 (-1 : Int32)) 2 (-1 : Int32)) 3 (-1 : Int32)) (fun _ _ => 0) ++ (WReader G a6 (fun _ => 0) 0 0 (-9) 0 ++ (WLog G a8 (fun _ => 0) 0 (fun _ _ => 0) (upd (upd (upd (fun _ => 0) 0 (-1 : Int32)) 1 (-1 : Int32)) 2 (-1 : Int32)) ++ ([(q9, .inl (G.2 0, 4, .inl (fun _ => 0))), (q10, .inl (G.2 0, 6, .inl (fun _ => 0)))] ++ WRig G a12 0 0 0 0 (fun _ => 0) (fun _ => 0) (fun _ => 0) (fun _ => 0) (fun _ => 0)))))))) (by simp only [List.append_assoc, List.append_nil, List.nil_append, List.cons_append]) ?_
  refine x_put (ci := 4) (ty := (.object RX2)) 6 0 ([(h0, .inr (4, [.ref (a2 0), .ref (a4 0), .ref (a6 0), .ref (a8 0), .ref q9, .ref q10, .ref (a12 0), .null, .int 0, .int 0, .long 0, .long 0]))] ++ (WShelf G a2 6 40 40 0 (upd (upd (upd (upd (upd (upd (fun _ => 0) 0 (-1 : Int32)) 1 (-1 : Int32)) 2 (-1 : Int32)) 3 (-1 : Int32)) 4 (-1 : Int32)) 5 (-1 : Int32)) (fun _ _ => 0) ++ (WShelf G a4 4 60 60 32 (upd (upd (upd (upd (fun _ => 0) 0 (-1 : Int32)) 1 (-1 : Int32)) 2 (-1 : Int32)) 3 (-1 : Int32)) (fun _ _ => 0) ++ (WReader G a6 (fun _ => 0) 0 0 (-9) 0 ++ (WLog G a8 (fun _ => 0) 0 (fun _ _ => 0) (upd (upd (upd (fun _ => 0) 0 (-1 : Int32)) 1 (-1 : Int32)) 2 (-1 : Int32)) ++ ([(q9, .inl (G.2 0, 4, .inl (fun _ => 0))), (q10, .inl (G.2 0, 6, .inl (fun _ => 0)))] ++ WRig G a12 0 0 0 0 (fun _ => 0) (fun _ => 0) (fun _ => 0) (fun _ => 0) (fun _ => 0))))))) dX6_init_81 fl_X6_45 inX6 tyX6_ok nmX6 rfl (by decide) ⟨rfl, rfl, rfl, rfl, rfl⟩ rfl rfl rfl rfl rfl ?_
  refine x_aload_n dX6_init_84 0 rfl rfl ?_
  refine x_new (ci := 2) (fs := [.int 0, .int 0, .long 0, .int 0, .null, .null, .null, .null, .null]) dX6_init_85 cl_X6_42 it_X2 ni_X2 inX2 tyX2_ok rfl dv_X2 (by decide) (fun q13 => ?_)
  refine x_ws (ws' := ([(h0, .inr (4, [.ref (a2 0), .ref (a4 0), .ref (a6 0), .ref (a8 0), .ref q9, .ref q10, .ref (a12 0), .null, .int 0, .int 0, .long 0, .long 0]))] ++ (WShelf G a2 6 40 40 0 (upd (upd (upd (upd (upd (upd (fun _ => 0) 0 (-1 : Int32)) 1 (-1 : Int32)) 2 (-1 : Int32)) 3 (-1 : Int32)) 4 (-1 : Int32)) 5 (-1 : Int32)) (fun _ _ => 0) ++ (WShelf G a4 4 60 60 32 (upd (upd (upd (upd (fun _ => 0) 0 (-1 : Int32)) 1 (-1 : Int32)) 2 (-1 : Int32)) 3 (-1 : Int32)) (fun _ _ => 0) ++ (WReader G a6 (fun _ => 0) 0 0 (-9) 0 ++ (WLog G a8 (fun _ => 0) 0 (fun _ _ => 0) (upd (upd (upd (fun _ => 0) 0 (-1 : Int32)) 1 (-1 : Int32)) 2 (-1 : Int32)) ++ ([(q9, .inl (G.2 0, 4, .inl (fun _ => 0))), (q10, .inl (G.2 0, 6, .inl (fun _ => 0)))] ++ (WRig G a12 0 0 0 0 (fun _ => 0) (fun _ => 0) (fun _ => 0) (fun _ => 0) (fun _ => 0) ++ [(q13, .inr (2, [.int 0, .int 0, .long 0, .int 0, .null, .null, .null, .null, .null]))])))))))) (by first | rfl | simp only [List.append_assoc, List.append_nil, List.nil_append, List.cons_append]) ?_
  refine x_dup dX6_init_88 rfl ?_
  refine x_callIN (As := []) (wc := [(q13, .inr (2, [.int 0, .int 0, .long 0, .int 0, .null, .null, .null, .null, .null]))]) (pre := ([(h0, .inr (4, [.ref (a2 0), .ref (a4 0), .ref (a6 0), .ref (a8 0), .ref q9, .ref q10, .ref (a12 0), .null, .int 0, .int 0, .long 0, .long 0]))] ++ (WShelf G a2 6 40 40 0 (upd (upd (upd (upd (upd (upd (fun _ => 0) 0 (-1 : Int32)) 1 (-1 : Int32)) 2 (-1 : Int32)) 3 (-1 : Int32)) 4 (-1 : Int32)) 5 (-1 : Int32)) (fun _ _ => 0) ++ (WShelf G a4 4 60 60 32 (upd (upd (upd (upd (fun _ => 0) 0 (-1 : Int32)) 1 (-1 : Int32)) 2 (-1 : Int32)) 3 (-1 : Int32)) (fun _ _ => 0) ++ (WReader G a6 (fun _ => 0) 0 0 (-9) 0 ++ (WLog G a8 (fun _ => 0) 0 (fun _ _ => 0) (upd (upd (upd (fun _ => 0) 0 (-1 : Int32)) 1 (-1 : Int32)) 2 (-1 : Int32)) ++ ([(q9, .inl (G.2 0, 4, .inl (fun _ => 0))), (q10, .inl (G.2 0, 6, .inl (fun _ => 0)))] ++ WRig G a12 0 0 0 0 (fun _ => 0) (fun _ => 0) (fun _ => 0) (fun _ => 0) (fun _ => 0)))))))) (post := []) (rest := [.ref q13, .ref h0]) dX6_init_89 (k_X2_init (h0 := q13)) pi_X2_init (fun s hs => hs.2.1) (by first | rfl | simp only [List.append_assoc, List.append_nil, List.nil_append, List.cons_append]) rfl rfl rfl (by decide) (fun v w hv => ?_)
  obtain ⟨rfl, a14, ha14, rfl⟩ := hv
  subst ha14
  refine x_ws (ws' := ([(h0, .inr (4, [.ref (a2 0), .ref (a4 0), .ref (a6 0), .ref (a8 0), .ref q9, .ref q10, .ref (a12 0), .null, .int 0, .int 0, .long 0, .long 0]))] ++ (WShelf G a2 6 40 40 0 (upd (upd (upd (upd (upd (upd (fun _ => 0) 0 (-1 : Int32)) 1 (-1 : Int32)) 2 (-1 : Int32)) 3 (-1 : Int32)) 4 (-1 : Int32)) 5 (-1 : Int32)) (fun _ _ => 0) ++ (WShelf G a4 4 60 60 32 (upd (upd (upd (upd (fun _ => 0) 0 (-1 : Int32)) 1 (-1 : Int32)) 2 (-1 : Int32)) 3 (-1 : Int32)) (fun _ _ => 0) ++ (WReader G a6 (fun _ => 0) 0 0 (-9) 0 ++ (WLog G a8 (fun _ => 0) 0 (fun _ _ => 0) (upd (upd (upd (fun _ => 0) 0 (-1 : Int32)) 1 (-1 : Int32)) 2 (-1 : Int32)) ++ ([(q9, .inl (G.2 0, 4, .inl (fun _ => 0))), (q10, .inl (G.2 0, 6, .inl (fun _ => 0)))] ++ (WRig G a12 0 0 0 0 (fun _ => 0) (fun _ => 0) (fun _ => 0) (fun _ => 0) (fun _ => 0) ++ WRig G a14 0 0 0 0 (fun _ => 0) (fun _ => 0) (fun _ => 0) (fun _ => 0) (fun _ => 0))))))))) (by simp only [List.append_assoc, List.append_nil, List.nil_append, List.cons_append]) ?_
  refine x_put (ci := 4) (ty := (.object RX2)) 7 0 ([(h0, .inr (4, [.ref (a2 0), .ref (a4 0), .ref (a6 0), .ref (a8 0), .ref q9, .ref q10, .ref (a12 0), .ref (a14 0), .int 0, .int 0, .long 0, .long 0]))] ++ (WShelf G a2 6 40 40 0 (upd (upd (upd (upd (upd (upd (fun _ => 0) 0 (-1 : Int32)) 1 (-1 : Int32)) 2 (-1 : Int32)) 3 (-1 : Int32)) 4 (-1 : Int32)) 5 (-1 : Int32)) (fun _ _ => 0) ++ (WShelf G a4 4 60 60 32 (upd (upd (upd (upd (fun _ => 0) 0 (-1 : Int32)) 1 (-1 : Int32)) 2 (-1 : Int32)) 3 (-1 : Int32)) (fun _ _ => 0) ++ (WReader G a6 (fun _ => 0) 0 0 (-9) 0 ++ (WLog G a8 (fun _ => 0) 0 (fun _ _ => 0) (upd (upd (upd (fun _ => 0) 0 (-1 : Int32)) 1 (-1 : Int32)) 2 (-1 : Int32)) ++ ([(q9, .inl (G.2 0, 4, .inl (fun _ => 0))), (q10, .inl (G.2 0, 6, .inl (fun _ => 0)))] ++ (WRig G a12 0 0 0 0 (fun _ => 0) (fun _ => 0) (fun _ => 0) (fun _ => 0) (fun _ => 0) ++ WRig G a14 0 0 0 0 (fun _ => 0) (fun _ => 0) (fun _ => 0) (fun _ => 0) (fun _ => 0)))))))) dX6_init_92 fl_X6_49 inX6 tyX6_ok nmX6 rfl (by decide) ⟨rfl, rfl, rfl, rfl, rfl⟩ rfl rfl rfl rfl rfl ?_
  refine x_aload_n dX6_init_95 0 rfl rfl ?_
  refine x_iconst (0 : Int32) dX6_init_96 (by decide) ?_
  refine x_put (ci := 4) (ty := .int) 8 0 ([(h0, .inr (4, [.ref (a2 0), .ref (a4 0), .ref (a6 0), .ref (a8 0), .ref q9, .ref q10, .ref (a12 0), .ref (a14 0), .int (0 : Int32), .int 0, .long 0, .long 0]))] ++ (WShelf G a2 6 40 40 0 (upd (upd (upd (upd (upd (upd (fun _ => 0) 0 (-1 : Int32)) 1 (-1 : Int32)) 2 (-1 : Int32)) 3 (-1 : Int32)) 4 (-1 : Int32)) 5 (-1 : Int32)) (fun _ _ => 0) ++ (WShelf G a4 4 60 60 32 (upd (upd (upd (upd (fun _ => 0) 0 (-1 : Int32)) 1 (-1 : Int32)) 2 (-1 : Int32)) 3 (-1 : Int32)) (fun _ _ => 0) ++ (WReader G a6 (fun _ => 0) 0 0 (-9) 0 ++ (WLog G a8 (fun _ => 0) 0 (fun _ _ => 0) (upd (upd (upd (fun _ => 0) 0 (-1 : Int32)) 1 (-1 : Int32)) 2 (-1 : Int32)) ++ ([(q9, .inl (G.2 0, 4, .inl (fun _ => 0))), (q10, .inl (G.2 0, 6, .inl (fun _ => 0)))] ++ (WRig G a12 0 0 0 0 (fun _ => 0) (fun _ => 0) (fun _ => 0) (fun _ => 0) (fun _ => 0) ++ WRig G a14 0 0 0 0 (fun _ => 0) (fun _ => 0) (fun _ => 0) (fun _ => 0) (fun _ => 0)))))))) dX6_init_97 fl_X6_52 inX6 tyX6_ok nmX6 rfl (by decide) ⟨rfl, rfl, rfl, rfl, rfl⟩ rfl rfl rfl rfl rfl ?_
  refine x_aload_n dX6_init_100 0 rfl rfl ?_
  refine x_iconst (0 : Int32) dX6_init_101 (by decide) ?_
  refine x_put (ci := 4) (ty := .int) 9 0 ([(h0, .inr (4, [.ref (a2 0), .ref (a4 0), .ref (a6 0), .ref (a8 0), .ref q9, .ref q10, .ref (a12 0), .ref (a14 0), .int (0 : Int32), .int (0 : Int32), .long 0, .long 0]))] ++ (WShelf G a2 6 40 40 0 (upd (upd (upd (upd (upd (upd (fun _ => 0) 0 (-1 : Int32)) 1 (-1 : Int32)) 2 (-1 : Int32)) 3 (-1 : Int32)) 4 (-1 : Int32)) 5 (-1 : Int32)) (fun _ _ => 0) ++ (WShelf G a4 4 60 60 32 (upd (upd (upd (upd (fun _ => 0) 0 (-1 : Int32)) 1 (-1 : Int32)) 2 (-1 : Int32)) 3 (-1 : Int32)) (fun _ _ => 0) ++ (WReader G a6 (fun _ => 0) 0 0 (-9) 0 ++ (WLog G a8 (fun _ => 0) 0 (fun _ _ => 0) (upd (upd (upd (fun _ => 0) 0 (-1 : Int32)) 1 (-1 : Int32)) 2 (-1 : Int32)) ++ ([(q9, .inl (G.2 0, 4, .inl (fun _ => 0))), (q10, .inl (G.2 0, 6, .inl (fun _ => 0)))] ++ (WRig G a12 0 0 0 0 (fun _ => 0) (fun _ => 0) (fun _ => 0) (fun _ => 0) (fun _ => 0) ++ WRig G a14 0 0 0 0 (fun _ => 0) (fun _ => 0) (fun _ => 0) (fun _ => 0) (fun _ => 0)))))))) dX6_init_102 fl_X6_56 inX6 tyX6_ok nmX6 rfl (by decide) ⟨rfl, rfl, rfl, rfl, rfl⟩ rfl rfl rfl rfl rfl ?_
  refine x_aload_n dX6_init_105 0 rfl rfl ?_
  refine x_lconst 0 dX6_init_106 (by decide) ?_
  refine x_put (ci := 4) (ty := .long) 10 0 ([(h0, .inr (4, [.ref (a2 0), .ref (a4 0), .ref (a6 0), .ref (a8 0), .ref q9, .ref q10, .ref (a12 0), .ref (a14 0), .int (0 : Int32), .int (0 : Int32), .long (0 : Int64), .long 0]))] ++ (WShelf G a2 6 40 40 0 (upd (upd (upd (upd (upd (upd (fun _ => 0) 0 (-1 : Int32)) 1 (-1 : Int32)) 2 (-1 : Int32)) 3 (-1 : Int32)) 4 (-1 : Int32)) 5 (-1 : Int32)) (fun _ _ => 0) ++ (WShelf G a4 4 60 60 32 (upd (upd (upd (upd (fun _ => 0) 0 (-1 : Int32)) 1 (-1 : Int32)) 2 (-1 : Int32)) 3 (-1 : Int32)) (fun _ _ => 0) ++ (WReader G a6 (fun _ => 0) 0 0 (-9) 0 ++ (WLog G a8 (fun _ => 0) 0 (fun _ _ => 0) (upd (upd (upd (fun _ => 0) 0 (-1 : Int32)) 1 (-1 : Int32)) 2 (-1 : Int32)) ++ ([(q9, .inl (G.2 0, 4, .inl (fun _ => 0))), (q10, .inl (G.2 0, 6, .inl (fun _ => 0)))] ++ (WRig G a12 0 0 0 0 (fun _ => 0) (fun _ => 0) (fun _ => 0) (fun _ => 0) (fun _ => 0) ++ WRig G a14 0 0 0 0 (fun _ => 0) (fun _ => 0) (fun _ => 0) (fun _ => 0) (fun _ => 0)))))))) dX6_init_107 fl_X6_59 inX6 tyX6_ok nmX6 rfl (by decide) ⟨rfl, rfl, rfl, rfl, rfl⟩ rfl rfl rfl rfl rfl ?_
  refine x_aload_n dX6_init_110 0 rfl rfl ?_
  refine x_lconst 1 dX6_init_111 (by decide) ?_
  refine x_put (ci := 4) (ty := .long) 11 0 ([(h0, .inr (4, [.ref (a2 0), .ref (a4 0), .ref (a6 0), .ref (a8 0), .ref q9, .ref q10, .ref (a12 0), .ref (a14 0), .int (0 : Int32), .int (0 : Int32), .long (0 : Int64), .long (1 : Int64)]))] ++ (WShelf G a2 6 40 40 0 (upd (upd (upd (upd (upd (upd (fun _ => 0) 0 (-1 : Int32)) 1 (-1 : Int32)) 2 (-1 : Int32)) 3 (-1 : Int32)) 4 (-1 : Int32)) 5 (-1 : Int32)) (fun _ _ => 0) ++ (WShelf G a4 4 60 60 32 (upd (upd (upd (upd (fun _ => 0) 0 (-1 : Int32)) 1 (-1 : Int32)) 2 (-1 : Int32)) 3 (-1 : Int32)) (fun _ _ => 0) ++ (WReader G a6 (fun _ => 0) 0 0 (-9) 0 ++ (WLog G a8 (fun _ => 0) 0 (fun _ _ => 0) (upd (upd (upd (fun _ => 0) 0 (-1 : Int32)) 1 (-1 : Int32)) 2 (-1 : Int32)) ++ ([(q9, .inl (G.2 0, 4, .inl (fun _ => 0))), (q10, .inl (G.2 0, 6, .inl (fun _ => 0)))] ++ (WRig G a12 0 0 0 0 (fun _ => 0) (fun _ => 0) (fun _ => 0) (fun _ => 0) (fun _ => 0) ++ WRig G a14 0 0 0 0 (fun _ => 0) (fun _ => 0) (fun _ => 0) (fun _ => 0) (fun _ => 0)))))))) dX6_init_112 fl_X6_63 inX6 tyX6_ok nmX6 rfl (by decide) ⟨rfl, rfl, rfl, rfl, rfl⟩ rfl rfl rfl rfl rfl ?_
  refine x_perm (ws' := WO G (fun _ => h0) a2 a8 (fun _ => q10) a4 a6 a12 a14 (fun _ => q9) 0 0 0 1 ++ (WShelf G a2 6 40 40 0 (upd (upd (upd (upd (upd (upd (fun _ => 0) 0 (-1 : Int32)) 1 (-1 : Int32)) 2 (-1 : Int32)) 3 (-1 : Int32)) 4 (-1 : Int32)) 5 (-1 : Int32)) (fun _ _ => 0) ++ (WLog G a8 (fun _ => 0) 0 (fun _ _ => 0) (upd (upd (upd (fun _ => 0) 0 (-1 : Int32)) 1 (-1 : Int32)) 2 (-1 : Int32)) ++ (WArr G (fun _ => q10) 6 (fun _ => 0) ++ (WShelf G a4 4 60 60 32 (upd (upd (upd (upd (fun _ => 0) 0 (-1 : Int32)) 1 (-1 : Int32)) 2 (-1 : Int32)) 3 (-1 : Int32)) (fun _ _ => 0) ++ (WReader G a6 (fun _ => 0) 0 0 (-9) 0 ++ (WRig G a14 0 0 0 0 (fun _ => 0) (fun _ => 0) (fun _ => 0) (fun _ => 0) (fun _ => 0) ++ (WRig G a12 0 0 0 0 (fun _ => 0) (fun _ => 0) (fun _ => 0) (fun _ => 0) (fun _ => 0) ++ WArr G (fun _ => q9) 4 (fun _ => 0))))))))) [0, 1, 2, 3, 4, 5, 6, 7, 8, 9, 19, 20, 21, 22, 23, 24, 25, 27, 10, 11, 12, 13, 14, 15, 16, 17, 18, 34, 35, 36, 37, 38, 39, 28, 29, 30, 31, 32, 33, 26] (by decide) rfl ?_
  exact x_return dX6_init_115 ⟨rfl, (fun _ => h0), a2, a8, (fun _ => q10), a4, a6, a12, a14, (fun _ => q9), rfl, rfl⟩
