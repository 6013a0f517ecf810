theorem pk_X2_clear : x_pv RX2 yX2_clear cX2_clear 1 none 0 := ⟨⟨co_X2_clear, ni_X2, by decide, by decide +kernel⟩, im_X2_clear, se_X2_clear⟩
def M_X2_clear (ropes : Int32) (acts : Int32) (start : Int64) (reached : Int32) : Int32 × Int32 × Int64 × Int32 :=
  ((0 : Int32), (0 : Int32), (0 : Int64), (0 : Int32))
set_option maxHeartbeats 4000000 in
set_option maxRecDepth 100000 in
theorem c_X2_clear {G : x_G} {l : Launch} {b : Nat → Nat} {kinds : (Nat → Int32)} {strengths : (Nat → Int32)} {moved : (Nat → Int32)} {needs : (Nat → Int32)} {forbids : (Nat → Int32)} {ropes : Int32} {acts : Int32} {start : Int64} {reached : Int32} {res : Int32 × Int32 × Int64 × Int32} (h : M_X2_clear ropes acts start reached = res) : x_M G l yX2_clear cX2_clear 1 none (0) 0 0 [.ref (b 0)] (WRig G b ropes acts start reached kinds strengths moved needs forbids) (x_is none (WRig G b res.1 res.2.1 res.2.2.1 res.2.2.2 kinds strengths moved needs forbids)) := by
  unfold M_X2_clear at h
  refine x_enter (ini := false) (by decide) rfl (by decide) rfl (Nat.le_of_ble_eq_true rfl) ?_
  refine x_aload_n dX2_clear_0 0 rfl rfl ?_
  refine x_iconst 0 dX2_clear_1 (by decide) ?_
  refine x_put (ci := 2) (ty := .int) 0 0 (WRig G b ((0 : Int32)) acts start reached kinds strengths moved needs forbids) dX2_clear_2 fl_X2_9 inX2 tyX2_ok nmX2 rfl (by decide) ⟨rfl, rfl, rfl, rfl, rfl⟩ rfl rfl rfl rfl rfl ?_
  refine x_aload_n dX2_clear_5 0 rfl rfl ?_
  refine x_iconst 0 dX2_clear_6 (by decide) ?_
  refine x_put (ci := 2) (ty := .int) 1 0 (WRig G b ((0 : Int32)) ((0 : Int32)) start reached kinds strengths moved needs forbids) dX2_clear_7 fl_X2_15 inX2 tyX2_ok nmX2 rfl (by decide) ⟨rfl, rfl, rfl, rfl, rfl⟩ rfl rfl rfl rfl rfl ?_
  refine x_aload_n dX2_clear_10 0 rfl rfl ?_
  refine x_lconst 0 dX2_clear_11 (by decide) ?_
  refine x_put (ci := 2) (ty := .long) 2 0 (WRig G b ((0 : Int32)) ((0 : Int32)) ((0 : Int64)) reached kinds strengths moved needs forbids) dX2_clear_12 fl_X2_18 inX2 tyX2_ok nmX2 rfl (by decide) ⟨rfl, rfl, rfl, rfl, rfl⟩ rfl rfl rfl rfl rfl ?_
  refine x_aload_n dX2_clear_15 0 rfl rfl ?_
  refine x_iconst 0 dX2_clear_16 (by decide) ?_
  refine x_put (ci := 2) (ty := .int) 3 0 (WRig G b ((0 : Int32)) ((0 : Int32)) ((0 : Int64)) ((0 : Int32)) kinds strengths moved needs forbids) dX2_clear_17 fl_X2_22 inX2 tyX2_ok nmX2 rfl (by decide) ⟨rfl, rfl, rfl, rfl, rfl⟩ rfl rfl rfl rfl rfl ?_
  subst h
  exact x_return dX2_clear_20 (x_is.rf _ _)
theorem pk_X2_addAct : x_pv RX2 yX2_addAct cX2_addAct 3 none 2 := ⟨⟨co_X2_addAct, ni_X2, by decide, by decide +kernel⟩, im_X2_addAct, se_X2_addAct⟩
def M_X2_addAct (acts : Int32) (needs : (Nat → Int32)) (forbids : (Nat → Int32)) (x1 : Int32) (x2 : Int32) : Option (Int32 × (Nat → Int32) × (Nat → Int32)) :=
  if acts < 0 then
  (some (acts, needs, forbids))
  else
  (if (4 : Int32) ≤ acts then
  (some (acts, needs, forbids))
  else
  (if inb acts 4 then
  some ((acts + (1 : Int32)), (upd needs acts.toNatClampNeg x1), (upd forbids acts.toNatClampNeg x2))
  else none))
set_option maxHeartbeats 4000000 in
set_option maxRecDepth 100000 in
theorem c_X2_addAct {G : x_G} {l : Launch} {b : Nat → Nat} {ropes : Int32} {start : Int64} {reached : Int32} {kinds : (Nat → Int32)} {strengths : (Nat → Int32)} {moved : (Nat → Int32)} {acts : Int32} {needs : (Nat → Int32)} {forbids : (Nat → Int32)} {x1 : Int32} {x2 : Int32} {res : Int32 × (Nat → Int32) × (Nat → Int32)} (h : M_X2_addAct acts needs forbids x1 x2 = some res) : x_M G l yX2_addAct cX2_addAct 3 none (0) 0 0 [.ref (b 0), .int x1, .int x2] (WRig G b ropes acts start reached kinds strengths moved needs forbids) (x_is none (WRig G b ropes res.1 start reached kinds strengths moved res.2.1 res.2.2)) := by
  unfold M_X2_addAct at h
  refine x_enter (ini := false) (by decide) rfl (by decide) rfl (Nat.le_of_ble_eq_true rfl) ?_
  refine x_aload_n dX2_addAct_0 0 rfl rfl ?_
  refine x_get (ci := 2) 1 0 dX2_addAct_1 fl_X2_15 inX2 rfl (by decide) ⟨rfl, rfl, rfl⟩ rfl rfl ?_
  refine x_if_lt 45 dX2_addAct_4 (by decide) (fun c1 => ?_) (fun c1 => ?_)
  · have h := x_pos c1 h
    cases h
    exact x_return dX2_addAct_45 (x_is.rf _ _)
  · have h := x_neg c1 h
    refine x_aload_n dX2_addAct_7 0 rfl rfl ?_
    refine x_get (ci := 2) 1 0 dX2_addAct_8 fl_X2_15 inX2 rfl (by decide) ⟨rfl, rfl, rfl⟩ rfl rfl ?_
    refine x_iconst 4 dX2_addAct_11 (by decide) ?_
    refine x_icmp_ge 45 dX2_addAct_12 (by decide) (fun c2 => ?_) (fun c2 => ?_)
    · have h := x_pos c2 h
      cases h
      exact x_return dX2_addAct_45 (x_is.rf _ _)
    · have h := x_neg c2 h
      refine x_aload_n dX2_addAct_15 0 rfl rfl ?_
      refine x_get (ci := 2) 7 0 dX2_addAct_16 fl_X2_35 inX2 rfl (by decide) ⟨rfl, rfl, rfl⟩ rfl rfl ?_
      refine x_aload_n dX2_addAct_19 0 rfl rfl ?_
      refine x_get (ci := 2) 1 0 dX2_addAct_20 fl_X2_15 inX2 rfl (by decide) ⟨rfl, rfl, rfl⟩ rfl rfl ?_
      refine x_iload_n dX2_addAct_23 1 rfl rfl ?_
      obtain ⟨b3, h⟩ := x_guard h
      refine x_iast acts.toNatClampNeg (q0 := 4) (WRig G b ropes acts start reached kinds strengths moved ((upd needs acts.toNatClampNeg x1)) forbids) dX2_addAct_24 rfl rfl b3 rfl ?_
      refine x_aload_n dX2_addAct_25 0 rfl rfl ?_
      refine x_get (ci := 2) 8 0 dX2_addAct_26 fl_X2_38 inX2 rfl (by decide) ⟨rfl, rfl, rfl⟩ rfl rfl ?_
      refine x_aload_n dX2_addAct_29 0 rfl rfl ?_
      refine x_get (ci := 2) 1 0 dX2_addAct_30 fl_X2_15 inX2 rfl (by decide) ⟨rfl, rfl, rfl⟩ rfl rfl ?_
      refine x_iload_n dX2_addAct_33 2 rfl rfl ?_
      refine x_iast acts.toNatClampNeg (q0 := 5) (WRig G b ropes acts start reached kinds strengths moved ((upd needs acts.toNatClampNeg x1)) ((upd forbids acts.toNatClampNeg x2))) dX2_addAct_34 rfl rfl b3 rfl ?_
      refine x_aload_n dX2_addAct_35 0 rfl rfl ?_
      refine x_dup dX2_addAct_36 rfl ?_
      refine x_get (ci := 2) 1 0 dX2_addAct_37 fl_X2_15 inX2 rfl (by decide) ⟨rfl, rfl, rfl⟩ rfl rfl ?_
      refine x_iconst 1 dX2_addAct_40 (by decide) ?_
      refine x_iadd dX2_addAct_41 ?_
      refine x_put (ci := 2) (ty := .int) 1 0 (WRig G b ropes ((acts + (1 : Int32))) start reached kinds strengths moved ((upd needs acts.toNatClampNeg x1)) ((upd forbids acts.toNatClampNeg x2))) dX2_addAct_42 fl_X2_15 inX2 tyX2_ok nmX2 rfl (by decide) ⟨rfl, rfl, rfl, rfl, rfl⟩ rfl rfl rfl rfl rfl ?_
      cases h
      exact x_return dX2_addAct_45 (x_is.rf _ _)
theorem pk_X2_addRope : x_pv RX2 yX2_addRope cX2_addRope 5 none 4 := ⟨⟨co_X2_addRope, ni_X2, by decide, by decide +kernel⟩, im_X2_addRope, se_X2_addRope⟩
def M_X2_addRope (ropes : Int32) (start : Int64) (kinds : (Nat → Int32)) (strengths : (Nat → Int32)) (moved : (Nat → Int32)) (x1 : Int32) (x2 : Int32) (x3 : Int32) (x4 : Int32) : Option (Int32 × Int64 × (Nat → Int32) × (Nat → Int32) × (Nat → Int32)) :=
  if ropes < 0 then
  (some (ropes, start, kinds, strengths, moved))
  else
  (if (6 : Int32) ≤ ropes then
  (some (ropes, start, kinds, strengths, moved))
  else
  (if inb ropes 6 then
  some ((ropes + (1 : Int32)), (M_X5_afterStrain start ropes x4), (upd kinds ropes.toNatClampNeg x1), (upd strengths ropes.toNatClampNeg x2), (upd moved ropes.toNatClampNeg x3))
  else none))
set_option maxHeartbeats 4000000 in
set_option maxRecDepth 100000 in
theorem c_X2_addRope {G : x_G} {l : Launch} {b : Nat → Nat} {acts : Int32} {reached : Int32} {needs : (Nat → Int32)} {forbids : (Nat → Int32)} {ropes : Int32} {start : Int64} {kinds : (Nat → Int32)} {strengths : (Nat → Int32)} {moved : (Nat → Int32)} {x1 : Int32} {x2 : Int32} {x3 : Int32} {x4 : Int32} {res : Int32 × Int64 × (Nat → Int32) × (Nat → Int32) × (Nat → Int32)} (h : M_X2_addRope ropes start kinds strengths moved x1 x2 x3 x4 = some res) : x_M G l yX2_addRope cX2_addRope 5 none (1) 0 0 [.ref (b 0), .int x1, .int x2, .int x3, .int x4] (WRig G b ropes acts start reached kinds strengths moved needs forbids) (x_is none (WRig G b res.1 acts res.2.1 reached res.2.2.1 res.2.2.2.1 res.2.2.2.2 needs forbids)) := by
  unfold M_X2_addRope at h
  refine x_enter (ini := false) (by decide) rfl (by decide) rfl (Nat.le_of_ble_eq_true rfl) ?_
  refine x_aload_n dX2_addRope_0 0 rfl rfl ?_
  refine x_get (ci := 2) 0 0 dX2_addRope_1 fl_X2_9 inX2 rfl (by decide) ⟨rfl, rfl, rfl⟩ rfl rfl ?_
  refine x_if_lt 73 dX2_addRope_4 (by decide) (fun c1 => ?_) (fun c1 => ?_)
  · have h := x_pos c1 h
    cases h
    exact x_return dX2_addRope_73 (x_is.rf _ _)
  · have h := x_neg c1 h
    refine x_aload_n dX2_addRope_7 0 rfl rfl ?_
    refine x_get (ci := 2) 0 0 dX2_addRope_8 fl_X2_9 inX2 rfl (by decide) ⟨rfl, rfl, rfl⟩ rfl rfl ?_
    refine x_bipush 6 dX2_addRope_11 (by decide) ?_
    refine x_icmp_ge 73 dX2_addRope_13 (by decide) (fun c2 => ?_) (fun c2 => ?_)
    · have h := x_pos c2 h
      cases h
      exact x_return dX2_addRope_73 (x_is.rf _ _)
    · have h := x_neg c2 h
      refine x_aload_n dX2_addRope_16 0 rfl rfl ?_
      refine x_get (ci := 2) 4 0 dX2_addRope_17 fl_X2_25 inX2 rfl (by decide) ⟨rfl, rfl, rfl⟩ rfl rfl ?_
      refine x_aload_n dX2_addRope_20 0 rfl rfl ?_
      refine x_get (ci := 2) 0 0 dX2_addRope_21 fl_X2_9 inX2 rfl (by decide) ⟨rfl, rfl, rfl⟩ rfl rfl ?_
      refine x_iload_n dX2_addRope_24 1 rfl rfl ?_
      obtain ⟨b3, h⟩ := x_guard h
      refine x_iast ropes.toNatClampNeg (q0 := 1) (WRig G b ropes acts start reached ((upd kinds ropes.toNatClampNeg x1)) strengths moved needs forbids) dX2_addRope_25 rfl rfl b3 rfl ?_
      refine x_aload_n dX2_addRope_26 0 rfl rfl ?_
      refine x_get (ci := 2) 5 0 dX2_addRope_27 fl_X2_29 inX2 rfl (by decide) ⟨rfl, rfl, rfl⟩ rfl rfl ?_
      refine x_aload_n dX2_addRope_30 0 rfl rfl ?_
      refine x_get (ci := 2) 0 0 dX2_addRope_31 fl_X2_9 inX2 rfl (by decide) ⟨rfl, rfl, rfl⟩ rfl rfl ?_
      refine x_iload_n dX2_addRope_34 2 rfl rfl ?_
      refine x_iast ropes.toNatClampNeg (q0 := 2) (WRig G b ropes acts start reached ((upd kinds ropes.toNatClampNeg x1)) ((upd strengths ropes.toNatClampNeg x2)) moved needs forbids) dX2_addRope_35 rfl rfl b3 rfl ?_
      refine x_aload_n dX2_addRope_36 0 rfl rfl ?_
      refine x_get (ci := 2) 6 0 dX2_addRope_37 fl_X2_32 inX2 rfl (by decide) ⟨rfl, rfl, rfl⟩ rfl rfl ?_
      refine x_aload_n dX2_addRope_40 0 rfl rfl ?_
      refine x_get (ci := 2) 0 0 dX2_addRope_41 fl_X2_9 inX2 rfl (by decide) ⟨rfl, rfl, rfl⟩ rfl rfl ?_
      refine x_iload_n dX2_addRope_44 3 rfl rfl ?_
      refine x_iast ropes.toNatClampNeg (q0 := 3) (WRig G b ropes acts start reached ((upd kinds ropes.toNatClampNeg x1)) ((upd strengths ropes.toNatClampNeg x2)) ((upd moved ropes.toNatClampNeg x3)) needs forbids) dX2_addRope_45 rfl rfl b3 rfl ?_
      refine x_aload_n dX2_addRope_46 0 rfl rfl ?_
      refine x_aload_n dX2_addRope_47 0 rfl rfl ?_
      refine x_get (ci := 2) 2 0 dX2_addRope_48 fl_X2_18 inX2 rfl (by decide) ⟨rfl, rfl, rfl⟩ rfl rfl ?_
      refine x_aload_n dX2_addRope_51 0 rfl rfl ?_
      refine x_get (ci := 2) 0 0 dX2_addRope_52 fl_X2_9 inX2 rfl (by decide) ⟨rfl, rfl, rfl⟩ rfl rfl ?_
      refine x_iload dX2_addRope_55 4 rfl ?_
      refine x_cS (As := [.long start, .int ropes, .int x4]) (wc := ([] : va_W)) (w1 := ([] : va_W)) (pre := []) (post := (WRig G b ropes acts start reached ((upd kinds ropes.toNatClampNeg x1)) ((upd strengths ropes.toNatClampNeg x2)) ((upd moved ropes.toNatClampNeg x3)) needs forbids)) (rest := [.ref (b 0)]) (st1 := [.long (M_X5_afterStrain start ropes x4), .ref (b 0)]) (ws1 := (WRig G b ropes acts start reached ((upd kinds ropes.toNatClampNeg x1)) ((upd strengths ropes.toNatClampNeg x2)) ((upd moved ropes.toNatClampNeg x3)) needs forbids)) dX2_addRope_57 (c_X5_afterStrain rfl) pk_X5_afterStrain ml_X2_41 rfl rfl rfl rfl rfl rfl rfl ?_
      refine x_put (ci := 2) (ty := .long) 2 0 (WRig G b ropes acts ((M_X5_afterStrain start ropes x4)) reached ((upd kinds ropes.toNatClampNeg x1)) ((upd strengths ropes.toNatClampNeg x2)) ((upd moved ropes.toNatClampNeg x3)) needs forbids) dX2_addRope_60 fl_X2_18 inX2 tyX2_ok nmX2 rfl (by decide) ⟨rfl, rfl, rfl, rfl, rfl⟩ rfl rfl rfl rfl rfl ?_
      refine x_aload_n dX2_addRope_63 0 rfl rfl ?_
      refine x_dup dX2_addRope_64 rfl ?_
      refine x_get (ci := 2) 0 0 dX2_addRope_65 fl_X2_9 inX2 rfl (by decide) ⟨rfl, rfl, rfl⟩ rfl rfl ?_
      refine x_iconst 1 dX2_addRope_68 (by decide) ?_
      refine x_iadd dX2_addRope_69 ?_
      refine x_put (ci := 2) (ty := .int) 0 0 (WRig G b ((ropes + (1 : Int32))) acts ((M_X5_afterStrain start ropes x4)) reached ((upd kinds ropes.toNatClampNeg x1)) ((upd strengths ropes.toNatClampNeg x2)) ((upd moved ropes.toNatClampNeg x3)) needs forbids) dX2_addRope_70 fl_X2_9 inX2 tyX2_ok nmX2 rfl (by decide) ⟨rfl, rfl, rfl, rfl, rfl⟩ rfl rfl rfl rfl rfl ?_
      cases h
      exact x_return dX2_addRope_73 (x_is.rf _ _)
theorem pk_X2_isRope : x_pv RX2 yX2_isRope cX2_isRope 2 (some .boolean) 1 := ⟨⟨co_X2_isRope, ni_X2, by decide, by decide +kernel⟩, im_X2_isRope, se_X2_isRope⟩
def M_X2_isRope (ropes : Int32) (x1 : Int32) : Int32 :=
  if x1 < 0 then
  ((0 : Int32))
  else
  (if ropes ≤ x1 then
  ((0 : Int32))
  else
  (if (6 : Int32) ≤ x1 then
  ((0 : Int32))
  else
  ((1 : Int32))))
theorem M_X2_isRope_b {ropes : Int32} {x1 : Int32} : narrow .boolean (.int (M_X2_isRope ropes x1)) = .int (M_X2_isRope ropes x1) := by
  simp only [M_X2_isRope]
  repeat' split
  all_goals first | rfl
set_option maxHeartbeats 4000000 in
set_option maxRecDepth 100000 in
theorem c_X2_isRope {G : x_G} {l : Launch} {b : Nat → Nat} {ropes : Int32} {acts : Int32} {start : Int64} {reached : Int32} {kinds : (Nat → Int32)} {strengths : (Nat → Int32)} {moved : (Nat → Int32)} {needs : (Nat → Int32)} {forbids : (Nat → Int32)} {x1 : Int32} {res : Int32} (h : M_X2_isRope ropes x1 = res) : x_M G l yX2_isRope cX2_isRope 2 (some .boolean) (0) 0 0 [.ref (b 0), .int x1] (WRig G b ropes acts start reached kinds strengths moved needs forbids) (x_is (some (.int res)) (WRig G b ropes acts start reached kinds strengths moved needs forbids)) := by
  unfold M_X2_isRope at h
  refine x_enter (ini := false) (by decide) rfl (by decide) rfl (Nat.le_of_ble_eq_true rfl) ?_
  refine x_iload_n dX2_isRope_0 1 rfl rfl ?_
  refine x_if_lt 22 dX2_isRope_1 (by decide) (fun c1 => ?_) (fun c1 => ?_)
  · have h := x_pos c1 h
    refine x_iconst 0 dX2_isRope_22 (by decide) ?_
    subst h
    exact x_ireturn dX2_isRope_23 rfl (x_is.rf _ _)
  · have h := x_neg c1 h
    refine x_iload_n dX2_isRope_4 1 rfl rfl ?_
    refine x_aload_n dX2_isRope_5 0 rfl rfl ?_
    refine x_get (ci := 2) 0 0 dX2_isRope_6 fl_X2_9 inX2 rfl (by decide) ⟨rfl, rfl, rfl⟩ rfl rfl ?_
    refine x_icmp_ge 22 dX2_isRope_9 (by decide) (fun c2 => ?_) (fun c2 => ?_)
    · have h := x_pos c2 h
      refine x_iconst 0 dX2_isRope_22 (by decide) ?_
      subst h
      exact x_ireturn dX2_isRope_23 rfl (x_is.rf _ _)
    · have h := x_neg c2 h
      refine x_iload_n dX2_isRope_12 1 rfl rfl ?_
      refine x_bipush 6 dX2_isRope_13 (by decide) ?_
      refine x_icmp_ge 22 dX2_isRope_15 (by decide) (fun c3 => ?_) (fun c3 => ?_)
      · have h := x_pos c3 h
        refine x_iconst 0 dX2_isRope_22 (by decide) ?_
        subst h
        exact x_ireturn dX2_isRope_23 rfl (x_is.rf _ _)
      · have h := x_neg c3 h
        refine x_iconst 1 dX2_isRope_18 (by decide) ?_
        refine x_goto 23 dX2_isRope_19 (by decide) ?_
        subst h
        exact x_ireturn dX2_isRope_23 rfl (x_is.rf _ _)
theorem pk_X2_kind : x_pv RX2 yX2_kind cX2_kind 2 (some .int) 1 := ⟨⟨co_X2_kind, ni_X2, by decide, by decide +kernel⟩, im_X2_kind, se_X2_kind⟩
def M_X2_kind (ropes : Int32) (kinds : (Nat → Int32)) (x1 : Int32) : Option (Int32) :=
  if (M_X2_isRope ropes x1) = 0 then
  (some (0 : Int32))
  else
  (if inb x1 6 then
  some (kinds x1.toNatClampNeg)
  else none)
set_option maxHeartbeats 4000000 in
set_option maxRecDepth 100000 in
theorem c_X2_kind {G : x_G} {l : Launch} {b : Nat → Nat} {ropes : Int32} {kinds : (Nat → Int32)} {acts : Int32} {start : Int64} {reached : Int32} {strengths : (Nat → Int32)} {moved : (Nat → Int32)} {needs : (Nat → Int32)} {forbids : (Nat → Int32)} {x1 : Int32} {res : Int32} (h : M_X2_kind ropes kinds x1 = some res) : x_M G l yX2_kind cX2_kind 2 (some .int) (1) 0 0 [.ref (b 0), .int x1] (WRig G b ropes acts start reached kinds strengths moved needs forbids) (x_is (some (.int res)) (WRig G b ropes acts start reached kinds strengths moved needs forbids)) := by
  unfold M_X2_kind at h
  refine x_enter (ini := false) (by decide) rfl (by decide) rfl (Nat.le_of_ble_eq_true rfl) ?_
  refine x_aload_n dX2_kind_0 0 rfl rfl ?_
  refine x_iload_n dX2_kind_1 1 rfl rfl ?_
  refine x_cV (As := [.int x1]) (wc := (WRig G b ropes acts start reached kinds strengths moved needs forbids)) (w1 := (WRig G b ropes acts start reached kinds strengths moved needs forbids)) (pre := []) (post := []) (rest := []) (st1 := [.int (M_X2_isRope ropes x1)]) (ws1 := (WRig G b ropes acts start reached kinds strengths moved needs forbids)) (ci := 2) 0 dX2_kind_2 (c_X2_isRope (b := b) rfl) pk_X2_isRope ml_X2_47 (x_full _) rfl rfl rfl rfl rfl rfl rfl rfl (x_full _).symm ?_
  refine x_if_eq 17 dX2_kind_5 (by decide) (fun c1 => ?_) (fun c1 => ?_)
  · have h := x_pos c1 h
    refine x_iconst 0 dX2_kind_17 (by decide) ?_
    cases h
    exact x_ireturn dX2_kind_18 rfl (x_is.rf _ _)
  · have h := x_neg c1 h
    refine x_aload_n dX2_kind_8 0 rfl rfl ?_
    refine x_get (ci := 2) 4 0 dX2_kind_9 fl_X2_25 inX2 rfl (by decide) ⟨rfl, rfl, rfl⟩ rfl rfl ?_
    refine x_iload_n dX2_kind_12 1 rfl rfl ?_
    obtain ⟨b2, h⟩ := x_guard h
    refine x_iald x1.toNatClampNeg (q0 := 1) dX2_kind_13 rfl rfl b2 ?_
    refine x_goto 18 dX2_kind_14 (by decide) ?_
    cases h
    exact x_ireturn dX2_kind_18 rfl (x_is.rf _ _)
theorem pk_X2_holds : x_pv RX2 yX2_holds cX2_holds 2 (some .int) 1 := ⟨⟨co_X2_holds, ni_X2, by decide, by decide +kernel⟩, im_X2_holds, se_X2_holds⟩
def M_X2_holds (ropes : Int32) (kinds : (Nat → Int32)) (strengths : (Nat → Int32)) (x1 : Int32) : Option (Int32) :=
  if (M_X2_isRope ropes x1) = 0 then
  (some (0 : Int32))
  else
  ((M_X2_kind ropes kinds x1).bind fun r2 =>
  if r2 = (2 : Int32) then
  (if inb x1 6 then
  some ((strengths x1.toNatClampNeg) - (1 : Int32))
  else none)
  else
  (if inb x1 6 then
  some (strengths x1.toNatClampNeg)
  else none))
set_option maxHeartbeats 4000000 in
set_option maxRecDepth 100000 in
theorem c_X2_holds {G : x_G} {l : Launch} {b : Nat → Nat} {ropes : Int32} {kinds : (Nat → Int32)} {strengths : (Nat → Int32)} {acts : Int32} {start : Int64} {reached : Int32} {moved : (Nat → Int32)} {needs : (Nat → Int32)} {forbids : (Nat → Int32)} {x1 : Int32} {res : Int32} (h : M_X2_holds ropes kinds strengths x1 = some res) : x_M G l yX2_holds cX2_holds 2 (some .int) (2) 0 0 [.ref (b 0), .int x1] (WRig G b ropes acts start reached kinds strengths moved needs forbids) (x_is (some (.int res)) (WRig G b ropes acts start reached kinds strengths moved needs forbids)) := by
  unfold M_X2_holds at h
  refine x_enter (ini := false) (by decide) rfl (by decide) rfl (Nat.le_of_ble_eq_true rfl) ?_
  refine x_aload_n dX2_holds_0 0 rfl rfl ?_
  refine x_iload_n dX2_holds_1 1 rfl rfl ?_
  refine x_cV (As := [.int x1]) (wc := (WRig G b ropes acts start reached kinds strengths moved needs forbids)) (w1 := (WRig G b ropes acts start reached kinds strengths moved needs forbids)) (pre := []) (post := []) (rest := []) (st1 := [.int (M_X2_isRope ropes x1)]) (ws1 := (WRig G b ropes acts start reached kinds strengths moved needs forbids)) (ci := 2) 0 dX2_holds_2 (c_X2_isRope (b := b) rfl) pk_X2_isRope ml_X2_47 (x_full _) rfl rfl rfl rfl rfl rfl rfl rfl (x_full _).symm ?_
  refine x_if_ne 12 dX2_holds_5 (by decide) (fun c1 => ?_) (fun c1 => ?_)
  · have h := x_neg c1 h
    refine x_aload_n dX2_holds_12 0 rfl rfl ?_
    refine x_iload_n dX2_holds_13 1 rfl rfl ?_
    obtain ⟨r2, e3, h⟩ := x_bind h
    refine x_cV (As := [.int x1]) (wc := (WRig G b ropes acts start reached kinds strengths moved needs forbids)) (w1 := (WRig G b ropes acts start reached kinds strengths moved needs forbids)) (pre := []) (post := []) (rest := []) (st1 := [.int r2]) (ws1 := (WRig G b ropes acts start reached kinds strengths moved needs forbids)) (ci := 2) 0 dX2_holds_14 (c_X2_kind (b := b) e3) pk_X2_kind ml_X2_51 (x_full _) rfl rfl rfl rfl rfl rfl rfl rfl (x_full _).symm ?_
    refine x_iconst 2 dX2_holds_17 (by decide) ?_
    refine x_icmp_ne 32 dX2_holds_18 (by decide) (fun c4 => ?_) (fun c4 => ?_)
    · have h := x_neg c4 h
      refine x_aload_n dX2_holds_32 0 rfl rfl ?_
      refine x_get (ci := 2) 5 0 dX2_holds_33 fl_X2_29 inX2 rfl (by decide) ⟨rfl, rfl, rfl⟩ rfl rfl ?_
      refine x_iload_n dX2_holds_36 1 rfl rfl ?_
      obtain ⟨b5, h⟩ := x_guard h
      refine x_iald x1.toNatClampNeg (q0 := 2) dX2_holds_37 rfl rfl b5 ?_
      cases h
      exact x_ireturn dX2_holds_38 rfl (x_is.rf _ _)
    · have h := x_pos c4 h
      refine x_aload_n dX2_holds_21 0 rfl rfl ?_
      refine x_get (ci := 2) 5 0 dX2_holds_22 fl_X2_29 inX2 rfl (by decide) ⟨rfl, rfl, rfl⟩ rfl rfl ?_
      refine x_iload_n dX2_holds_25 1 rfl rfl ?_
      obtain ⟨b6, h⟩ := x_guard h
      refine x_iald x1.toNatClampNeg (q0 := 2) dX2_holds_26 rfl rfl b6 ?_
      refine x_iconst 1 dX2_holds_27 (by decide) ?_
      refine x_isub dX2_holds_28 ?_
      refine x_goto 38 dX2_holds_29 (by decide) ?_
      cases h
      exact x_ireturn dX2_holds_38 rfl (x_is.rf _ _)
  · have h := x_pos c1 h
    refine x_iconst 0 dX2_holds_8 (by decide) ?_
    refine x_goto 38 dX2_holds_9 (by decide) ?_
    cases h
    exact x_ireturn dX2_holds_38 rfl (x_is.rf _ _)
theorem pk_X2_target : x_pv RX2 yX2_target cX2_target 2 (some .int) 1 := ⟨⟨co_X2_target, ni_X2, by decide, by decide +kernel⟩, im_X2_target, se_X2_target⟩
def M_X2_target (ropes : Int32) (moved : (Nat → Int32)) (x1 : Int32) : Option (Int32) :=
  if (M_X2_isRope ropes x1) = 0 then
  (some (-9 : Int32))
  else
  (if inb x1 6 then
  if (moved x1.toNatClampNeg) = x1 then
  (some (-9 : Int32))
  else
  (if (M_X2_isRope ropes (moved x1.toNatClampNeg)) = 0 then
  (some (-9 : Int32))
  else
  (some (moved x1.toNatClampNeg)))
  else none)
set_option maxHeartbeats 4000000 in
set_option maxRecDepth 100000 in
theorem c_X2_target {G : x_G} {l : Launch} {b : Nat → Nat} {ropes : Int32} {moved : (Nat → Int32)} {acts : Int32} {start : Int64} {reached : Int32} {kinds : (Nat → Int32)} {strengths : (Nat → Int32)} {needs : (Nat → Int32)} {forbids : (Nat → Int32)} {x1 : Int32} {res : Int32} (h : M_X2_target ropes moved x1 = some res) : x_M G l yX2_target cX2_target 2 (some .int) (1) 0 0 [.ref (b 0), .int x1] (WRig G b ropes acts start reached kinds strengths moved needs forbids) (x_is (some (.int res)) (WRig G b ropes acts start reached kinds strengths moved needs forbids)) := by
  unfold M_X2_target at h
  refine x_enter (ini := false) (by decide) rfl (by decide) rfl (Nat.le_of_ble_eq_true rfl) ?_
  refine x_aload_n dX2_target_0 0 rfl rfl ?_
  refine x_iload_n dX2_target_1 1 rfl rfl ?_
  refine x_cV (As := [.int x1]) (wc := (WRig G b ropes acts start reached kinds strengths moved needs forbids)) (w1 := (WRig G b ropes acts start reached kinds strengths moved needs forbids)) (pre := []) (post := []) (rest := []) (st1 := [.int (M_X2_isRope ropes x1)]) (ws1 := (WRig G b ropes acts start reached kinds strengths moved needs forbids)) (ci := 2) 0 dX2_target_2 (c_X2_isRope (b := b) rfl) pk_X2_isRope ml_X2_47 (x_full _) rfl rfl rfl rfl rfl rfl rfl rfl (x_full _).symm ?_
  refine x_if_eq 40 dX2_target_5 (by decide) (fun c1 => ?_) (fun c1 => ?_)
  · have h := x_pos c1 h
    refine x_bipush (-9 : Int32) dX2_target_40 (by decide) ?_
    cases h
    exact x_ireturn dX2_target_42 rfl (x_is.rf _ _)
  · have h := x_neg c1 h
    refine x_aload_n dX2_target_8 0 rfl rfl ?_
    refine x_get (ci := 2) 6 0 dX2_target_9 fl_X2_32 inX2 rfl (by decide) ⟨rfl, rfl, rfl⟩ rfl rfl ?_
    refine x_iload_n dX2_target_12 1 rfl rfl ?_
    obtain ⟨b2, h⟩ := x_guard h
    refine x_iald x1.toNatClampNeg (q0 := 3) dX2_target_13 rfl rfl b2 ?_
    refine x_iload_n dX2_target_14 1 rfl rfl ?_
    refine x_icmp_eq 40 dX2_target_15 (by decide) (fun c3 => ?_) (fun c3 => ?_)
    · have h := x_pos c3 h
      refine x_bipush (-9 : Int32) dX2_target_40 (by decide) ?_
      cases h
      exact x_ireturn dX2_target_42 rfl (x_is.rf _ _)
    · have h := x_neg c3 h
      refine x_aload_n dX2_target_18 0 rfl rfl ?_
      refine x_aload_n dX2_target_19 0 rfl rfl ?_
      refine x_get (ci := 2) 6 0 dX2_target_20 fl_X2_32 inX2 rfl (by decide) ⟨rfl, rfl, rfl⟩ rfl rfl ?_
      refine x_iload_n dX2_target_23 1 rfl rfl ?_
      refine x_iald x1.toNatClampNeg (q0 := 3) dX2_target_24 rfl rfl b2 ?_
      refine x_cV (As := [.int (moved x1.toNatClampNeg)]) (wc := (WRig G b ropes acts start reached kinds strengths moved needs forbids)) (w1 := (WRig G b ropes acts start reached kinds strengths moved needs forbids)) (pre := []) (post := []) (rest := []) (st1 := [.int (M_X2_isRope ropes (moved x1.toNatClampNeg))]) (ws1 := (WRig G b ropes acts start reached kinds strengths moved needs forbids)) (ci := 2) 0 dX2_target_25 (c_X2_isRope (b := b) rfl) pk_X2_isRope ml_X2_47 (x_full _) rfl rfl rfl rfl rfl rfl rfl rfl (x_full _).symm ?_
      refine x_if_eq 40 dX2_target_28 (by decide) (fun c4 => ?_) (fun c4 => ?_)
      · have h := x_pos c4 h
        refine x_bipush (-9 : Int32) dX2_target_40 (by decide) ?_
        cases h
        exact x_ireturn dX2_target_42 rfl (x_is.rf _ _)
      · have h := x_neg c4 h
        refine x_aload_n dX2_target_31 0 rfl rfl ?_
        refine x_get (ci := 2) 6 0 dX2_target_32 fl_X2_32 inX2 rfl (by decide) ⟨rfl, rfl, rfl⟩ rfl rfl ?_
        refine x_iload_n dX2_target_35 1 rfl rfl ?_
        refine x_iald x1.toNatClampNeg (q0 := 3) dX2_target_36 rfl rfl b2 ?_
        refine x_goto 42 dX2_target_37 (by decide) ?_
        cases h
        exact x_ireturn dX2_target_42 rfl (x_is.rf _ _)
theorem pk_X2_isEmpty : x_pv RX2 yX2_isEmpty cX2_isEmpty 1 (some .boolean) 0 := ⟨⟨co_X2_isEmpty, ni_X2, by decide, by decide +kernel⟩, im_X2_isEmpty, se_X2_isEmpty⟩
def M_X2_isEmpty (ropes : Int32) : Int32 :=
  if ropes = 0 then
  ((1 : Int32))
  else
  ((0 : Int32))
theorem M_X2_isEmpty_b {ropes : Int32} : narrow .boolean (.int (M_X2_isEmpty ropes)) = .int (M_X2_isEmpty ropes) := by
  simp only [M_X2_isEmpty]
  repeat' split
  all_goals first | rfl
set_option maxHeartbeats 4000000 in
set_option maxRecDepth 100000 in
theorem c_X2_isEmpty {G : x_G} {l : Launch} {b : Nat → Nat} {ropes : Int32} {acts : Int32} {start : Int64} {reached : Int32} {kinds : (Nat → Int32)} {strengths : (Nat → Int32)} {moved : (Nat → Int32)} {needs : (Nat → Int32)} {forbids : (Nat → Int32)} {res : Int32} (h : M_X2_isEmpty ropes = res) : x_M G l yX2_isEmpty cX2_isEmpty 1 (some .boolean) (0) 0 0 [.ref (b 0)] (WRig G b ropes acts start reached kinds strengths moved needs forbids) (x_is (some (.int res)) (WRig G b ropes acts start reached kinds strengths moved needs forbids)) := by
  unfold M_X2_isEmpty at h
  refine x_enter (ini := false) (by decide) rfl (by decide) rfl (Nat.le_of_ble_eq_true rfl) ?_
  refine x_aload_n dX2_isEmpty_0 0 rfl rfl ?_
  refine x_get (ci := 2) 0 0 dX2_isEmpty_1 fl_X2_9 inX2 rfl (by decide) ⟨rfl, rfl, rfl⟩ rfl rfl ?_
  refine x_if_ne 11 dX2_isEmpty_4 (by decide) (fun c1 => ?_) (fun c1 => ?_)
  · have h := x_neg c1 h
    refine x_iconst 0 dX2_isEmpty_11 (by decide) ?_
    subst h
    exact x_ireturn dX2_isEmpty_12 rfl (x_is.rf _ _)
  · have h := x_pos c1 h
    refine x_iconst 1 dX2_isEmpty_7 (by decide) ?_
    refine x_goto 12 dX2_isEmpty_8 (by decide) ?_
    subst h
    exact x_ireturn dX2_isEmpty_12 rfl (x_is.rf _ _)
theorem pk_X2_isAct : x_pv RX2 yX2_isAct cX2_isAct 2 (some .boolean) 1 := ⟨⟨co_X2_isAct, ni_X2, by decide, by decide +kernel⟩, im_X2_isAct, se_X2_isAct⟩
def M_X2_isAct (acts : Int32) (x1 : Int32) : Int32 :=
  if x1 < 0 then
  ((0 : Int32))
  else
  (if acts ≤ x1 then
  ((0 : Int32))
  else
  (if (4 : Int32) ≤ x1 then
  ((0 : Int32))
  else
  ((1 : Int32))))
theorem M_X2_isAct_b {acts : Int32} {x1 : Int32} : narrow .boolean (.int (M_X2_isAct acts x1)) = .int (M_X2_isAct acts x1) := by
  simp only [M_X2_isAct]
  repeat' split
  all_goals first | rfl
set_option maxHeartbeats 4000000 in
set_option maxRecDepth 100000 in
theorem c_X2_isAct {G : x_G} {l : Launch} {b : Nat → Nat} {acts : Int32} {ropes : Int32} {start : Int64} {reached : Int32} {kinds : (Nat → Int32)} {strengths : (Nat → Int32)} {moved : (Nat → Int32)} {needs : (Nat → Int32)} {forbids : (Nat → Int32)} {x1 : Int32} {res : Int32} (h : M_X2_isAct acts x1 = res) : x_M G l yX2_isAct cX2_isAct 2 (some .boolean) (0) 0 0 [.ref (b 0), .int x1] (WRig G b ropes acts start reached kinds strengths moved needs forbids) (x_is (some (.int res)) (WRig G b ropes acts start reached kinds strengths moved needs forbids)) := by
  unfold M_X2_isAct at h
  refine x_enter (ini := false) (by decide) rfl (by decide) rfl (Nat.le_of_ble_eq_true rfl) ?_
  refine x_iload_n dX2_isAct_0 1 rfl rfl ?_
  refine x_if_lt 21 dX2_isAct_1 (by decide) (fun c1 => ?_) (fun c1 => ?_)
  · have h := x_pos c1 h
    refine x_iconst 0 dX2_isAct_21 (by decide) ?_
    subst h
    exact x_ireturn dX2_isAct_22 rfl (x_is.rf _ _)
  · have h := x_neg c1 h
    refine x_iload_n dX2_isAct_4 1 rfl rfl ?_
    refine x_aload_n dX2_isAct_5 0 rfl rfl ?_
    refine x_get (ci := 2) 1 0 dX2_isAct_6 fl_X2_15 inX2 rfl (by decide) ⟨rfl, rfl, rfl⟩ rfl rfl ?_
    refine x_icmp_ge 21 dX2_isAct_9 (by decide) (fun c2 => ?_) (fun c2 => ?_)
    · have h := x_pos c2 h
      refine x_iconst 0 dX2_isAct_21 (by decide) ?_
      subst h
      exact x_ireturn dX2_isAct_22 rfl (x_is.rf _ _)
    · have h := x_neg c2 h
      refine x_iload_n dX2_isAct_12 1 rfl rfl ?_
      refine x_iconst 4 dX2_isAct_13 (by decide) ?_
      refine x_icmp_ge 21 dX2_isAct_14 (by decide) (fun c3 => ?_) (fun c3 => ?_)
      · have h := x_pos c3 h
        refine x_iconst 0 dX2_isAct_21 (by decide) ?_
        subst h
        exact x_ireturn dX2_isAct_22 rfl (x_is.rf _ _)
      · have h := x_neg c3 h
        refine x_iconst 1 dX2_isAct_17 (by decide) ?_
        refine x_goto 22 dX2_isAct_18 (by decide) ?_
        subst h
        exact x_ireturn dX2_isAct_22 rfl (x_is.rf _ _)
theorem pk_X2_allRopes : x_pv RX2 yX2_allRopes cX2_allRopes 1 (some .int) 0 := ⟨⟨co_X2_allRopes, ni_X2, by decide, by decide +kernel⟩, im_X2_allRopes, se_X2_allRopes⟩
def M_X2_allRopes (ropes : Int32) : Int32 :=
  (((1 : Int32) <<< (ropes &&& (31 : Int32))) - (1 : Int32))
set_option maxHeartbeats 4000000 in
set_option maxRecDepth 100000 in
theorem c_X2_allRopes {G : x_G} {l : Launch} {b : Nat → Nat} {ropes : Int32} {acts : Int32} {start : Int64} {reached : Int32} {kinds : (Nat → Int32)} {strengths : (Nat → Int32)} {moved : (Nat → Int32)} {needs : (Nat → Int32)} {forbids : (Nat → Int32)} {res : Int32} (h : M_X2_allRopes ropes = res) : x_M G l yX2_allRopes cX2_allRopes 1 (some .int) (0) 0 0 [.ref (b 0)] (WRig G b ropes acts start reached kinds strengths moved needs forbids) (x_is (some (.int res)) (WRig G b ropes acts start reached kinds strengths moved needs forbids)) := by
  unfold M_X2_allRopes at h
  refine x_enter (ini := false) (by decide) rfl (by decide) rfl (Nat.le_of_ble_eq_true rfl) ?_
  refine x_iconst 1 dX2_allRopes_0 (by decide) ?_
  refine x_aload_n dX2_allRopes_1 0 rfl rfl ?_
  refine x_get (ci := 2) 0 0 dX2_allRopes_2 fl_X2_9 inX2 rfl (by decide) ⟨rfl, rfl, rfl⟩ rfl rfl ?_
  refine x_ishl dX2_allRopes_5 ?_
  refine x_iconst 1 dX2_allRopes_6 (by decide) ?_
  refine x_isub dX2_allRopes_7 ?_
  subst h
  exact x_ireturn dX2_allRopes_8 rfl (x_is.rf _ _)
theorem pk_X2_needed : x_pv RX2 yX2_needed cX2_needed 2 (some .int) 1 := ⟨⟨co_X2_needed, ni_X2, by decide, by decide +kernel⟩, im_X2_needed, se_X2_needed⟩
def M_X2_needed (ropes : Int32) (acts : Int32) (needs : (Nat → Int32)) (x1 : Int32) : Option (Int32) :=
  if (M_X2_isAct acts x1) = 0 then
  (some (0 : Int32))
  else
  (if inb x1 4 then
  some ((needs x1.toNatClampNeg) &&& (M_X2_allRopes ropes))
  else none)
set_option maxHeartbeats 4000000 in
set_option maxRecDepth 100000 in
theorem c_X2_needed {G : x_G} {l : Launch} {b : Nat → Nat} {ropes : Int32} {acts : Int32} {needs : (Nat → Int32)} {start : Int64} {reached : Int32} {kinds : (Nat → Int32)} {strengths : (Nat → Int32)} {moved : (Nat → Int32)} {forbids : (Nat → Int32)} {x1 : Int32} {res : Int32} (h : M_X2_needed ropes acts needs x1 = some res) : x_M G l yX2_needed cX2_needed 2 (some .int) (1) 0 0 [.ref (b 0), .int x1] (WRig G b ropes acts start reached kinds strengths moved needs forbids) (x_is (some (.int res)) (WRig G b ropes acts start reached kinds strengths moved needs forbids)) := by
  unfold M_X2_needed at h
  refine x_enter (ini := false) (by decide) rfl (by decide) rfl (Nat.le_of_ble_eq_true rfl) ?_
  refine x_aload_n dX2_needed_0 0 rfl rfl ?_
  refine x_iload_n dX2_needed_1 1 rfl rfl ?_
  refine x_cV (As := [.int x1]) (wc := (WRig G b ropes acts start reached kinds strengths moved needs forbids)) (w1 := (WRig G b ropes acts start reached kinds strengths moved needs forbids)) (pre := []) (post := []) (rest := []) (st1 := [.int (M_X2_isAct acts x1)]) (ws1 := (WRig G b ropes acts start reached kinds strengths moved needs forbids)) (ci := 2) 0 dX2_needed_2 (c_X2_isAct (b := b) rfl) pk_X2_isAct ml_X2_62 (x_full _) rfl rfl rfl rfl rfl rfl rfl rfl (x_full _).symm ?_
  refine x_if_eq 22 dX2_needed_5 (by decide) (fun c1 => ?_) (fun c1 => ?_)
  · have h := x_pos c1 h
    refine x_iconst 0 dX2_needed_22 (by decide) ?_
    cases h
    exact x_ireturn dX2_needed_23 rfl (x_is.rf _ _)
  · have h := x_neg c1 h
    refine x_aload_n dX2_needed_8 0 rfl rfl ?_
    refine x_get (ci := 2) 7 0 dX2_needed_9 fl_X2_35 inX2 rfl (by decide) ⟨rfl, rfl, rfl⟩ rfl rfl ?_
    refine x_iload_n dX2_needed_12 1 rfl rfl ?_
    obtain ⟨b2, h⟩ := x_guard h
    refine x_iald x1.toNatClampNeg (q0 := 4) dX2_needed_13 rfl rfl b2 ?_
    refine x_aload_n dX2_needed_14 0 rfl rfl ?_
    refine x_cV (As := []) (wc := (WRig G b ropes acts start reached kinds strengths moved needs forbids)) (w1 := (WRig G b ropes acts start reached kinds strengths moved needs forbids)) (pre := []) (post := []) (rest := [.int (needs x1.toNatClampNeg)]) (st1 := [.int (M_X2_allRopes ropes), .int (needs x1.toNatClampNeg)]) (ws1 := (WRig G b ropes acts start reached kinds strengths moved needs forbids)) (ci := 2) 0 dX2_needed_15 (c_X2_allRopes (b := b) rfl) pk_X2_allRopes ml_X2_65 (x_full _) rfl rfl rfl rfl rfl rfl rfl rfl (x_full _).symm ?_
    refine x_iand dX2_needed_18 ?_
    refine x_goto 23 dX2_needed_19 (by decide) ?_
    cases h
    exact x_ireturn dX2_needed_23 rfl (x_is.rf _ _)
theorem pk_X2_forbidden : x_pv RX2 yX2_forbidden cX2_forbidden 2 (some .int) 1 := ⟨⟨co_X2_forbidden, ni_X2, by decide, by decide +kernel⟩, im_X2_forbidden, se_X2_forbidden⟩
def M_X2_forbidden (ropes : Int32) (acts : Int32) (forbids : (Nat → Int32)) (x1 : Int32) : Option (Int32) :=
  if (M_X2_isAct acts x1) = 0 then
  (some (0 : Int32))
  else
  (if inb x1 4 then
  some ((forbids x1.toNatClampNeg) &&& (M_X2_allRopes ropes))
  else none)
set_option maxHeartbeats 4000000 in
set_option maxRecDepth 100000 in
theorem c_X2_forbidden {G : x_G} {l : Launch} {b : Nat → Nat} {ropes : Int32} {acts : Int32} {forbids : (Nat → Int32)} {start : Int64} {reached : Int32} {kinds : (Nat → Int32)} {strengths : (Nat → Int32)} {moved : (Nat → Int32)} {needs : (Nat → Int32)} {x1 : Int32} {res : Int32} (h : M_X2_forbidden ropes acts forbids x1 = some res) : x_M G l yX2_forbidden cX2_forbidden 2 (some .int) (1) 0 0 [.ref (b 0), .int x1] (WRig G b ropes acts start reached kinds strengths moved needs forbids) (x_is (some (.int res)) (WRig G b ropes acts start reached kinds strengths moved needs forbids)) := by
  unfold M_X2_forbidden at h
  refine x_enter (ini := false) (by decide) rfl (by decide) rfl (Nat.le_of_ble_eq_true rfl) ?_
  refine x_aload_n dX2_forbidden_0 0 rfl rfl ?_
  refine x_iload_n dX2_forbidden_1 1 rfl rfl ?_
  refine x_cV (As := [.int x1]) (wc := (WRig G b ropes acts start reached kinds strengths moved needs forbids)) (w1 := (WRig G b ropes acts start reached kinds strengths moved needs forbids)) (pre := []) (post := []) (rest := []) (st1 := [.int (M_X2_isAct acts x1)]) (ws1 := (WRig G b ropes acts start reached kinds strengths moved needs forbids)) (ci := 2) 0 dX2_forbidden_2 (c_X2_isAct (b := b) rfl) pk_X2_isAct ml_X2_62 (x_full _) rfl rfl rfl rfl rfl rfl rfl rfl (x_full _).symm ?_
  refine x_if_eq 22 dX2_forbidden_5 (by decide) (fun c1 => ?_) (fun c1 => ?_)
  · have h := x_pos c1 h
    refine x_iconst 0 dX2_forbidden_22 (by decide) ?_
    cases h
    exact x_ireturn dX2_forbidden_23 rfl (x_is.rf _ _)
  · have h := x_neg c1 h
    refine x_aload_n dX2_forbidden_8 0 rfl rfl ?_
    refine x_get (ci := 2) 8 0 dX2_forbidden_9 fl_X2_38 inX2 rfl (by decide) ⟨rfl, rfl, rfl⟩ rfl rfl ?_
    refine x_iload_n dX2_forbidden_12 1 rfl rfl ?_
    obtain ⟨b2, h⟩ := x_guard h
    refine x_iald x1.toNatClampNeg (q0 := 5) dX2_forbidden_13 rfl rfl b2 ?_
    refine x_aload_n dX2_forbidden_14 0 rfl rfl ?_
    refine x_cV (As := []) (wc := (WRig G b ropes acts start reached kinds strengths moved needs forbids)) (w1 := (WRig G b ropes acts start reached kinds strengths moved needs forbids)) (pre := []) (post := []) (rest := [.int (forbids x1.toNatClampNeg)]) (st1 := [.int (M_X2_allRopes ropes), .int (forbids x1.toNatClampNeg)]) (ws1 := (WRig G b ropes acts start reached kinds strengths moved needs forbids)) (ci := 2) 0 dX2_forbidden_15 (c_X2_allRopes (b := b) rfl) pk_X2_allRopes ml_X2_65 (x_full _) rfl rfl rfl rfl rfl rfl rfl rfl (x_full _).symm ?_
    refine x_iand dX2_forbidden_18 ?_
    refine x_goto 23 dX2_forbidden_19 (by decide) ?_
    cases h
    exact x_ireturn dX2_forbidden_23 rfl (x_is.rf _ _)
theorem pk_X2_lawfulActs : x_pv RX2 yX2_lawfulActs cX2_lawfulActs 6 (some .int) 1 := ⟨⟨co_X2_lawfulActs, ni_X2, by decide, by decide +kernel⟩, im_X2_lawfulActs, se_X2_lawfulActs⟩
def M_X2_lawfulActs_b53 (ropes : Int32) (acts : Int32) (needs : (Nat → Int32)) (forbids : (Nat → Int32)) (k11 : Int32 → Int32 → Int32 → Option (Int32)) (x3 : Int32) (x4 : Int32) (x5 : Int32) : Option (Int32) :=
  k11 x3 x4 (x5 + (1 : Int32))
set_option maxHeartbeats 4000000 in
set_option maxRecDepth 100000 in
theorem w_X2_lawfulActs_b53 {G : x_G} {l : Launch} {b : Nat → Nat} {ropes : Int32} {acts : Int32} {needs : (Nat → Int32)} {forbids : (Nat → Int32)} {start : Int64} {reached : Int32} {kinds : (Nat → Int32)} {strengths : (Nat → Int32)} {moved : (Nat → Int32)} {k11 : Int32 → Int32 → Int32 → Option (Int32)} {res : Int32} (hk11 : ∀ (x3 : Int32) (x4 : Int32) (x5 : Int32), k11 x3 x4 x5 = some res → X G l RX2 cX2_lawfulActs 6 (x_R 2 0 0) (x_Cm G (some .int) false (x_is (some (.int res)) (WRig G b ropes acts start reached kinds strengths moved needs forbids)) 0 0) 0 0 11 [(0, .ref (b 0)), (3, .int x3), (4, .int x4), (5, .int x5)] [] (WRig G b ropes acts start reached kinds strengths moved needs forbids)) (x3 : Int32) (x4 : Int32) (x5 : Int32) (h : M_X2_lawfulActs_b53 ropes acts needs forbids k11 x3 x4 x5 = some res) : X G l RX2 cX2_lawfulActs 6 (x_R 2 0 0) (x_Cm G (some .int) false (x_is (some (.int res)) (WRig G b ropes acts start reached kinds strengths moved needs forbids)) 0 0) 0 0 53 [(0, .ref (b 0)), (3, .int x3), (4, .int x4), (5, .int x5)] [] (WRig G b ropes acts start reached kinds strengths moved needs forbids) := by
  unfold M_X2_lawfulActs_b53 at h
  refine x_iinc (j := 3) (1 : Int32) [(5, .int (x5 + (1 : Int32))), (0, .ref (b 0)), (3, .int x3), (4, .int x4)] dX2_lawfulActs_53 (by decide) rfl (by decide) rfl ?_
  refine x_goto 11 dX2_lawfulActs_56 (by decide) ?_
  refine x_lv [1, 2, 3, 0] rfl ?_
  exact hk11 _ _ _ h
def M_X2_lawfulActs_b11 (ropes : Int32) (acts : Int32) (needs : (Nat → Int32)) (forbids : (Nat → Int32)) : Nat → Int32 → Int32 → Int32 → Option (Int32)
  | 0, _, _, _ => none
  | n + 1, x3, x4, x5 =>
    if acts ≤ x5 then
    (some (x4))
    else
    ((M_X2_needed ropes acts needs x5).bind fun r2 =>
    if (r2 &&& (x3 ^^^ (-1 : Int32))) = 0 then
    ((M_X2_forbidden ropes acts forbids x5).bind fun r5 =>
    if (r5 &&& x3) = 0 then
    (M_X2_lawfulActs_b53 ropes acts needs forbids (fun (x3' : Int32) (x4' : Int32) (x5' : Int32) => M_X2_lawfulActs_b11 ropes acts needs forbids n x3' x4' x5') x3 (x4 ||| ((1 : Int32) <<< (x5 &&& (31 : Int32)))) x5)
    else
    (M_X2_lawfulActs_b53 ropes acts needs forbids (fun (x3' : Int32) (x4' : Int32) (x5' : Int32) => M_X2_lawfulActs_b11 ropes acts needs forbids n x3' x4' x5') x3 x4 x5))
    else
    (M_X2_lawfulActs_b53 ropes acts needs forbids (fun (x3' : Int32) (x4' : Int32) (x5' : Int32) => M_X2_lawfulActs_b11 ropes acts needs forbids n x3' x4' x5') x3 x4 x5))
set_option maxHeartbeats 4000000 in
set_option maxRecDepth 100000 in
theorem w_X2_lawfulActs_b11 {G : x_G} {l : Launch} {b : Nat → Nat} {ropes : Int32} {acts : Int32} {needs : (Nat → Int32)} {forbids : (Nat → Int32)} {start : Int64} {reached : Int32} {kinds : (Nat → Int32)} {strengths : (Nat → Int32)} {moved : (Nat → Int32)} {res : Int32} : ∀ (n : Nat) (x3 : Int32) (x4 : Int32) (x5 : Int32), M_X2_lawfulActs_b11 ropes acts needs forbids n x3 x4 x5 = some res → X G l RX2 cX2_lawfulActs 6 (x_R 2 0 0) (x_Cm G (some .int) false (x_is (some (.int res)) (WRig G b ropes acts start reached kinds strengths moved needs forbids)) 0 0) 0 0 11 [(0, .ref (b 0)), (3, .int x3), (4, .int x4), (5, .int x5)] [] (WRig G b ropes acts start reached kinds strengths moved needs forbids) := by
  intro n
  induction n with
  | zero =>
    intro _ _ _ h
    cases h
  | succ n ih =>
    intro x3 x4 x5 h
    rw [M_X2_lawfulActs_b11] at h
    refine x_iload dX2_lawfulActs_11 3 rfl ?_
    refine x_aload_n dX2_lawfulActs_13 0 rfl rfl ?_
    refine x_get (ci := 2) 1 0 dX2_lawfulActs_14 fl_X2_15 inX2 rfl (by decide) ⟨rfl, rfl, rfl⟩ rfl rfl ?_
    refine x_icmp_ge 59 dX2_lawfulActs_17 (by decide) (fun c1 => ?_) (fun c1 => ?_)
    · have h := x_pos c1 h
      refine x_iload dX2_lawfulActs_59 2 rfl ?_
      cases h
      exact x_ireturn dX2_lawfulActs_61 rfl (x_is.rf _ _)
    · have h := x_neg c1 h
      refine x_aload_n dX2_lawfulActs_20 0 rfl rfl ?_
      refine x_iload dX2_lawfulActs_21 3 rfl ?_
      obtain ⟨r2, e3, h⟩ := x_bind h
      refine x_cV (As := [.int x5]) (wc := (WRig G b ropes acts start reached kinds strengths moved needs forbids)) (w1 := (WRig G b ropes acts start reached kinds strengths moved needs forbids)) (pre := []) (post := []) (rest := []) (st1 := [.int r2]) (ws1 := (WRig G b ropes acts start reached kinds strengths moved needs forbids)) (ci := 2) 0 dX2_lawfulActs_23 (c_X2_needed (b := b) e3) pk_X2_needed ml_X2_73 (x_full _) rfl rfl rfl rfl rfl rfl rfl rfl (x_full _).symm ?_
      refine x_iload_n dX2_lawfulActs_26 1 rfl rfl ?_
      refine x_iconst (-1 : Int32) dX2_lawfulActs_27 (by decide) ?_
      refine x_ixor dX2_lawfulActs_28 ?_
      refine x_iand dX2_lawfulActs_29 ?_
      refine x_if_ne 53 dX2_lawfulActs_30 (by decide) (fun c4 => ?_) (fun c4 => ?_)
      · have h := x_neg c4 h
        exact w_X2_lawfulActs_b53 (fun x3' x4' x5' h => ih x3' x4' x5' h) _ _ _ h
      · have h := x_pos c4 h
        refine x_aload_n dX2_lawfulActs_33 0 rfl rfl ?_
        refine x_iload dX2_lawfulActs_34 3 rfl ?_
        obtain ⟨r5, e6, h⟩ := x_bind h
        refine x_cV (As := [.int x5]) (wc := (WRig G b ropes acts start reached kinds strengths moved needs forbids)) (w1 := (WRig G b ropes acts start reached kinds strengths moved needs forbids)) (pre := []) (post := []) (rest := []) (st1 := [.int r5]) (ws1 := (WRig G b ropes acts start reached kinds strengths moved needs forbids)) (ci := 2) 0 dX2_lawfulActs_36 (c_X2_forbidden (b := b) e6) pk_X2_forbidden ml_X2_76 (x_full _) rfl rfl rfl rfl rfl rfl rfl rfl (x_full _).symm ?_
        refine x_iload_n dX2_lawfulActs_39 1 rfl rfl ?_
        refine x_iand dX2_lawfulActs_40 ?_
        refine x_if_ne 53 dX2_lawfulActs_41 (by decide) (fun c7 => ?_) (fun c7 => ?_)
        · have h := x_neg c7 h
          exact w_X2_lawfulActs_b53 (fun x3' x4' x5' h => ih x3' x4' x5' h) _ _ _ h
        · have h := x_pos c7 h
          refine x_iload dX2_lawfulActs_44 2 rfl ?_
          refine x_iconst 1 dX2_lawfulActs_46 (by decide) ?_
          refine x_iload dX2_lawfulActs_47 3 rfl ?_
          refine x_ishl dX2_lawfulActs_49 ?_
          refine x_ior dX2_lawfulActs_50 ?_
          refine x_istore [(4, .int (x4 ||| ((1 : Int32) <<< (x5 &&& (31 : Int32))))), (0, .ref (b 0)), (3, .int x3), (5, .int x5)] dX2_lawfulActs_51 (by decide) rfl ?_
          refine x_lv [1, 2, 0, 3] rfl ?_
          exact w_X2_lawfulActs_b53 (fun x3' x4' x5' h => ih x3' x4' x5' h) _ _ _ h
def M_X2_lawfulActs (ropes : Int32) (acts : Int32) (needs : (Nat → Int32)) (forbids : (Nat → Int32)) (x1 : Int64) : Option (Int32) :=
  (M_X5_taut x1).bind fun r8 =>
  M_X2_lawfulActs_b11 ropes acts needs forbids x_fuel r8 (0 : Int32) (0 : Int32)
set_option maxHeartbeats 4000000 in
set_option maxRecDepth 100000 in
theorem c_X2_lawfulActs {G : x_G} {l : Launch} {b : Nat → Nat} {ropes : Int32} {acts : Int32} {needs : (Nat → Int32)} {forbids : (Nat → Int32)} {start : Int64} {reached : Int32} {kinds : (Nat → Int32)} {strengths : (Nat → Int32)} {moved : (Nat → Int32)} {x1 : Int64} {res : Int32} (h : M_X2_lawfulActs ropes acts needs forbids x1 = some res) : x_M G l yX2_lawfulActs cX2_lawfulActs 6 (some .int) (2) 0 0 [.ref (b 0), .long x1] (WRig G b ropes acts start reached kinds strengths moved needs forbids) (x_is (some (.int res)) (WRig G b ropes acts start reached kinds strengths moved needs forbids)) := by
  unfold M_X2_lawfulActs at h
  refine x_enter (ini := false) (by decide) rfl (by decide) rfl (Nat.le_of_ble_eq_true rfl) ?_
  refine x_lload_n dX2_lawfulActs_0 1 rfl rfl ?_
  obtain ⟨r8, e9, h⟩ := x_bind h
  refine x_cS (As := [.long x1]) (wc := ([] : va_W)) (w1 := ([] : va_W)) (pre := []) (post := (WRig G b ropes acts start reached kinds strengths moved needs forbids)) (rest := []) (st1 := [.int r8]) (ws1 := (WRig G b ropes acts start reached kinds strengths moved needs forbids)) dX2_lawfulActs_1 (c_X5_taut e9) pk_X5_taut ml_X2_69 rfl rfl rfl rfl rfl rfl rfl ?_
  refine x_istore_n [(3, .int r8), (0, .ref (b 0)), (1, .long x1)] dX2_lawfulActs_4 rfl (by decide) rfl ?_
  refine x_iconst 0 dX2_lawfulActs_5 (by decide) ?_
  refine x_istore [(4, .int (0 : Int32)), (3, .int r8), (0, .ref (b 0)), (1, .long x1)] dX2_lawfulActs_6 (by decide) rfl ?_
  refine x_iconst 0 dX2_lawfulActs_8 (by decide) ?_
  refine x_istore [(5, .int (0 : Int32)), (4, .int (0 : Int32)), (3, .int r8), (0, .ref (b 0)), (1, .long x1)] dX2_lawfulActs_9 (by decide) rfl ?_
  refine x_lv [3, 2, 1, 0] rfl ?_
  exact w_X2_lawfulActs_b11  _ _ _ _ h
theorem pk_X2_canReach : x_pv RX2 yX2_canReach cX2_canReach 4 (some .boolean) 2 := ⟨⟨co_X2_canReach, ni_X2, by decide, by decide +kernel⟩, im_X2_canReach, se_X2_canReach⟩
def M_X2_canReach (ropes : Int32) (reached : Int32) (x1 : Int64) (x3 : Int32) : Int32 :=
  if (M_X2_isRope ropes x3) = 0 then
  ((0 : Int32))
  else
  (if (M_X5_isFast x1 x3) = 0 then
  ((0 : Int32))
  else
  (if ((reached >>> (x3 &&& (31 : Int32))) &&& (1 : Int32)) = 0 then
  ((1 : Int32))
  else
  ((0 : Int32))))
theorem M_X2_canReach_b {ropes : Int32} {reached : Int32} {x1 : Int64} {x3 : Int32} : narrow .boolean (.int (M_X2_canReach ropes reached x1 x3)) = .int (M_X2_canReach ropes reached x1 x3) := by
  simp only [M_X2_canReach]
  repeat' split
  all_goals first | rfl | exact M_X2_isRope_b | exact M_X5_isFast_b
set_option maxHeartbeats 4000000 in
set_option maxRecDepth 100000 in
theorem c_X2_canReach {G : x_G} {l : Launch} {b : Nat → Nat} {ropes : Int32} {reached : Int32} {acts : Int32} {start : Int64} {kinds : (Nat → Int32)} {strengths : (Nat → Int32)} {moved : (Nat → Int32)} {needs : (Nat → Int32)} {forbids : (Nat → Int32)} {x1 : Int64} {x3 : Int32} {res : Int32} (h : M_X2_canReach ropes reached x1 x3 = res) : x_M G l yX2_canReach cX2_canReach 4 (some .boolean) (3) 0 0 [.ref (b 0), .long x1, .int x3] (WRig G b ropes acts start reached kinds strengths moved needs forbids) (x_is (some (.int res)) (WRig G b ropes acts start reached kinds strengths moved needs forbids)) := by
  unfold M_X2_canReach at h
  refine x_enter (ini := false) (by decide) rfl (by decide) rfl (Nat.le_of_ble_eq_true rfl) ?_
  refine x_aload_n dX2_canReach_0 0 rfl rfl ?_
  refine x_iload_n dX2_canReach_1 2 rfl rfl ?_
  refine x_cV (As := [.int x3]) (wc := (WRig G b ropes acts start reached kinds strengths moved needs forbids)) (w1 := (WRig G b ropes acts start reached kinds strengths moved needs forbids)) (pre := []) (post := []) (rest := []) (st1 := [.int (M_X2_isRope ropes x3)]) (ws1 := (WRig G b ropes acts start reached kinds strengths moved needs forbids)) (ci := 2) 0 dX2_canReach_2 (c_X2_isRope (b := b) rfl) pk_X2_isRope ml_X2_47 (x_full _) rfl rfl rfl rfl rfl rfl rfl rfl (x_full _).symm ?_
  refine x_if_eq 31 dX2_canReach_5 (by decide) (fun c1 => ?_) (fun c1 => ?_)
  · have h := x_pos c1 h
    refine x_iconst 0 dX2_canReach_31 (by decide) ?_
    subst h
    exact x_ireturn dX2_canReach_32 rfl (x_is.rf _ _)
  · have h := x_neg c1 h
    refine x_lload_n dX2_canReach_8 1 rfl rfl ?_
    refine x_iload_n dX2_canReach_9 2 rfl rfl ?_
    refine x_cS (As := [.long x1, .int x3]) (wc := ([] : va_W)) (w1 := ([] : va_W)) (pre := []) (post := (WRig G b ropes acts start reached kinds strengths moved needs forbids)) (rest := []) (st1 := [.int (M_X5_isFast x1 x3)]) (ws1 := (WRig G b ropes acts start reached kinds strengths moved needs forbids)) dX2_canReach_10 (c_X5_isFast rfl) pk_X5_isFast ml_X2_101 rfl rfl rfl rfl rfl rfl rfl ?_
    refine x_if_eq 31 dX2_canReach_13 (by decide) (fun c2 => ?_) (fun c2 => ?_)
    · have h := x_pos c2 h
      refine x_iconst 0 dX2_canReach_31 (by decide) ?_
      subst h
      exact x_ireturn dX2_canReach_32 rfl (x_is.rf _ _)
    · have h := x_neg c2 h
      refine x_aload_n dX2_canReach_16 0 rfl rfl ?_
      refine x_get (ci := 2) 3 0 dX2_canReach_17 fl_X2_22 inX2 rfl (by decide) ⟨rfl, rfl, rfl⟩ rfl rfl ?_
      refine x_iload_n dX2_canReach_20 2 rfl rfl ?_
      refine x_ishr dX2_canReach_21 ?_
      refine x_iconst 1 dX2_canReach_22 (by decide) ?_
      refine x_iand dX2_canReach_23 ?_
      refine x_if_ne 31 dX2_canReach_24 (by decide) (fun c3 => ?_) (fun c3 => ?_)
      · have h := x_neg c3 h
        refine x_iconst 0 dX2_canReach_31 (by decide) ?_
        subst h
        exact x_ireturn dX2_canReach_32 rfl (x_is.rf _ _)
      · have h := x_pos c3 h
        refine x_iconst 1 dX2_canReach_27 (by decide) ?_
        refine x_goto 32 dX2_canReach_28 (by decide) ?_
        subst h
        exact x_ireturn dX2_canReach_32 rfl (x_is.rf _ _)
theorem pk_X6_passed : x_ps yX6_passed cX6_passed 2 (some .int) 2 := ⟨⟨co_X6_passed, ni_X6, by decide, by decide +kernel⟩, sm_X6_passed⟩
def M_X6_passed (x0 : Int32) (x1 : Int32) : Int32 :=
  if x0 = (1 : Int32) then
  ((0 : Int32))
  else
  (if x0 = (2 : Int32) then
  (x1)
  else
  (if x0 = (3 : Int32) then
  ((M_J9_max_7cf53 (x1 - (1 : Int32)) (0 : Int32)))
  else
  (if x0 = (4 : Int32) then
  ((0 : Int32))
  else
  (if x0 = (5 : Int32) then
  (((M_J9_max_7cf53 (x1 - (1 : Int32)) (0 : Int32)) / (2 : Int32)))
  else
  ((x1 / (2 : Int32)))))))
set_option maxHeartbeats 4000000 in
set_option maxRecDepth 100000 in
theorem c_X6_passed {G : x_G} {l : Launch} {x0 : Int32} {x1 : Int32} {res : Int32} (h : M_X6_passed x0 x1 = res) : x_M G l yX6_passed cX6_passed 2 (some .int) (1) 0 0 [.int x0, .int x1] ([] : va_W) (x_is (some (.int res)) ([] : va_W)) := by
  unfold M_X6_passed at h
  refine x_enter (ini := false) (by decide) rfl (by decide) rfl (Nat.le_of_ble_eq_true rfl) ?_
  refine x_iload_n dX6_passed_0 0 rfl rfl ?_
  by_cases c1 : x0 = (1 : Int32)
  · have h := x_pos c1 h
    refine x_tswEq (off := 35) (1 : Int32) 36 c1 dX6_passed_1 (by decide) (by decide) (by decide) (by decide) ?_
    refine x_iconst 0 dX6_passed_36 (by decide) ?_
    subst h
    exact x_ireturn dX6_passed_37 rfl (x_is.rf _ _)
  · have h := x_neg c1 h
    by_cases c2 : x0 = (2 : Int32)
    · have h := x_pos c2 h
      refine x_tswEq (off := 37) (2 : Int32) 38 c2 dX6_passed_1 (by decide) (by decide) (by decide) (by decide) ?_
      refine x_iload_n dX6_passed_38 1 rfl rfl ?_
      subst h
      exact x_ireturn dX6_passed_39 rfl (x_is.rf _ _)
    · have h := x_neg c2 h
      by_cases c3 : x0 = (3 : Int32)
      · have h := x_pos c3 h
        refine x_tswEq (off := 39) (3 : Int32) 40 c3 dX6_passed_1 (by decide) (by decide) (by decide) (by decide) ?_
        refine x_iload_n dX6_passed_40 1 rfl rfl ?_
        refine x_iconst 1 dX6_passed_41 (by decide) ?_
        refine x_isub dX6_passed_42 ?_
        refine x_iconst 0 dX6_passed_43 (by decide) ?_
        refine x_cS (As := [.int (x1 - (1 : Int32)), .int (0 : Int32)]) (wc := ([] : va_W)) (w1 := ([] : va_W)) (pre := []) (post := ([] : va_W)) (rest := []) (st1 := [.int (M_J9_max_7cf53 (x1 - (1 : Int32)) (0 : Int32))]) (ws1 := ([] : va_W)) dX6_passed_44 (c_J9_max_7cf53 rfl) pk_J9_max_7cf53 ml_X6_343 rfl rfl rfl rfl rfl rfl rfl ?_
        subst h
        exact x_ireturn dX6_passed_47 rfl (x_is.rf _ _)
      · have h := x_neg c3 h
        by_cases c4 : x0 = (4 : Int32)
        · have h := x_pos c4 h
          refine x_tswEq (off := 35) (4 : Int32) 36 c4 dX6_passed_1 (by decide) (by decide) (by decide) (by decide) ?_
          refine x_iconst 0 dX6_passed_36 (by decide) ?_
          subst h
          exact x_ireturn dX6_passed_37 rfl (x_is.rf _ _)
        · have h := x_neg c4 h
          by_cases c5 : x0 = (5 : Int32)
          · have h := x_pos c5 h
            refine x_tswEq (off := 47) (5 : Int32) 48 c5 dX6_passed_1 (by decide) (by decide) (by decide) (by decide) ?_
            refine x_iload_n dX6_passed_48 1 rfl rfl ?_
            refine x_iconst 1 dX6_passed_49 (by decide) ?_
            refine x_isub dX6_passed_50 ?_
            refine x_iconst 0 dX6_passed_51 (by decide) ?_
            refine x_cS (As := [.int (x1 - (1 : Int32)), .int (0 : Int32)]) (wc := ([] : va_W)) (w1 := ([] : va_W)) (pre := []) (post := ([] : va_W)) (rest := []) (st1 := [.int (M_J9_max_7cf53 (x1 - (1 : Int32)) (0 : Int32))]) (ws1 := ([] : va_W)) dX6_passed_52 (c_J9_max_7cf53 rfl) pk_J9_max_7cf53 ml_X6_343 rfl rfl rfl rfl rfl rfl rfl ?_
            refine x_iconst 2 dX6_passed_55 (by decide) ?_
            refine x_idiv dX6_passed_56 (by decide) ?_
            subst h
            exact x_ireturn dX6_passed_57 rfl (x_is.rf _ _)
          · have h := x_neg c5 h
            refine x_tswOut 58 dX6_passed_1 (by have q0 := lv_neT c1 (a := 1) (by decide); have q1 := lv_neT c2 (a := 2) (by decide); have q2 := lv_neT c3 (a := 3) (by decide); have q3 := lv_neT c4 (a := 4) (by decide); have q4 := lv_neT c5 (a := 5) (by decide); omega) (by decide) ?_
            refine x_iload_n dX6_passed_58 1 rfl rfl ?_
            refine x_iconst 2 dX6_passed_59 (by decide) ?_
            refine x_idiv dX6_passed_60 (by decide) ?_
            subst h
            exact x_ireturn dX6_passed_61 rfl (x_is.rf _ _)
theorem pk_X2_hauled : x_pv RX2 yX2_hauled cX2_hauled 11 (some .long) 3 := ⟨⟨co_X2_hauled, ni_X2, by decide, by decide +kernel⟩, im_X2_hauled, se_X2_hauled⟩
def M_X2_hauled_b41 (ropes : Int32) (kinds : (Nat → Int32)) (strengths : (Nat → Int32)) (moved : (Nat → Int32)) : Nat → Int32 → Int64 → Int32 → Int32 → Int32 → Option (Int64 × Int32)
  | 0, _, _, _, _, _ => none
  | n + 1, reached, x5, x7, x8, x9 =>
    if (6 : Int32) ≤ x9 then
    (some (x5, reached))
    else
    (if x8 ≤ 0 then
    (some (x5, reached))
    else
    (if (M_X2_canReach ropes reached x5 x7) = 0 then
    (some (x5, reached))
    else
    ((M_X2_holds ropes kinds strengths x7).bind fun r4 =>
    if ((M_X5_strain x5 x7) + x8) ≤ r4 then
    ((M_X2_kind ropes kinds x7).bind fun r7 =>
    (M_X2_target ropes moved x7).bind fun r9 =>
    M_X2_hauled_b41 ropes kinds strengths moved n (reached ||| ((1 : Int32) <<< (x7 &&& (31 : Int32)))) (M_X5_afterStrain x5 x7 ((M_X5_strain x5 x7) + x8)) r9 (M_X6_passed r7 x8) (x9 + (1 : Int32)))
    else
    ((M_X5_afterParted x5 ((1 : Int32) <<< (x7 &&& (31 : Int32)))).bind fun r11 =>
    some (r11, (reached ||| ((1 : Int32) <<< (x7 &&& (31 : Int32)))))))))
set_option maxHeartbeats 4000000 in
set_option maxRecDepth 100000 in
theorem w_X2_hauled_b41 {G : x_G} {l : Launch} {b : Nat → Nat} {ropes : Int32} {kinds : (Nat → Int32)} {strengths : (Nat → Int32)} {moved : (Nat → Int32)} {acts : Int32} {start : Int64} {needs : (Nat → Int32)} {forbids : (Nat → Int32)} {res : Int64 × Int32} : ∀ (n : Nat) (reached : Int32) (x5 : Int64) (x7 : Int32) (x8 : Int32) (x9 : Int32), M_X2_hauled_b41 ropes kinds strengths moved n reached x5 x7 x8 x9 = some res → X G l RX2 cX2_hauled 11 (x_R 4 0 0) (x_Cm G (some .long) false (x_is (some (.long res.1)) (WRig G b ropes acts start res.2 kinds strengths moved needs forbids)) 0 0) 0 0 41 [(0, .ref (b 0)), (5, .long x5), (7, .int x7), (8, .int x8), (9, .int x9)] [] (WRig G b ropes acts start reached kinds strengths moved needs forbids) := by
  intro n
  induction n with
  | zero =>
    intro _ _ _ _ _ h
    cases h
  | succ n ih =>
    intro reached x5 x7 x8 x9 h
    rw [M_X2_hauled_b41] at h
    refine x_iload dX2_hauled_41 4 rfl ?_
    refine x_bipush 6 dX2_hauled_43 (by decide) ?_
    refine x_icmp_ge 148 dX2_hauled_45 (by decide) (fun c1 => ?_) (fun c1 => ?_)
    · have h := x_pos c1 h
      refine x_lload dX2_hauled_148 1 rfl ?_
      cases h
      exact x_lreturn dX2_hauled_150 (x_is.rf _ _)
    · have h := x_neg c1 h
      refine x_iload dX2_hauled_48 3 rfl ?_
      refine x_if_le 148 dX2_hauled_50 (by decide) (fun c2 => ?_) (fun c2 => ?_)
      · have h := x_pos c2 h
        refine x_lload dX2_hauled_148 1 rfl ?_
        cases h
        exact x_lreturn dX2_hauled_150 (x_is.rf _ _)
      · have h := x_neg c2 h
        refine x_aload_n dX2_hauled_53 0 rfl rfl ?_
        refine x_lload dX2_hauled_54 1 rfl ?_
        refine x_iload dX2_hauled_56 2 rfl ?_
        refine x_cV (As := [.long x5, .int x7]) (wc := (WRig G b ropes acts start reached kinds strengths moved needs forbids)) (w1 := (WRig G b ropes acts start reached kinds strengths moved needs forbids)) (pre := []) (post := []) (rest := []) (st1 := [.int (M_X2_canReach ropes reached x5 x7)]) (ws1 := (WRig G b ropes acts start reached kinds strengths moved needs forbids)) (ci := 2) 0 dX2_hauled_58 (c_X2_canReach (b := b) rfl) pk_X2_canReach ml_X2_82 (x_full _) rfl rfl rfl rfl rfl rfl rfl rfl (x_full _).symm ?_
        refine x_if_eq 148 dX2_hauled_61 (by decide) (fun c3 => ?_) (fun c3 => ?_)
        · have h := x_pos c3 h
          refine x_lload dX2_hauled_148 1 rfl ?_
          cases h
          exact x_lreturn dX2_hauled_150 (x_is.rf _ _)
        · have h := x_neg c3 h
          refine x_aload_n dX2_hauled_64 0 rfl rfl ?_
          refine x_dup dX2_hauled_65 rfl ?_
          refine x_get (ci := 2) 3 0 dX2_hauled_66 fl_X2_22 inX2 rfl (by decide) ⟨rfl, rfl, rfl⟩ rfl rfl ?_
          refine x_iconst 1 dX2_hauled_69 (by decide) ?_
          refine x_iload dX2_hauled_70 2 rfl ?_
          refine x_ishl dX2_hauled_72 ?_
          refine x_ior dX2_hauled_73 ?_
          refine x_put (ci := 2) (ty := .int) 3 0 (WRig G b ropes acts start ((reached ||| ((1 : Int32) <<< (x7 &&& (31 : Int32))))) kinds strengths moved needs forbids) dX2_hauled_74 fl_X2_22 inX2 tyX2_ok nmX2 rfl (by decide) ⟨rfl, rfl, rfl, rfl, rfl⟩ rfl rfl rfl rfl rfl ?_
          refine x_lload dX2_hauled_77 1 rfl ?_
          refine x_iload dX2_hauled_79 2 rfl ?_
          refine x_cS (As := [.long x5, .int x7]) (wc := ([] : va_W)) (w1 := ([] : va_W)) (pre := []) (post := (WRig G b ropes acts start ((reached ||| ((1 : Int32) <<< (x7 &&& (31 : Int32))))) kinds strengths moved needs forbids)) (rest := []) (st1 := [.int (M_X5_strain x5 x7)]) (ws1 := (WRig G b ropes acts start ((reached ||| ((1 : Int32) <<< (x7 &&& (31 : Int32))))) kinds strengths moved needs forbids)) dX2_hauled_81 (c_X5_strain rfl) pk_X5_strain ml_X2_86 rfl rfl rfl rfl rfl rfl rfl ?_
          refine x_iload dX2_hauled_84 3 rfl ?_
          refine x_iadd dX2_hauled_86 ?_
          refine x_istore [(10, .int ((M_X5_strain x5 x7) + x8)), (0, .ref (b 0)), (5, .long x5), (7, .int x7), (8, .int x8), (9, .int x9)] dX2_hauled_87 (by decide) rfl ?_
          refine x_iload dX2_hauled_89 0 rfl ?_
          refine x_aload_n dX2_hauled_91 1 rfl rfl ?_
          refine x_iload dX2_hauled_92 3 rfl ?_
          obtain ⟨r4, e5, h⟩ := x_bind h
          refine x_cV (As := [.int x7]) (wc := (WRig G b ropes acts start ((reached ||| ((1 : Int32) <<< (x7 &&& (31 : Int32))))) kinds strengths moved needs forbids)) (w1 := (WRig G b ropes acts start ((reached ||| ((1 : Int32) <<< (x7 &&& (31 : Int32))))) kinds strengths moved needs forbids)) (pre := []) (post := []) (rest := [.int ((M_X5_strain x5 x7) + x8)]) (st1 := [.int r4, .int ((M_X5_strain x5 x7) + x8)]) (ws1 := (WRig G b ropes acts start ((reached ||| ((1 : Int32) <<< (x7 &&& (31 : Int32))))) kinds strengths moved needs forbids)) (ci := 2) 0 dX2_hauled_94 (c_X2_holds (b := b) e5) pk_X2_holds ml_X2_90 (x_full _) rfl rfl rfl rfl rfl rfl rfl rfl (x_full _).symm ?_
          refine x_icmp_le 110 dX2_hauled_97 (by decide) (fun c6 => ?_) (fun c6 => ?_)
          · have h := x_pos c6 h
            refine x_lload dX2_hauled_110 2 rfl ?_
            refine x_iload dX2_hauled_112 3 rfl ?_
            refine x_iload dX2_hauled_114 0 rfl ?_
            refine x_cS (As := [.long x5, .int x7, .int ((M_X5_strain x5 x7) + x8)]) (wc := ([] : va_W)) (w1 := ([] : va_W)) (pre := []) (post := (WRig G b ropes acts start ((reached ||| ((1 : Int32) <<< (x7 &&& (31 : Int32))))) kinds strengths moved needs forbids)) (rest := []) (st1 := [.long (M_X5_afterStrain x5 x7 ((M_X5_strain x5 x7) + x8))]) (ws1 := (WRig G b ropes acts start ((reached ||| ((1 : Int32) <<< (x7 &&& (31 : Int32))))) kinds strengths moved needs forbids)) dX2_hauled_116 (c_X5_afterStrain rfl) pk_X5_afterStrain ml_X2_41 rfl rfl rfl rfl rfl rfl rfl ?_
            refine x_lstore [(5, .long (M_X5_afterStrain x5 x7 ((M_X5_strain x5 x7) + x8))), (10, .int ((M_X5_strain x5 x7) + x8)), (0, .ref (b 0)), (7, .int x7), (8, .int x8), (9, .int x9)] dX2_hauled_119 (by decide) rfl ?_
            refine x_aload_n dX2_hauled_121 2 rfl rfl ?_
            refine x_iload dX2_hauled_122 3 rfl ?_
            obtain ⟨r7, e8, h⟩ := x_bind h
            refine x_cV (As := [.int x7]) (wc := (WRig G b ropes acts start ((reached ||| ((1 : Int32) <<< (x7 &&& (31 : Int32))))) kinds strengths moved needs forbids)) (w1 := (WRig G b ropes acts start ((reached ||| ((1 : Int32) <<< (x7 &&& (31 : Int32))))) kinds strengths moved needs forbids)) (pre := []) (post := []) (rest := []) (st1 := [.int r7]) (ws1 := (WRig G b ropes acts start ((reached ||| ((1 : Int32) <<< (x7 &&& (31 : Int32))))) kinds strengths moved needs forbids)) (ci := 2) 0 dX2_hauled_124 (c_X2_kind (b := b) e8) pk_X2_kind ml_X2_51 (x_full _) rfl rfl rfl rfl rfl rfl rfl rfl (x_full _).symm ?_
            refine x_iload dX2_hauled_127 4 rfl ?_
            refine x_cSN (As := [.int r7, .int x8]) (wc := ([] : va_W)) (w1 := ([] : va_W)) (pre := []) (post := (WRig G b ropes acts start ((reached ||| ((1 : Int32) <<< (x7 &&& (31 : Int32))))) kinds strengths moved needs forbids)) (rest := []) (st1 := [.int (M_X6_passed r7 x8)]) (ws1 := (WRig G b ropes acts start ((reached ||| ((1 : Int32) <<< (x7 &&& (31 : Int32))))) kinds strengths moved needs forbids)) dX2_hauled_129 (c_X6_passed rfl) pk_X6_passed (fun s hs => hs.2.2.1) rfl rfl rfl rfl rfl rfl rfl ?_
            refine x_istore [(8, .int (M_X6_passed r7 x8)), (5, .long (M_X5_afterStrain x5 x7 ((M_X5_strain x5 x7) + x8))), (10, .int ((M_X5_strain x5 x7) + x8)), (0, .ref (b 0)), (7, .int x7), (9, .int x9)] dX2_hauled_132 (by decide) rfl ?_
            refine x_aload_n dX2_hauled_134 3 rfl rfl ?_
            refine x_iload dX2_hauled_135 4 rfl ?_
            obtain ⟨r9, e10, h⟩ := x_bind h
            refine x_cV (As := [.int x7]) (wc := (WRig G b ropes acts start ((reached ||| ((1 : Int32) <<< (x7 &&& (31 : Int32))))) kinds strengths moved needs forbids)) (w1 := (WRig G b ropes acts start ((reached ||| ((1 : Int32) <<< (x7 &&& (31 : Int32))))) kinds strengths moved needs forbids)) (pre := []) (post := []) (rest := []) (st1 := [.int r9]) (ws1 := (WRig G b ropes acts start ((reached ||| ((1 : Int32) <<< (x7 &&& (31 : Int32))))) kinds strengths moved needs forbids)) (ci := 2) 0 dX2_hauled_137 (c_X2_target (b := b) e10) pk_X2_target ml_X2_55 (x_full _) rfl rfl rfl rfl rfl rfl rfl rfl (x_full _).symm ?_
            refine x_istore [(7, .int r9), (8, .int (M_X6_passed r7 x8)), (5, .long (M_X5_afterStrain x5 x7 ((M_X5_strain x5 x7) + x8))), (10, .int ((M_X5_strain x5 x7) + x8)), (0, .ref (b 0)), (9, .int x9)] dX2_hauled_140 (by decide) rfl ?_
            refine x_iinc (j := 5) (1 : Int32) [(9, .int (x9 + (1 : Int32))), (7, .int r9), (8, .int (M_X6_passed r7 x8)), (5, .long (M_X5_afterStrain x5 x7 ((M_X5_strain x5 x7) + x8))), (10, .int ((M_X5_strain x5 x7) + x8)), (0, .ref (b 0))] dX2_hauled_142 (by decide) rfl (by decide) rfl ?_
            refine x_goto 41 dX2_hauled_145 (by decide) ?_
            refine x_lv [5, 3, 1, 2, 0] rfl ?_
            exact ih _ _ _ _ _ h
          · have h := x_neg c6 h
            refine x_lload dX2_hauled_100 2 rfl ?_
            refine x_iconst 1 dX2_hauled_102 (by decide) ?_
            refine x_iload dX2_hauled_103 3 rfl ?_
            refine x_ishl dX2_hauled_105 ?_
            obtain ⟨r11, e12, h⟩ := x_bind h
            refine x_cS (As := [.long x5, .int ((1 : Int32) <<< (x7 &&& (31 : Int32)))]) (wc := ([] : va_W)) (w1 := ([] : va_W)) (pre := []) (post := (WRig G b ropes acts start ((reached ||| ((1 : Int32) <<< (x7 &&& (31 : Int32))))) kinds strengths moved needs forbids)) (rest := []) (st1 := [.long r11]) (ws1 := (WRig G b ropes acts start ((reached ||| ((1 : Int32) <<< (x7 &&& (31 : Int32))))) kinds strengths moved needs forbids)) dX2_hauled_106 (c_X5_afterParted e12) pk_X5_afterParted ml_X2_93 rfl rfl rfl rfl rfl rfl rfl ?_
            cases h
            exact x_lreturn dX2_hauled_109 (x_is.rf _ _)
def M_X2_hauled_b31 (ropes : Int32) (kinds : (Nat → Int32)) (strengths : (Nat → Int32)) (moved : (Nat → Int32)) (reached : Int32) (x5 : Int64) (x7 : Int32) (s0 : Int32) : Option (Int64 × Int32) :=
  M_X2_hauled_b41 ropes kinds strengths moved x_fuel (0 : Int32) x5 x7 s0 (0 : Int32)
set_option maxHeartbeats 4000000 in
set_option maxRecDepth 100000 in
theorem w_X2_hauled_b31 {G : x_G} {l : Launch} {b : Nat → Nat} {ropes : Int32} {kinds : (Nat → Int32)} {strengths : (Nat → Int32)} {moved : (Nat → Int32)} {acts : Int32} {start : Int64} {needs : (Nat → Int32)} {forbids : (Nat → Int32)} {res : Int64 × Int32} (reached : Int32) (x5 : Int64) (x7 : Int32) (s0 : Int32) (h : M_X2_hauled_b31 ropes kinds strengths moved reached x5 x7 s0 = some res) : X G l RX2 cX2_hauled 11 (x_R 4 0 0) (x_Cm G (some .long) false (x_is (some (.long res.1)) (WRig G b ropes acts start res.2 kinds strengths moved needs forbids)) 0 0) 0 0 31 [(0, .ref (b 0)), (5, .long x5), (7, .int x7)] [.int s0] (WRig G b ropes acts start reached kinds strengths moved needs forbids) := by
  unfold M_X2_hauled_b31 at h
  refine x_istore [(8, .int s0), (0, .ref (b 0)), (5, .long x5), (7, .int x7)] dX2_hauled_31 (by decide) rfl ?_
  refine x_aload_n dX2_hauled_33 1 rfl rfl ?_
  refine x_iconst 0 dX2_hauled_34 (by decide) ?_
  refine x_put (ci := 2) (ty := .int) 3 0 (WRig G b ropes acts start ((0 : Int32)) kinds strengths moved needs forbids) dX2_hauled_35 fl_X2_22 inX2 tyX2_ok nmX2 rfl (by decide) ⟨rfl, rfl, rfl, rfl, rfl⟩ rfl rfl rfl rfl rfl ?_
  refine x_iconst 0 dX2_hauled_38 (by decide) ?_
  refine x_istore [(9, .int (0 : Int32)), (8, .int s0), (0, .ref (b 0)), (5, .long x5), (7, .int x7)] dX2_hauled_39 (by decide) rfl ?_
  refine x_lv [2, 3, 4, 1, 0] rfl ?_
  exact w_X2_hauled_b41  _ _ _ _ _ _ h
def M_X2_hauled_b29 (ropes : Int32) (kinds : (Nat → Int32)) (strengths : (Nat → Int32)) (moved : (Nat → Int32)) (reached : Int32) (x4 : Int32) (x5 : Int64) (x7 : Int32) : Option (Int64 × Int32) :=
  M_X2_hauled_b31 ropes kinds strengths moved reached x5 x7 x4
set_option maxHeartbeats 4000000 in
set_option maxRecDepth 100000 in
theorem w_X2_hauled_b29 {G : x_G} {l : Launch} {b : Nat → Nat} {ropes : Int32} {kinds : (Nat → Int32)} {strengths : (Nat → Int32)} {moved : (Nat → Int32)} {acts : Int32} {start : Int64} {needs : (Nat → Int32)} {forbids : (Nat → Int32)} {res : Int64 × Int32} (reached : Int32) (x4 : Int32) (x5 : Int64) (x7 : Int32) (h : M_X2_hauled_b29 ropes kinds strengths moved reached x4 x5 x7 = some res) : X G l RX2 cX2_hauled 11 (x_R 4 0 0) (x_Cm G (some .long) false (x_is (some (.long res.1)) (WRig G b ropes acts start res.2 kinds strengths moved needs forbids)) 0 0) 0 0 29 [(0, .ref (b 0)), (4, .int x4), (5, .long x5), (7, .int x7)] [] (WRig G b ropes acts start reached kinds strengths moved needs forbids) := by
  unfold M_X2_hauled_b29 at h
  refine x_iload dX2_hauled_29 1 rfl ?_
  refine x_lv [0, 2, 3] rfl ?_
  exact w_X2_hauled_b31  _ _ _ _ h
def M_X2_hauled (ropes : Int32) (kinds : (Nat → Int32)) (strengths : (Nat → Int32)) (moved : (Nat → Int32)) (reached : Int32) (x1 : Int64) (x3 : Int32) (x4 : Int32) : Option (Int64 × Int32) :=
  if (M_X5_frostIn x1) = 0 then
  (M_X2_hauled_b29 ropes kinds strengths moved reached x4 x1 x3)
  else
  ((M_X2_kind ropes kinds x3).bind fun r14 =>
  if r14 = (4 : Int32) then
  (M_X2_hauled_b29 ropes kinds strengths moved reached x4 x1 x3)
  else
  (M_X2_hauled_b31 ropes kinds strengths moved reached x1 x3 (x4 + (1 : Int32))))
set_option maxHeartbeats 4000000 in
set_option maxRecDepth 100000 in
theorem c_X2_hauled {G : x_G} {l : Launch} {b : Nat → Nat} {ropes : Int32} {kinds : (Nat → Int32)} {strengths : (Nat → Int32)} {moved : (Nat → Int32)} {acts : Int32} {start : Int64} {needs : (Nat → Int32)} {forbids : (Nat → Int32)} {reached : Int32} {x1 : Int64} {x3 : Int32} {x4 : Int32} {res : Int64 × Int32} (h : M_X2_hauled ropes kinds strengths moved reached x1 x3 x4 = some res) : x_M G l yX2_hauled cX2_hauled 11 (some .long) (4) 0 0 [.ref (b 0), .long x1, .int x3, .int x4] (WRig G b ropes acts start reached kinds strengths moved needs forbids) (x_is (some (.long res.1)) (WRig G b ropes acts start res.2 kinds strengths moved needs forbids)) := by
  unfold M_X2_hauled at h
  refine x_enter (ini := false) (by decide) rfl (by decide) rfl (Nat.le_of_ble_eq_true rfl) ?_
  refine x_lload_n dX2_hauled_0 1 rfl rfl ?_
  refine x_lstore [(5, .long x1), (0, .ref (b 0)), (1, .long x1), (3, .int x3), (4, .int x4)] dX2_hauled_1 (by decide) rfl ?_
  refine x_iload_n dX2_hauled_3 3 rfl rfl ?_
  refine x_istore [(7, .int x3), (5, .long x1), (0, .ref (b 0)), (1, .long x1), (3, .int x3), (4, .int x4)] dX2_hauled_4 (by decide) rfl ?_
  refine x_lload_n dX2_hauled_6 3 rfl rfl ?_
  refine x_cS (As := [.long x1]) (wc := ([] : va_W)) (w1 := ([] : va_W)) (pre := []) (post := (WRig G b ropes acts start reached kinds strengths moved needs forbids)) (rest := []) (st1 := [.int (M_X5_frostIn x1)]) (ws1 := (WRig G b ropes acts start reached kinds strengths moved needs forbids)) dX2_hauled_7 (c_X5_frostIn rfl) pk_X5_frostIn ml_X2_79 rfl rfl rfl rfl rfl rfl rfl ?_
  refine x_if_eq 29 dX2_hauled_10 (by decide) (fun c13 => ?_) (fun c13 => ?_)
  · have h := x_pos c13 h
    refine x_lv [2, 5, 1, 0] rfl ?_
    exact w_X2_hauled_b29  _ _ _ _ h
  · have h := x_neg c13 h
    refine x_aload_n dX2_hauled_13 2 rfl rfl ?_
    refine x_iload_n dX2_hauled_14 4 rfl rfl ?_
    obtain ⟨r14, e15, h⟩ := x_bind h
    refine x_cV (As := [.int x3]) (wc := (WRig G b ropes acts start reached kinds strengths moved needs forbids)) (w1 := (WRig G b ropes acts start reached kinds strengths moved needs forbids)) (pre := []) (post := []) (rest := []) (st1 := [.int r14]) (ws1 := (WRig G b ropes acts start reached kinds strengths moved needs forbids)) (ci := 2) 0 dX2_hauled_15 (c_X2_kind (b := b) e15) pk_X2_kind ml_X2_51 (x_full _) rfl rfl rfl rfl rfl rfl rfl rfl (x_full _).symm ?_
    refine x_iconst 4 dX2_hauled_18 (by decide) ?_
    refine x_icmp_eq 29 dX2_hauled_19 (by decide) (fun c16 => ?_) (fun c16 => ?_)
    · have h := x_pos c16 h
      refine x_lv [2, 5, 1, 0] rfl ?_
      exact w_X2_hauled_b29  _ _ _ _ h
    · have h := x_neg c16 h
      refine x_iload dX2_hauled_22 5 rfl ?_
      refine x_iconst 1 dX2_hauled_24 (by decide) ?_
      refine x_iadd dX2_hauled_25 ?_
      refine x_goto 31 dX2_hauled_26 (by decide) ?_
      refine x_lv [2, 1, 0] rfl ?_
      exact w_X2_hauled_b31  _ _ _ _ h
theorem pk_X2_byLot : x_pv RX2 yX2_byLot cX2_byLot 6 (some .long) 2 := ⟨⟨co_X2_byLot, ni_X2, by decide, by decide +kernel⟩, im_X2_byLot, se_X2_byLot⟩
def M_X2_byLot (ropes : Int32) (kinds : (Nat → Int32)) (strengths : (Nat → Int32)) (moved : (Nat → Int32)) (reached : Int32) (x1 : Int64) (x3 : Int32) : Option (Int64 × Int32) :=
  if 0 < ropes then
  (if ¬ ropes = 0 then
  if ((x3 / (8 : Int32)) - (x3 / (8 : Int32)) / (8 : Int32) * (8 : Int32)) = (5 : Int32) then
  (if (M_X5_isParted x1 (x3 - x3 / ropes * ropes)) = 0 then
  (if (M_X5_isLetGo x1 (x3 - x3 / ropes * ropes)) = 0 then
  (some ((M_X5_afterLetGo x1 (x3 - x3 / ropes * ropes)), reached))
  else
  (some ((M_X5_afterMadeOff x1 (x3 - x3 / ropes * ropes)), reached)))
  else
  (some (x1, reached)))
  else
  (if ((x3 / (8 : Int32)) - (x3 / (8 : Int32)) / (8 : Int32) * (8 : Int32)) = (6 : Int32) then
  (if (M_X5_isParted x1 (x3 - x3 / ropes * ropes)) = 0 then
  (some (x1, reached))
  else
  (some ((M_X5_afterSpliced x1 (x3 - x3 / ropes * ropes)), reached)))
  else
  (if ((x3 / (8 : Int32)) - (x3 / (8 : Int32)) / (8 : Int32) * (8 : Int32)) = (7 : Int32) then
  (some ((M_X5_afterFrost x1 ((1 : Int32) - (M_X5_frostIn x1))), reached))
  else
  (if (M_X5_isFast x1 (x3 - x3 / ropes * ropes)) = 0 then
  (some (x1, reached))
  else
  ((M_X2_hauled ropes kinds strengths moved reached x1 (x3 - x3 / ropes * ropes) ((1 : Int32) + ((x3 / (64 : Int32)) - (x3 / (64 : Int32)) / (4 : Int32) * (4 : Int32)))).bind fun r10 =>
  some (r10.1, r10.2)))))
  else none)
  else
  (some (x1, reached))
set_option maxHeartbeats 4000000 in
set_option maxRecDepth 100000 in
theorem c_X2_byLot {G : x_G} {l : Launch} {b : Nat → Nat} {ropes : Int32} {kinds : (Nat → Int32)} {strengths : (Nat → Int32)} {moved : (Nat → Int32)} {acts : Int32} {start : Int64} {needs : (Nat → Int32)} {forbids : (Nat → Int32)} {reached : Int32} {x1 : Int64} {x3 : Int32} {res : Int64 × Int32} (h : M_X2_byLot ropes kinds strengths moved reached x1 x3 = some res) : x_M G l yX2_byLot cX2_byLot 6 (some .long) (5) 0 0 [.ref (b 0), .long x1, .int x3] (WRig G b ropes acts start reached kinds strengths moved needs forbids) (x_is (some (.long res.1)) (WRig G b ropes acts start res.2 kinds strengths moved needs forbids)) := by
  unfold M_X2_byLot at h
  refine x_enter (ini := false) (by decide) rfl (by decide) rfl (Nat.le_of_ble_eq_true rfl) ?_
  refine x_aload_n dX2_byLot_0 0 rfl rfl ?_
  refine x_get (ci := 2) 0 0 dX2_byLot_1 fl_X2_9 inX2 rfl (by decide) ⟨rfl, rfl, rfl⟩ rfl rfl ?_
  refine x_if_gt 9 dX2_byLot_4 (by decide) (fun c1 => ?_) (fun c1 => ?_)
  · have h := x_pos c1 h
    refine x_iload_n dX2_byLot_9 2 rfl rfl ?_
    refine x_aload_n dX2_byLot_10 0 rfl rfl ?_
    refine x_get (ci := 2) 0 0 dX2_byLot_11 fl_X2_9 inX2 rfl (by decide) ⟨rfl, rfl, rfl⟩ rfl rfl ?_
    obtain ⟨b2, h⟩ := x_guard h
    refine x_irem dX2_byLot_14 b2 ?_
    refine x_istore [(4, .int (x3 - x3 / ropes * ropes)), (0, .ref (b 0)), (1, .long x1), (3, .int x3)] dX2_byLot_15 (by decide) rfl ?_
    refine x_iload_n dX2_byLot_17 3 rfl rfl ?_
    refine x_bipush 8 dX2_byLot_18 (by decide) ?_
    refine x_idiv dX2_byLot_20 (by decide) ?_
    refine x_bipush 8 dX2_byLot_21 (by decide) ?_
    refine x_irem dX2_byLot_23 (by decide) ?_
    refine x_istore [(5, .int ((x3 / (8 : Int32)) - (x3 / (8 : Int32)) / (8 : Int32) * (8 : Int32))), (4, .int (x3 - x3 / ropes * ropes)), (0, .ref (b 0)), (1, .long x1), (3, .int x3)] dX2_byLot_24 (by decide) rfl ?_
    refine x_iload dX2_byLot_26 0 rfl ?_
    by_cases c3 : ((x3 / (8 : Int32)) - (x3 / (8 : Int32)) / (8 : Int32) * (8 : Int32)) = (5 : Int32)
    · have h := x_pos c3 h
      refine x_tswEq (off := 28) (5 : Int32) 56 c3 dX2_byLot_28 (by decide) (by decide) (by decide) (by decide) ?_
      refine x_lload_n dX2_byLot_56 3 rfl rfl ?_
      refine x_iload dX2_byLot_57 1 rfl ?_
      refine x_cS (As := [.long x1, .int (x3 - x3 / ropes * ropes)]) (wc := ([] : va_W)) (w1 := ([] : va_W)) (pre := []) (post := (WRig G b ropes acts start reached kinds strengths moved needs forbids)) (rest := []) (st1 := [.int (M_X5_isParted x1 (x3 - x3 / ropes * ropes))]) (ws1 := (WRig G b ropes acts start reached kinds strengths moved needs forbids)) dX2_byLot_59 (c_X5_isParted rfl) pk_X5_isParted ml_X2_104 rfl rfl rfl rfl rfl rfl rfl ?_
      refine x_if_eq 67 dX2_byLot_62 (by decide) (fun c4 => ?_) (fun c4 => ?_)
      · have h := x_pos c4 h
        refine x_lload_n dX2_byLot_67 3 rfl rfl ?_
        refine x_iload dX2_byLot_68 1 rfl ?_
        refine x_cS (As := [.long x1, .int (x3 - x3 / ropes * ropes)]) (wc := ([] : va_W)) (w1 := ([] : va_W)) (pre := []) (post := (WRig G b ropes acts start reached kinds strengths moved needs forbids)) (rest := []) (st1 := [.int (M_X5_isLetGo x1 (x3 - x3 / ropes * ropes))]) (ws1 := (WRig G b ropes acts start reached kinds strengths moved needs forbids)) dX2_byLot_70 (c_X5_isLetGo rfl) pk_X5_isLetGo ml_X2_107 rfl rfl rfl rfl rfl rfl rfl ?_
        refine x_if_eq 85 dX2_byLot_73 (by decide) (fun c5 => ?_) (fun c5 => ?_)
        · have h := x_pos c5 h
          refine x_lload_n dX2_byLot_85 3 rfl rfl ?_
          refine x_iload dX2_byLot_86 1 rfl ?_
          refine x_cS (As := [.long x1, .int (x3 - x3 / ropes * ropes)]) (wc := ([] : va_W)) (w1 := ([] : va_W)) (pre := []) (post := (WRig G b ropes acts start reached kinds strengths moved needs forbids)) (rest := []) (st1 := [.long (M_X5_afterLetGo x1 (x3 - x3 / ropes * ropes))]) (ws1 := (WRig G b ropes acts start reached kinds strengths moved needs forbids)) dX2_byLot_88 (c_X5_afterLetGo rfl) pk_X5_afterLetGo ml_X2_113 rfl rfl rfl rfl rfl rfl rfl ?_
          cases h
          exact x_lreturn dX2_byLot_91 (x_is.rf _ _)
        · have h := x_neg c5 h
          refine x_lload_n dX2_byLot_76 3 rfl rfl ?_
          refine x_iload dX2_byLot_77 1 rfl ?_
          refine x_cS (As := [.long x1, .int (x3 - x3 / ropes * ropes)]) (wc := ([] : va_W)) (w1 := ([] : va_W)) (pre := []) (post := (WRig G b ropes acts start reached kinds strengths moved needs forbids)) (rest := []) (st1 := [.long (M_X5_afterMadeOff x1 (x3 - x3 / ropes * ropes))]) (ws1 := (WRig G b ropes acts start reached kinds strengths moved needs forbids)) dX2_byLot_79 (c_X5_afterMadeOff rfl) pk_X5_afterMadeOff ml_X2_110 rfl rfl rfl rfl rfl rfl rfl ?_
          refine x_goto 91 dX2_byLot_82 (by decide) ?_
          cases h
          exact x_lreturn dX2_byLot_91 (x_is.rf _ _)
      · have h := x_neg c4 h
        refine x_lload_n dX2_byLot_65 3 rfl rfl ?_
        cases h
        exact x_lreturn dX2_byLot_66 (x_is.rf _ _)
    · have h := x_neg c3 h
      by_cases c6 : ((x3 / (8 : Int32)) - (x3 / (8 : Int32)) / (8 : Int32) * (8 : Int32)) = (6 : Int32)
      · have h := x_pos c6 h
        refine x_tswEq (off := 64) (6 : Int32) 92 c6 dX2_byLot_28 (by decide) (by decide) (by decide) (by decide) ?_
        refine x_lload_n dX2_byLot_92 3 rfl rfl ?_
        refine x_iload dX2_byLot_93 1 rfl ?_
        refine x_cS (As := [.long x1, .int (x3 - x3 / ropes * ropes)]) (wc := ([] : va_W)) (w1 := ([] : va_W)) (pre := []) (post := (WRig G b ropes acts start reached kinds strengths moved needs forbids)) (rest := []) (st1 := [.int (M_X5_isParted x1 (x3 - x3 / ropes * ropes))]) (ws1 := (WRig G b ropes acts start reached kinds strengths moved needs forbids)) dX2_byLot_95 (c_X5_isParted rfl) pk_X5_isParted ml_X2_104 rfl rfl rfl rfl rfl rfl rfl ?_
        refine x_if_eq 110 dX2_byLot_98 (by decide) (fun c7 => ?_) (fun c7 => ?_)
        · have h := x_pos c7 h
          refine x_lload_n dX2_byLot_110 3 rfl rfl ?_
          cases h
          exact x_lreturn dX2_byLot_111 (x_is.rf _ _)
        · have h := x_neg c7 h
          refine x_lload_n dX2_byLot_101 3 rfl rfl ?_
          refine x_iload dX2_byLot_102 1 rfl ?_
          refine x_cS (As := [.long x1, .int (x3 - x3 / ropes * ropes)]) (wc := ([] : va_W)) (w1 := ([] : va_W)) (pre := []) (post := (WRig G b ropes acts start reached kinds strengths moved needs forbids)) (rest := []) (st1 := [.long (M_X5_afterSpliced x1 (x3 - x3 / ropes * ropes))]) (ws1 := (WRig G b ropes acts start reached kinds strengths moved needs forbids)) dX2_byLot_104 (c_X5_afterSpliced rfl) pk_X5_afterSpliced ml_X2_116 rfl rfl rfl rfl rfl rfl rfl ?_
          refine x_goto 111 dX2_byLot_107 (by decide) ?_
          cases h
          exact x_lreturn dX2_byLot_111 (x_is.rf _ _)
      · have h := x_neg c6 h
        by_cases c8 : ((x3 / (8 : Int32)) - (x3 / (8 : Int32)) / (8 : Int32) * (8 : Int32)) = (7 : Int32)
        · have h := x_pos c8 h
          refine x_tswEq (off := 84) (7 : Int32) 112 c8 dX2_byLot_28 (by decide) (by decide) (by decide) (by decide) ?_
          refine x_lload_n dX2_byLot_112 3 rfl rfl ?_
          refine x_iconst 1 dX2_byLot_113 (by decide) ?_
          refine x_lload_n dX2_byLot_114 3 rfl rfl ?_
          refine x_cS (As := [.long x1]) (wc := ([] : va_W)) (w1 := ([] : va_W)) (pre := []) (post := (WRig G b ropes acts start reached kinds strengths moved needs forbids)) (rest := [.int (1 : Int32), .long x1]) (st1 := [.int (M_X5_frostIn x1), .int (1 : Int32), .long x1]) (ws1 := (WRig G b ropes acts start reached kinds strengths moved needs forbids)) dX2_byLot_115 (c_X5_frostIn rfl) pk_X5_frostIn ml_X2_79 rfl rfl rfl rfl rfl rfl rfl ?_
          refine x_isub dX2_byLot_118 ?_
          refine x_cS (As := [.long x1, .int ((1 : Int32) - (M_X5_frostIn x1))]) (wc := ([] : va_W)) (w1 := ([] : va_W)) (pre := []) (post := (WRig G b ropes acts start reached kinds strengths moved needs forbids)) (rest := []) (st1 := [.long (M_X5_afterFrost x1 ((1 : Int32) - (M_X5_frostIn x1)))]) (ws1 := (WRig G b ropes acts start reached kinds strengths moved needs forbids)) dX2_byLot_119 (c_X5_afterFrost rfl) pk_X5_afterFrost ml_X2_119 rfl rfl rfl rfl rfl rfl rfl ?_
          cases h
          exact x_lreturn dX2_byLot_122 (x_is.rf _ _)
        · have h := x_neg c8 h
          refine x_tswOut 123 dX2_byLot_28 (by have q0 := lv_neT c3 (a := 5) (by decide); have q1 := lv_neT c6 (a := 6) (by decide); have q2 := lv_neT c8 (a := 7) (by decide); omega) (by decide) ?_
          refine x_lload_n dX2_byLot_123 3 rfl rfl ?_
          refine x_iload dX2_byLot_124 1 rfl ?_
          refine x_cS (As := [.long x1, .int (x3 - x3 / ropes * ropes)]) (wc := ([] : va_W)) (w1 := ([] : va_W)) (pre := []) (post := (WRig G b ropes acts start reached kinds strengths moved needs forbids)) (rest := []) (st1 := [.int (M_X5_isFast x1 (x3 - x3 / ropes * ropes))]) (ws1 := (WRig G b ropes acts start reached kinds strengths moved needs forbids)) dX2_byLot_126 (c_X5_isFast rfl) pk_X5_isFast ml_X2_101 rfl rfl rfl rfl rfl rfl rfl ?_
          refine x_if_eq 150 dX2_byLot_129 (by decide) (fun c9 => ?_) (fun c9 => ?_)
          · have h := x_pos c9 h
            refine x_lload_n dX2_byLot_150 3 rfl rfl ?_
            cases h
            exact x_lreturn dX2_byLot_151 (x_is.rf _ _)
          · have h := x_neg c9 h
            refine x_aload_n dX2_byLot_132 2 rfl rfl ?_
            refine x_lload_n dX2_byLot_133 3 rfl rfl ?_
            refine x_iload dX2_byLot_134 1 rfl ?_
            refine x_iconst 1 dX2_byLot_136 (by decide) ?_
            refine x_iload_n dX2_byLot_137 4 rfl rfl ?_
            refine x_bipush 64 dX2_byLot_138 (by decide) ?_
            refine x_idiv dX2_byLot_140 (by decide) ?_
            refine x_iconst 4 dX2_byLot_141 (by decide) ?_
            refine x_irem dX2_byLot_142 (by decide) ?_
            refine x_iadd dX2_byLot_143 ?_
            obtain ⟨r10, e11, h⟩ := x_bind h
            refine x_cV (As := [.long x1, .int (x3 - x3 / ropes * ropes), .int ((1 : Int32) + ((x3 / (64 : Int32)) - (x3 / (64 : Int32)) / (4 : Int32) * (4 : Int32)))]) (wc := (WRig G b ropes acts start reached kinds strengths moved needs forbids)) (w1 := (WRig G b ropes acts start r10.2 kinds strengths moved needs forbids)) (pre := []) (post := []) (rest := []) (st1 := [.long r10.1]) (ws1 := (WRig G b ropes acts start r10.2 kinds strengths moved needs forbids)) (ci := 2) 0 dX2_byLot_144 (c_X2_hauled (b := b) e11) pk_X2_hauled ml_X2_122 (x_full _) rfl rfl rfl rfl rfl rfl rfl rfl (x_full _).symm ?_
            refine x_goto 151 dX2_byLot_147 (by decide) ?_
            cases h
            exact x_lreturn dX2_byLot_151 (x_is.rf _ _)
  · have h := x_neg c1 h
    refine x_lload_n dX2_byLot_7 1 rfl rfl ?_
    cases h
    exact x_lreturn dX2_byLot_8 (x_is.rf _ _)
theorem pk_X6_isOf : x_ps yX6_isOf cX6_isOf 2 (some .boolean) 2 := ⟨⟨co_X6_isOf, ni_X6, by decide, by decide +kernel⟩, sm_X6_isOf⟩
def M_X6_isOf_b19 (x0 : Int32) (x1 : Int32) : Int32 :=
  if x0 = (5 : Int32) then
  (if x1 = (3 : Int32) then
  ((1 : Int32))
  else
  ((0 : Int32)))
  else
  ((0 : Int32))
set_option maxHeartbeats 4000000 in
set_option maxRecDepth 100000 in
theorem w_X6_isOf_b19 {G : x_G} {l : Launch} {res : Int32} (x0 : Int32) (x1 : Int32) (h : M_X6_isOf_b19 x0 x1 = res) : X G l RX6 cX6_isOf 2 (x_R 0 0 0) (x_Cm G (some .boolean) false (x_is (some (.int res)) ([] : va_W)) 0 0) 0 0 19 [(0, .int x0), (1, .int x1)] [] ([] : va_W) := by
  unfold M_X6_isOf_b19 at h
  refine x_iload_n dX6_isOf_19 0 rfl rfl ?_
  refine x_iconst 5 dX6_isOf_20 (by decide) ?_
  refine x_icmp_ne 33 dX6_isOf_21 (by decide) (fun c1 => ?_) (fun c1 => ?_)
  · have h := x_neg c1 h
    refine x_iconst 0 dX6_isOf_33 (by decide) ?_
    subst h
    exact x_ireturn dX6_isOf_34 rfl (x_is.rf _ _)
  · have h := x_pos c1 h
    refine x_iload_n dX6_isOf_24 1 rfl rfl ?_
    refine x_iconst 3 dX6_isOf_25 (by decide) ?_
    refine x_icmp_ne 33 dX6_isOf_26 (by decide) (fun c2 => ?_) (fun c2 => ?_)
    · have h := x_neg c2 h
      refine x_iconst 0 dX6_isOf_33 (by decide) ?_
      subst h
      exact x_ireturn dX6_isOf_34 rfl (x_is.rf _ _)
    · have h := x_pos c2 h
      refine x_iconst 1 dX6_isOf_29 (by decide) ?_
      refine x_goto 34 dX6_isOf_30 (by decide) ?_
      subst h
      exact x_ireturn dX6_isOf_34 rfl (x_is.rf _ _)
def M_X6_isOf (x0 : Int32) (x1 : Int32) : Int32 :=
  if x0 = x1 then
  ((1 : Int32))
  else
  (if x1 = 0 then
  ((1 : Int32))
  else
  (if x0 = (4 : Int32) then
  (if x1 = (1 : Int32) then
  ((1 : Int32))
  else
  (M_X6_isOf_b19 x0 x1))
  else
  (M_X6_isOf_b19 x0 x1)))
theorem M_X6_isOf_b {x0 : Int32} {x1 : Int32} : narrow .boolean (.int (M_X6_isOf x0 x1)) = .int (M_X6_isOf x0 x1) := by
  simp only [M_X6_isOf, M_X6_isOf_b19]
  repeat' split
  all_goals first | rfl
set_option maxHeartbeats 4000000 in
set_option maxRecDepth 100000 in
theorem c_X6_isOf {G : x_G} {l : Launch} {x0 : Int32} {x1 : Int32} {res : Int32} (h : M_X6_isOf x0 x1 = res) : x_M G l yX6_isOf cX6_isOf 2 (some .boolean) (0) 0 0 [.int x0, .int x1] ([] : va_W) (x_is (some (.int res)) ([] : va_W)) := by
  unfold M_X6_isOf at h
  refine x_enter (ini := false) (by decide) rfl (by decide) rfl (Nat.le_of_ble_eq_true rfl) ?_
  refine x_iload_n dX6_isOf_0 0 rfl rfl ?_
  refine x_iload_n dX6_isOf_1 1 rfl rfl ?_
  refine x_icmp_eq 29 dX6_isOf_2 (by decide) (fun c3 => ?_) (fun c3 => ?_)
  · have h := x_pos c3 h
    refine x_iconst 1 dX6_isOf_29 (by decide) ?_
    refine x_goto 34 dX6_isOf_30 (by decide) ?_
    subst h
    exact x_ireturn dX6_isOf_34 rfl (x_is.rf _ _)
  · have h := x_neg c3 h
    refine x_iload_n dX6_isOf_5 1 rfl rfl ?_
    refine x_if_eq 29 dX6_isOf_6 (by decide) (fun c4 => ?_) (fun c4 => ?_)
    · have h := x_pos c4 h
      refine x_iconst 1 dX6_isOf_29 (by decide) ?_
      refine x_goto 34 dX6_isOf_30 (by decide) ?_
      subst h
      exact x_ireturn dX6_isOf_34 rfl (x_is.rf _ _)
    · have h := x_neg c4 h
      refine x_iload_n dX6_isOf_9 0 rfl rfl ?_
      refine x_iconst 4 dX6_isOf_10 (by decide) ?_
      refine x_icmp_ne 19 dX6_isOf_11 (by decide) (fun c5 => ?_) (fun c5 => ?_)
      · have h := x_neg c5 h
        exact w_X6_isOf_b19  _ _ h
      · have h := x_pos c5 h
        refine x_iload_n dX6_isOf_14 1 rfl rfl ?_
        refine x_iconst 1 dX6_isOf_15 (by decide) ?_
        refine x_icmp_eq 29 dX6_isOf_16 (by decide) (fun c6 => ?_) (fun c6 => ?_)
        · have h := x_pos c6 h
          refine x_iconst 1 dX6_isOf_29 (by decide) ?_
          refine x_goto 34 dX6_isOf_30 (by decide) ?_
          subst h
          exact x_ireturn dX6_isOf_34 rfl (x_is.rf _ _)
        · have h := x_neg c6 h
          exact w_X6_isOf_b19  _ _ h
theorem pk_X2_countOf : x_pv RX2 yX2_countOf cX2_countOf 4 (some .int) 1 := ⟨⟨co_X2_countOf, ni_X2, by decide, by decide +kernel⟩, im_X2_countOf, se_X2_countOf⟩
def M_X2_countOf_b27 (ropes : Int32) (kinds : (Nat → Int32)) (k4 : Int32 → Int32 → Int32 → Option (Int32)) (x1 : Int32) (x2 : Int32) (x3 : Int32) : Option (Int32) :=
  k4 x1 x2 (x3 + (1 : Int32))
set_option maxHeartbeats 4000000 in
set_option maxRecDepth 100000 in
theorem w_X2_countOf_b27 {G : x_G} {l : Launch} {b : Nat → Nat} {ropes : Int32} {kinds : (Nat → Int32)} {acts : Int32} {start : Int64} {reached : Int32} {strengths : (Nat → Int32)} {moved : (Nat → Int32)} {needs : (Nat → Int32)} {forbids : (Nat → Int32)} {k4 : Int32 → Int32 → Int32 → Option (Int32)} {res : Int32} (hk4 : ∀ (x1 : Int32) (x2 : Int32) (x3 : Int32), k4 x1 x2 x3 = some res → X G l RX2 cX2_countOf 4 (x_R 2 0 0) (x_Cm G (some .int) false (x_is (some (.int res)) (WRig G b ropes acts start reached kinds strengths moved needs forbids)) 0 0) 0 0 4 [(0, .ref (b 0)), (1, .int x1), (2, .int x2), (3, .int x3)] [] (WRig G b ropes acts start reached kinds strengths moved needs forbids)) (x1 : Int32) (x2 : Int32) (x3 : Int32) (h : M_X2_countOf_b27 ropes kinds k4 x1 x2 x3 = some res) : X G l RX2 cX2_countOf 4 (x_R 2 0 0) (x_Cm G (some .int) false (x_is (some (.int res)) (WRig G b ropes acts start reached kinds strengths moved needs forbids)) 0 0) 0 0 27 [(0, .ref (b 0)), (1, .int x1), (2, .int x2), (3, .int x3)] [] (WRig G b ropes acts start reached kinds strengths moved needs forbids) := by
  unfold M_X2_countOf_b27 at h
  refine x_iinc (j := 3) (1 : Int32) [(3, .int (x3 + (1 : Int32))), (0, .ref (b 0)), (1, .int x1), (2, .int x2)] dX2_countOf_27 (by decide) rfl (by decide) rfl ?_
  refine x_goto 4 dX2_countOf_30 (by decide) ?_
  refine x_lv [1, 2, 3, 0] rfl ?_
  exact hk4 _ _ _ h
def M_X2_countOf_b4 (ropes : Int32) (kinds : (Nat → Int32)) : Nat → Int32 → Int32 → Int32 → Option (Int32)
  | 0, _, _, _ => none
  | n + 1, x1, x2, x3 =>
    if ropes ≤ x3 then
    (some (x2))
    else
    ((M_X2_kind ropes kinds x3).bind fun r2 =>
    if (M_X6_isOf r2 x1) = 0 then
    (M_X2_countOf_b27 ropes kinds (fun (x1' : Int32) (x2' : Int32) (x3' : Int32) => M_X2_countOf_b4 ropes kinds n x1' x2' x3') x1 x2 x3)
    else
    (M_X2_countOf_b27 ropes kinds (fun (x1' : Int32) (x2' : Int32) (x3' : Int32) => M_X2_countOf_b4 ropes kinds n x1' x2' x3') x1 (x2 + (1 : Int32)) x3))
set_option maxHeartbeats 4000000 in
set_option maxRecDepth 100000 in
theorem w_X2_countOf_b4 {G : x_G} {l : Launch} {b : Nat → Nat} {ropes : Int32} {kinds : (Nat → Int32)} {acts : Int32} {start : Int64} {reached : Int32} {strengths : (Nat → Int32)} {moved : (Nat → Int32)} {needs : (Nat → Int32)} {forbids : (Nat → Int32)} {res : Int32} : ∀ (n : Nat) (x1 : Int32) (x2 : Int32) (x3 : Int32), M_X2_countOf_b4 ropes kinds n x1 x2 x3 = some res → X G l RX2 cX2_countOf 4 (x_R 2 0 0) (x_Cm G (some .int) false (x_is (some (.int res)) (WRig G b ropes acts start reached kinds strengths moved needs forbids)) 0 0) 0 0 4 [(0, .ref (b 0)), (1, .int x1), (2, .int x2), (3, .int x3)] [] (WRig G b ropes acts start reached kinds strengths moved needs forbids) := by
  intro n
  induction n with
  | zero =>
    intro _ _ _ h
    cases h
  | succ n ih =>
    intro x1 x2 x3 h
    rw [M_X2_countOf_b4] at h
    refine x_iload_n dX2_countOf_4 3 rfl rfl ?_
    refine x_aload_n dX2_countOf_5 0 rfl rfl ?_
    refine x_get (ci := 2) 0 0 dX2_countOf_6 fl_X2_9 inX2 rfl (by decide) ⟨rfl, rfl, rfl⟩ rfl rfl ?_
    refine x_icmp_ge 33 dX2_countOf_9 (by decide) (fun c1 => ?_) (fun c1 => ?_)
    · have h := x_pos c1 h
      refine x_iload_n dX2_countOf_33 2 rfl rfl ?_
      cases h
      exact x_ireturn dX2_countOf_34 rfl (x_is.rf _ _)
    · have h := x_neg c1 h
      refine x_aload_n dX2_countOf_12 0 rfl rfl ?_
      refine x_iload_n dX2_countOf_13 3 rfl rfl ?_
      obtain ⟨r2, e3, h⟩ := x_bind h
      refine x_cV (As := [.int x3]) (wc := (WRig G b ropes acts start reached kinds strengths moved needs forbids)) (w1 := (WRig G b ropes acts start reached kinds strengths moved needs forbids)) (pre := []) (post := []) (rest := []) (st1 := [.int r2]) (ws1 := (WRig G b ropes acts start reached kinds strengths moved needs forbids)) (ci := 2) 0 dX2_countOf_14 (c_X2_kind (b := b) e3) pk_X2_kind ml_X2_51 (x_full _) rfl rfl rfl rfl rfl rfl rfl rfl (x_full _).symm ?_
      refine x_iload_n dX2_countOf_17 1 rfl rfl ?_
      refine x_cSN (As := [.int r2, .int x1]) (wc := ([] : va_W)) (w1 := ([] : va_W)) (pre := []) (post := (WRig G b ropes acts start reached kinds strengths moved needs forbids)) (rest := []) (st1 := [.int (M_X6_isOf r2 x1)]) (ws1 := (WRig G b ropes acts start reached kinds strengths moved needs forbids)) dX2_countOf_18 (c_X6_isOf rfl) pk_X6_isOf (fun s hs => hs.2.2.2.1) rfl rfl rfl rfl rfl rfl rfl ?_
      refine x_if_eq 27 dX2_countOf_21 (by decide) (fun c4 => ?_) (fun c4 => ?_)
      · have h := x_pos c4 h
        exact w_X2_countOf_b27 (fun x1' x2' x3' h => ih x1' x2' x3' h) _ _ _ h
      · have h := x_neg c4 h
        refine x_iinc (j := 2) (1 : Int32) [(2, .int (x2 + (1 : Int32))), (0, .ref (b 0)), (1, .int x1), (3, .int x3)] dX2_countOf_24 (by decide) rfl (by decide) rfl ?_
        refine x_lv [1, 2, 0, 3] rfl ?_
        exact w_X2_countOf_b27 (fun x1' x2' x3' h => ih x1' x2' x3' h) _ _ _ h
def M_X2_countOf (ropes : Int32) (kinds : (Nat → Int32)) (x1 : Int32) : Option (Int32) :=
  M_X2_countOf_b4 ropes kinds x_fuel x1 (0 : Int32) (0 : Int32)
set_option maxHeartbeats 4000000 in
set_option maxRecDepth 100000 in
theorem c_X2_countOf {G : x_G} {l : Launch} {b : Nat → Nat} {ropes : Int32} {kinds : (Nat → Int32)} {acts : Int32} {start : Int64} {reached : Int32} {strengths : (Nat → Int32)} {moved : (Nat → Int32)} {needs : (Nat → Int32)} {forbids : (Nat → Int32)} {x1 : Int32} {res : Int32} (h : M_X2_countOf ropes kinds x1 = some res) : x_M G l yX2_countOf cX2_countOf 4 (some .int) (2) 0 0 [.ref (b 0), .int x1] (WRig G b ropes acts start reached kinds strengths moved needs forbids) (x_is (some (.int res)) (WRig G b ropes acts start reached kinds strengths moved needs forbids)) := by
  unfold M_X2_countOf at h
  refine x_enter (ini := false) (by decide) rfl (by decide) rfl (Nat.le_of_ble_eq_true rfl) ?_
  refine x_iconst 0 dX2_countOf_0 (by decide) ?_
  refine x_istore_n [(2, .int (0 : Int32)), (0, .ref (b 0)), (1, .int x1)] dX2_countOf_1 rfl (by decide) rfl ?_
  refine x_iconst 0 dX2_countOf_2 (by decide) ?_
  refine x_istore_n [(3, .int (0 : Int32)), (2, .int (0 : Int32)), (0, .ref (b 0)), (1, .int x1)] dX2_countOf_3 rfl (by decide) rfl ?_
  refine x_lv [2, 3, 1, 0] rfl ?_
  exact w_X2_countOf_b4  _ _ _ _ h
theorem pk_X6_firstParted : x_ps yX6_firstParted cX6_firstParted 5 (some .int) 2 := ⟨⟨co_X6_firstParted, ni_X6, by decide, by decide +kernel⟩, sm_X6_firstParted⟩
def M_X6_firstParted (x0 : Int64) (x2 : Int64) : Int32 :=
  if ((M_X5_parted x2) &&& ((M_X5_parted x0) ^^^ (-1 : Int32))) = 0 then
  ((-9 : Int32))
  else
  ((M_J6_numberOfTrailingZeros_0f7a4 ((M_X5_parted x2) &&& ((M_X5_parted x0) ^^^ (-1 : Int32)))))
set_option maxHeartbeats 4000000 in
set_option maxRecDepth 100000 in
theorem c_X6_firstParted {G : x_G} {l : Launch} {x0 : Int64} {x2 : Int64} {res : Int32} (h : M_X6_firstParted x0 x2 = res) : x_M G l yX6_firstParted cX6_firstParted 5 (some .int) (1) 0 0 [.long x0, .long x2] ([] : va_W) (x_is (some (.int res)) ([] : va_W)) := by
  unfold M_X6_firstParted at h
  refine x_enter (ini := false) (by decide) rfl (by decide) rfl (Nat.le_of_ble_eq_true rfl) ?_
  refine x_lload_n dX6_firstParted_0 1 rfl rfl ?_
  refine x_cS (As := [.long x2]) (wc := ([] : va_W)) (w1 := ([] : va_W)) (pre := []) (post := ([] : va_W)) (rest := []) (st1 := [.int (M_X5_parted x2)]) (ws1 := ([] : va_W)) dX6_firstParted_1 (c_X5_parted rfl) pk_X5_parted ml_X6_212 rfl rfl rfl rfl rfl rfl rfl ?_
  refine x_lload_n dX6_firstParted_4 0 rfl rfl ?_
  refine x_cS (As := [.long x0]) (wc := ([] : va_W)) (w1 := ([] : va_W)) (pre := []) (post := ([] : va_W)) (rest := [.int (M_X5_parted x2)]) (st1 := [.int (M_X5_parted x0), .int (M_X5_parted x2)]) (ws1 := ([] : va_W)) dX6_firstParted_5 (c_X5_parted rfl) pk_X5_parted ml_X6_212 rfl rfl rfl rfl rfl rfl rfl ?_
  refine x_iconst (-1 : Int32) dX6_firstParted_8 (by decide) ?_
  refine x_ixor dX6_firstParted_9 ?_
  refine x_iand dX6_firstParted_10 ?_
  refine x_istore [(4, .int ((M_X5_parted x2) &&& ((M_X5_parted x0) ^^^ (-1 : Int32)))), (0, .long x0), (2, .long x2)] dX6_firstParted_11 (by decide) rfl ?_
  refine x_iload dX6_firstParted_13 0 rfl ?_
  refine x_if_ne 23 dX6_firstParted_15 (by decide) (fun c1 => ?_) (fun c1 => ?_)
  · have h := x_neg c1 h
    refine x_iload dX6_firstParted_23 0 rfl ?_
    refine x_cS (As := [.int ((M_X5_parted x2) &&& ((M_X5_parted x0) ^^^ (-1 : Int32)))]) (wc := ([] : va_W)) (w1 := ([] : va_W)) (pre := []) (post := ([] : va_W)) (rest := []) (st1 := [.int (M_J6_numberOfTrailingZeros_0f7a4 ((M_X5_parted x2) &&& ((M_X5_parted x0) ^^^ (-1 : Int32))))]) (ws1 := ([] : va_W)) dX6_firstParted_25 (c_J6_numberOfTrailingZeros_0f7a4 rfl) pk_J6_numberOfTrailingZeros_0f7a4 ml_X6_337 rfl rfl rfl rfl rfl rfl rfl ?_
    subst h
    exact x_ireturn dX6_firstParted_28 rfl (x_is.rf _ _)
  · have h := x_pos c1 h
    refine x_bipush (-9 : Int32) dX6_firstParted_18 (by decide) ?_
    refine x_goto 28 dX6_firstParted_20 (by decide) ?_
    subst h
    exact x_ireturn dX6_firstParted_28 rfl (x_is.rf _ _)
theorem pk_X6_greatestPart : x_ps yX6_greatestPart cX6_greatestPart 6 (some .int) 2 := ⟨⟨co_X6_greatestPart, ni_X6, by decide, by decide +kernel⟩, sm_X6_greatestPart⟩
def M_X6_greatestPart_b49 (k4 : Int32 → Int32 → Int32 → Int32 → Option (Int32)) (k16 : Int32 → Int32 → Int32 → Int32 → Int32 → Int32 → Option (Int32)) (x0 : Int32) (x1 : Int32) (x2 : Int32) (x3 : Int32) (x4 : Int32) (x5 : Int32) : Option (Int32) :=
  k16 x0 x1 x2 x3 x4 (x5 + (1 : Int32))
set_option maxHeartbeats 4000000 in
set_option maxRecDepth 100000 in
theorem w_X6_greatestPart_b49 {G : x_G} {l : Launch} {k4 : Int32 → Int32 → Int32 → Int32 → Option (Int32)} {k16 : Int32 → Int32 → Int32 → Int32 → Int32 → Int32 → Option (Int32)} {res : Int32} (hk4 : ∀ (x0 : Int32) (x1 : Int32) (x2 : Int32) (x3 : Int32), k4 x0 x1 x2 x3 = some res → X G l RX6 cX6_greatestPart 6 (x_R 2 0 0) (x_Cm G (some .int) false (x_is (some (.int res)) ([] : va_W)) 0 0) 0 0 4 [(0, .int x0), (1, .int x1), (2, .int x2), (3, .int x3)] [] ([] : va_W)) (hk16 : ∀ (x0 : Int32) (x1 : Int32) (x2 : Int32) (x3 : Int32) (x4 : Int32) (x5 : Int32), k16 x0 x1 x2 x3 x4 x5 = some res → X G l RX6 cX6_greatestPart 6 (x_R 2 0 0) (x_Cm G (some .int) false (x_is (some (.int res)) ([] : va_W)) 0 0) 0 0 16 [(0, .int x0), (1, .int x1), (2, .int x2), (3, .int x3), (4, .int x4), (5, .int x5)] [] ([] : va_W)) (x0 : Int32) (x1 : Int32) (x2 : Int32) (x3 : Int32) (x4 : Int32) (x5 : Int32) (h : M_X6_greatestPart_b49 k4 k16 x0 x1 x2 x3 x4 x5 = some res) : X G l RX6 cX6_greatestPart 6 (x_R 2 0 0) (x_Cm G (some .int) false (x_is (some (.int res)) ([] : va_W)) 0 0) 0 0 49 [(0, .int x0), (1, .int x1), (2, .int x2), (3, .int x3), (4, .int x4), (5, .int x5)] [] ([] : va_W) := by
  unfold M_X6_greatestPart_b49 at h
  refine x_iinc (j := 5) (1 : Int32) [(5, .int (x5 + (1 : Int32))), (0, .int x0), (1, .int x1), (2, .int x2), (3, .int x3), (4, .int x4)] dX6_greatestPart_49 (by decide) rfl (by decide) rfl ?_
  refine x_goto 16 dX6_greatestPart_52 (by decide) ?_
  refine x_lv [1, 2, 3, 4, 5, 0] rfl ?_
  exact hk16 _ _ _ _ _ _ h
def M_X6_greatestPart_b16 (k4 : Int32 → Int32 → Int32 → Int32 → Option (Int32)) : Nat → Int32 → Int32 → Int32 → Int32 → Int32 → Int32 → Option (Int32)
  | 0, _, _, _, _, _, _ => none
  | n + 1, x0, x1, x2, x3, x4, x5 =>
    if (6 : Int32) ≤ x5 then
    (k4 x0 x1 (M_J9_max_7cf53 x2 x4) (x3 + (1 : Int32)))
    else
    (if ((x0 >>> (x5 &&& (31 : Int32))) &&& (1 : Int32)) = 0 then
    (M_X6_greatestPart_b49 k4 (fun (x0' : Int32) (x1' : Int32) (x2' : Int32) (x3' : Int32) (x4' : Int32) (x5' : Int32) => M_X6_greatestPart_b16 k4 n x0' x1' x2' x3' x4' x5') x0 x1 x2 x3 x4 x5)
    else
    (if (M_X6_passed x5 x1) = (M_X6_passed x3 x1) then
    (M_X6_greatestPart_b49 k4 (fun (x0' : Int32) (x1' : Int32) (x2' : Int32) (x3' : Int32) (x4' : Int32) (x5' : Int32) => M_X6_greatestPart_b16 k4 n x0' x1' x2' x3' x4' x5') x0 x1 x2 x3 (x4 + (1 : Int32)) x5)
    else
    (M_X6_greatestPart_b49 k4 (fun (x0' : Int32) (x1' : Int32) (x2' : Int32) (x3' : Int32) (x4' : Int32) (x5' : Int32) => M_X6_greatestPart_b16 k4 n x0' x1' x2' x3' x4' x5') x0 x1 x2 x3 x4 x5)))
set_option maxHeartbeats 4000000 in
set_option maxRecDepth 100000 in
theorem w_X6_greatestPart_b16 {G : x_G} {l : Launch} {k4 : Int32 → Int32 → Int32 → Int32 → Option (Int32)} {res : Int32} (hk4 : ∀ (x0 : Int32) (x1 : Int32) (x2 : Int32) (x3 : Int32), k4 x0 x1 x2 x3 = some res → X G l RX6 cX6_greatestPart 6 (x_R 2 0 0) (x_Cm G (some .int) false (x_is (some (.int res)) ([] : va_W)) 0 0) 0 0 4 [(0, .int x0), (1, .int x1), (2, .int x2), (3, .int x3)] [] ([] : va_W)) : ∀ (n : Nat) (x0 : Int32) (x1 : Int32) (x2 : Int32) (x3 : Int32) (x4 : Int32) (x5 : Int32), M_X6_greatestPart_b16 k4 n x0 x1 x2 x3 x4 x5 = some res → X G l RX6 cX6_greatestPart 6 (x_R 2 0 0) (x_Cm G (some .int) false (x_is (some (.int res)) ([] : va_W)) 0 0) 0 0 16 [(0, .int x0), (1, .int x1), (2, .int x2), (3, .int x3), (4, .int x4), (5, .int x5)] [] ([] : va_W) := by
  intro n
  induction n with
  | zero =>
    intro _ _ _ _ _ _ h
    cases h
  | succ n ih =>
    intro x0 x1 x2 x3 x4 x5 h
    rw [M_X6_greatestPart_b16] at h
    refine x_iload dX6_greatestPart_16 5 rfl ?_
    refine x_bipush 6 dX6_greatestPart_18 (by decide) ?_
    refine x_icmp_ge 55 dX6_greatestPart_20 (by decide) (fun c2 => ?_) (fun c2 => ?_)
    · have h := x_pos c2 h
      refine x_iload_n dX6_greatestPart_55 2 rfl rfl ?_
      refine x_iload dX6_greatestPart_56 4 rfl ?_
      refine x_cS (As := [.int x2, .int x4]) (wc := ([] : va_W)) (w1 := ([] : va_W)) (pre := []) (post := ([] : va_W)) (rest := []) (st1 := [.int (M_J9_max_7cf53 x2 x4)]) (ws1 := ([] : va_W)) dX6_greatestPart_58 (c_J9_max_7cf53 rfl) pk_J9_max_7cf53 ml_X6_343 rfl rfl rfl rfl rfl rfl rfl ?_
      refine x_istore_n [(2, .int (M_J9_max_7cf53 x2 x4)), (0, .int x0), (1, .int x1), (3, .int x3), (4, .int x4), (5, .int x5)] dX6_greatestPart_61 rfl (by decide) rfl ?_
      refine x_iinc (j := 3) (1 : Int32) [(3, .int (x3 + (1 : Int32))), (2, .int (M_J9_max_7cf53 x2 x4)), (0, .int x0), (1, .int x1), (4, .int x4), (5, .int x5)] dX6_greatestPart_62 (by decide) rfl (by decide) rfl ?_
      refine x_goto 4 dX6_greatestPart_65 (by decide) ?_
      refine x_lv [2, 3, 1, 0] rfl ?_
      exact hk4 _ _ _ _ h
    · have h := x_neg c2 h
      refine x_iload_n dX6_greatestPart_23 0 rfl rfl ?_
      refine x_iload dX6_greatestPart_24 5 rfl ?_
      refine x_ishr dX6_greatestPart_26 ?_
      refine x_iconst 1 dX6_greatestPart_27 (by decide) ?_
      refine x_iand dX6_greatestPart_28 ?_
      refine x_if_eq 49 dX6_greatestPart_29 (by decide) (fun c3 => ?_) (fun c3 => ?_)
      · have h := x_pos c3 h
        exact w_X6_greatestPart_b49 hk4 (fun x0' x1' x2' x3' x4' x5' h => ih x0' x1' x2' x3' x4' x5' h) _ _ _ _ _ _ h
      · have h := x_neg c3 h
        refine x_iload dX6_greatestPart_32 5 rfl ?_
        refine x_iload_n dX6_greatestPart_34 1 rfl rfl ?_
        refine x_cS (As := [.int x5, .int x1]) (wc := ([] : va_W)) (w1 := ([] : va_W)) (pre := []) (post := ([] : va_W)) (rest := []) (st1 := [.int (M_X6_passed x5 x1)]) (ws1 := ([] : va_W)) dX6_greatestPart_35 (c_X6_passed rfl) pk_X6_passed ml_X6_163 rfl rfl rfl rfl rfl rfl rfl ?_
        refine x_iload_n dX6_greatestPart_38 3 rfl rfl ?_
        refine x_iload_n dX6_greatestPart_39 1 rfl rfl ?_
        refine x_cS (As := [.int x3, .int x1]) (wc := ([] : va_W)) (w1 := ([] : va_W)) (pre := []) (post := ([] : va_W)) (rest := [.int (M_X6_passed x5 x1)]) (st1 := [.int (M_X6_passed x3 x1), .int (M_X6_passed x5 x1)]) (ws1 := ([] : va_W)) dX6_greatestPart_40 (c_X6_passed rfl) pk_X6_passed ml_X6_163 rfl rfl rfl rfl rfl rfl rfl ?_
        refine x_icmp_ne 49 dX6_greatestPart_43 (by decide) (fun c4 => ?_) (fun c4 => ?_)
        · have h := x_neg c4 h
          exact w_X6_greatestPart_b49 hk4 (fun x0' x1' x2' x3' x4' x5' h => ih x0' x1' x2' x3' x4' x5' h) _ _ _ _ _ _ h
        · have h := x_pos c4 h
          refine x_iinc (j := 4) (1 : Int32) [(4, .int (x4 + (1 : Int32))), (0, .int x0), (1, .int x1), (2, .int x2), (3, .int x3), (5, .int x5)] dX6_greatestPart_46 (by decide) rfl (by decide) rfl ?_
          refine x_lv [1, 2, 3, 4, 0, 5] rfl ?_
          exact w_X6_greatestPart_b49 hk4 (fun x0' x1' x2' x3' x4' x5' h => ih x0' x1' x2' x3' x4' x5' h) _ _ _ _ _ _ h
def M_X6_greatestPart_b4 : Nat → Int32 → Int32 → Int32 → Int32 → Option (Int32)
  | 0, _, _, _, _ => none
  | n + 1, x0, x1, x2, x3 =>
    if (6 : Int32) ≤ x3 then
    (some (x2))
    else
    (M_X6_greatestPart_b16 (fun (x0' : Int32) (x1' : Int32) (x2' : Int32) (x3' : Int32) => M_X6_greatestPart_b4 n x0' x1' x2' x3') x_fuel x0 x1 x2 x3 (0 : Int32) (0 : Int32))
set_option maxHeartbeats 4000000 in
set_option maxRecDepth 100000 in
theorem w_X6_greatestPart_b4 {G : x_G} {l : Launch} {res : Int32} : ∀ (n : Nat) (x0 : Int32) (x1 : Int32) (x2 : Int32) (x3 : Int32), M_X6_greatestPart_b4 n x0 x1 x2 x3 = some res → X G l RX6 cX6_greatestPart 6 (x_R 2 0 0) (x_Cm G (some .int) false (x_is (some (.int res)) ([] : va_W)) 0 0) 0 0 4 [(0, .int x0), (1, .int x1), (2, .int x2), (3, .int x3)] [] ([] : va_W) := by
  intro n
  induction n with
  | zero =>
    intro _ _ _ _ h
    cases h
  | succ n ih =>
    intro x0 x1 x2 x3 h
    rw [M_X6_greatestPart_b4] at h
    refine x_iload_n dX6_greatestPart_4 3 rfl rfl ?_
    refine x_bipush 6 dX6_greatestPart_5 (by decide) ?_
    refine x_icmp_ge 68 dX6_greatestPart_7 (by decide) (fun c1 => ?_) (fun c1 => ?_)
    · have h := x_pos c1 h
      refine x_iload_n dX6_greatestPart_68 2 rfl rfl ?_
      cases h
      exact x_ireturn dX6_greatestPart_69 rfl (x_is.rf _ _)
    · have h := x_neg c1 h
      refine x_iconst 0 dX6_greatestPart_10 (by decide) ?_
      refine x_istore [(4, .int (0 : Int32)), (0, .int x0), (1, .int x1), (2, .int x2), (3, .int x3)] dX6_greatestPart_11 (by decide) rfl ?_
      refine x_iconst 0 dX6_greatestPart_13 (by decide) ?_
      refine x_istore [(5, .int (0 : Int32)), (4, .int (0 : Int32)), (0, .int x0), (1, .int x1), (2, .int x2), (3, .int x3)] dX6_greatestPart_14 (by decide) rfl ?_
      refine x_lv [2, 3, 4, 5, 1, 0] rfl ?_
      exact w_X6_greatestPart_b16 (fun x0' x1' x2' x3' h => ih x0' x1' x2' x3' h) _ _ _ _ _ _ _ h
def M_X6_greatestPart (x0 : Int32) (x1 : Int32) : Option (Int32) :=
  M_X6_greatestPart_b4 x_fuel x0 x1 (0 : Int32) (0 : Int32)
set_option maxHeartbeats 4000000 in
set_option maxRecDepth 100000 in
theorem c_X6_greatestPart {G : x_G} {l : Launch} {x0 : Int32} {x1 : Int32} {res : Int32} (h : M_X6_greatestPart x0 x1 = some res) : x_M G l yX6_greatestPart cX6_greatestPart 6 (some .int) (2) 0 0 [.int x0, .int x1] ([] : va_W) (x_is (some (.int res)) ([] : va_W)) := by
  unfold M_X6_greatestPart at h
  refine x_enter (ini := false) (by decide) rfl (by decide) rfl (Nat.le_of_ble_eq_true rfl) ?_
  refine x_iconst 0 dX6_greatestPart_0 (by decide) ?_
  refine x_istore_n [(2, .int (0 : Int32)), (0, .int x0), (1, .int x1)] dX6_greatestPart_1 rfl (by decide) rfl ?_
  refine x_iconst 0 dX6_greatestPart_2 (by decide) ?_
  refine x_istore_n [(3, .int (0 : Int32)), (2, .int (0 : Int32)), (0, .int x0), (1, .int x1)] dX6_greatestPart_3 rfl (by decide) rfl ?_
  refine x_lv [2, 3, 1, 0] rfl ?_
  exact w_X6_greatestPart_b4  _ _ _ _ _ h
theorem pk_X6_power : x_ps yX6_power cX6_power 5 (some .long) 2 := ⟨⟨co_X6_power, ni_X6, by decide, by decide +kernel⟩, sm_X6_power⟩
def M_X6_power_b5 : Nat → Int32 → Int32 → Int64 → Int32 → Option (Int64)
  | 0, _, _, _, _ => none
  | n + 1, x0, x1, x2, x4 =>
    if x1 ≤ x4 then
    (some (x2))
    else
    (M_X6_power_b5 n x0 x1 (x2 * x0.toInt64) (x4 + (1 : Int32)))
set_option maxHeartbeats 4000000 in
set_option maxRecDepth 100000 in
theorem w_X6_power_b5 {G : x_G} {l : Launch} {res : Int64} : ∀ (n : Nat) (x0 : Int32) (x1 : Int32) (x2 : Int64) (x4 : Int32), M_X6_power_b5 n x0 x1 x2 x4 = some res → X G l RX6 cX6_power 5 (x_R 0 0 0) (x_Cm G (some .long) false (x_is (some (.long res)) ([] : va_W)) 0 0) 0 0 5 [(0, .int x0), (1, .int x1), (2, .long x2), (4, .int x4)] [] ([] : va_W) := by
  intro n
  induction n with
  | zero =>
    intro _ _ _ _ h
    cases h
  | succ n ih =>
    intro x0 x1 x2 x4 h
    rw [M_X6_power_b5] at h
    refine x_iload dX6_power_5 3 rfl ?_
    refine x_iload_n dX6_power_7 1 rfl rfl ?_
    refine x_icmp_ge 22 dX6_power_8 (by decide) (fun c1 => ?_) (fun c1 => ?_)
    · have h := x_pos c1 h
      refine x_lload_n dX6_power_22 2 rfl rfl ?_
      cases h
      exact x_lreturn dX6_power_23 (x_is.rf _ _)
    · have h := x_neg c1 h
      refine x_lload_n dX6_power_11 2 rfl rfl ?_
      refine x_iload_n dX6_power_12 0 rfl rfl ?_
      refine x_i2l dX6_power_13 ?_
      refine x_lmul dX6_power_14 ?_
      refine x_lstore_n [(2, .long (x2 * x0.toInt64)), (0, .int x0), (1, .int x1), (4, .int x4)] dX6_power_15 rfl (by decide) rfl ?_
      refine x_iinc (j := 3) (1 : Int32) [(4, .int (x4 + (1 : Int32))), (2, .long (x2 * x0.toInt64)), (0, .int x0), (1, .int x1)] dX6_power_16 (by decide) rfl (by decide) rfl ?_
      refine x_goto 5 dX6_power_19 (by decide) ?_
      refine x_lv [2, 3, 1, 0] rfl ?_
      exact ih _ _ _ _ h
def M_X6_power (x0 : Int32) (x1 : Int32) : Option (Int64) :=
  M_X6_power_b5 x_fuel x0 x1 (1 : Int64) (0 : Int32)
set_option maxHeartbeats 4000000 in
set_option maxRecDepth 100000 in
theorem c_X6_power {G : x_G} {l : Launch} {x0 : Int32} {x1 : Int32} {res : Int64} (h : M_X6_power x0 x1 = some res) : x_M G l yX6_power cX6_power 5 (some .long) (0) 0 0 [.int x0, .int x1] ([] : va_W) (x_is (some (.long res)) ([] : va_W)) := by
  unfold M_X6_power at h
  refine x_enter (ini := false) (by decide) rfl (by decide) rfl (Nat.le_of_ble_eq_true rfl) ?_
  refine x_lconst 1 dX6_power_0 (by decide) ?_
  refine x_lstore_n [(2, .long (1 : Int64)), (0, .int x0), (1, .int x1)] dX6_power_1 rfl (by decide) rfl ?_
  refine x_iconst 0 dX6_power_2 (by decide) ?_
  refine x_istore [(4, .int (0 : Int32)), (2, .long (1 : Int64)), (0, .int x0), (1, .int x1)] dX6_power_3 (by decide) rfl ?_
  refine x_lv [2, 3, 1, 0] rfl ?_
  exact w_X6_power_b5  _ _ _ _ _ h
theorem pk_X6_greatestDivisor : x_ps yX6_greatestDivisor cX6_greatestDivisor 11 (some .long) 2 := ⟨⟨co_X6_greatestDivisor, ni_X6, by decide, by decide +kernel⟩, sm_X6_greatestDivisor⟩
def M_X6_greatestDivisor_b9 : Nat → Int64 → Int64 → Int32 → Option (Int64)
  | 0, _, _, _ => none
  | n + 1, x4, x6, x8 =>
    if (200 : Int32) ≤ x8 then
    (some (x4))
    else
    (if (lg_cmp x6 (0 : Int64)) = 0 then
    (some (x4))
    else
    (if ¬ x6 = 0 then
    M_X6_greatestDivisor_b9 n x6 (x4 - x4 / x6 * x6) (x8 + (1 : Int32))
    else none))
set_option maxHeartbeats 4000000 in
set_option maxRecDepth 100000 in
theorem w_X6_greatestDivisor_b9 {G : x_G} {l : Launch} {res : Int64} : ∀ (n : Nat) (x4 : Int64) (x6 : Int64) (x8 : Int32), M_X6_greatestDivisor_b9 n x4 x6 x8 = some res → X G l RX6 cX6_greatestDivisor 11 (x_R 0 0 0) (x_Cm G (some .long) false (x_is (some (.long res)) ([] : va_W)) 0 0) 0 0 9 [(4, .long x4), (6, .long x6), (8, .int x8)] [] ([] : va_W) := by
  intro n
  induction n with
  | zero =>
    intro _ _ _ h
    cases h
  | succ n ih =>
    intro x4 x6 x8 h
    rw [M_X6_greatestDivisor_b9] at h
    refine x_iload dX6_greatestDivisor_9 2 rfl ?_
    refine x_sipush 200 dX6_greatestDivisor_11 (by decide) ?_
    refine x_icmp_ge 45 dX6_greatestDivisor_14 (by decide) (fun c1 => ?_) (fun c1 => ?_)
    · have h := x_pos c1 h
      refine x_lload dX6_greatestDivisor_45 0 rfl ?_
      cases h
      exact x_lreturn dX6_greatestDivisor_47 (x_is.rf _ _)
    · have h := x_neg c1 h
      refine x_lload dX6_greatestDivisor_17 1 rfl ?_
      refine x_lconst 0 dX6_greatestDivisor_19 (by decide) ?_
      refine x_lcmp dX6_greatestDivisor_20 ?_
      refine x_if_eq 45 dX6_greatestDivisor_21 (by decide) (fun c2 => ?_) (fun c2 => ?_)
      · have h := x_pos c2 h
        refine x_lload dX6_greatestDivisor_45 0 rfl ?_
        cases h
        exact x_lreturn dX6_greatestDivisor_47 (x_is.rf _ _)
      · have h := x_neg c2 h
        refine x_lload dX6_greatestDivisor_24 0 rfl ?_
        refine x_lload dX6_greatestDivisor_26 1 rfl ?_
        obtain ⟨b3, h⟩ := x_guard h
        refine x_lrem dX6_greatestDivisor_28 b3 ?_
        refine x_lstore [(9, .long (x4 - x4 / x6 * x6)), (4, .long x4), (6, .long x6), (8, .int x8)] dX6_greatestDivisor_29 (by decide) rfl ?_
        refine x_lload dX6_greatestDivisor_31 2 rfl ?_
        refine x_lstore [(4, .long x6), (9, .long (x4 - x4 / x6 * x6)), (6, .long x6), (8, .int x8)] dX6_greatestDivisor_33 (by decide) rfl ?_
        refine x_lload dX6_greatestDivisor_35 1 rfl ?_
        refine x_lstore [(6, .long (x4 - x4 / x6 * x6)), (4, .long x6), (9, .long (x4 - x4 / x6 * x6)), (8, .int x8)] dX6_greatestDivisor_37 (by decide) rfl ?_
        refine x_iinc (j := 3) (1 : Int32) [(8, .int (x8 + (1 : Int32))), (6, .long (x4 - x4 / x6 * x6)), (4, .long x6), (9, .long (x4 - x4 / x6 * x6))] dX6_greatestDivisor_39 (by decide) rfl (by decide) rfl ?_
        refine x_goto 9 dX6_greatestDivisor_42 (by decide) ?_
        refine x_lv [2, 1, 0] rfl ?_
        exact ih _ _ _ h
def M_X6_greatestDivisor (x0 : Int64) (x2 : Int64) : Option (Int64) :=
  M_X6_greatestDivisor_b9 x_fuel x0 x2 (0 : Int32)
set_option maxHeartbeats 4000000 in
set_option maxRecDepth 100000 in
theorem c_X6_greatestDivisor {G : x_G} {l : Launch} {x0 : Int64} {x2 : Int64} {res : Int64} (h : M_X6_greatestDivisor x0 x2 = some res) : x_M G l yX6_greatestDivisor cX6_greatestDivisor 11 (some .long) (0) 0 0 [.long x0, .long x2] ([] : va_W) (x_is (some (.long res)) ([] : va_W)) := by
  unfold M_X6_greatestDivisor at h
  refine x_enter (ini := false) (by decide) rfl (by decide) rfl (Nat.le_of_ble_eq_true rfl) ?_
  refine x_lload_n dX6_greatestDivisor_0 0 rfl rfl ?_
  refine x_lstore [(4, .long x0), (0, .long x0), (2, .long x2)] dX6_greatestDivisor_1 (by decide) rfl ?_
  refine x_lload_n dX6_greatestDivisor_3 2 rfl rfl ?_
  refine x_lstore [(6, .long x2), (4, .long x0), (0, .long x0), (2, .long x2)] dX6_greatestDivisor_4 (by decide) rfl ?_
  refine x_iconst 0 dX6_greatestDivisor_6 (by decide) ?_
  refine x_istore [(8, .int (0 : Int32)), (6, .long x2), (4, .long x0), (0, .long x0), (2, .long x2)] dX6_greatestDivisor_7 (by decide) rfl ?_
  refine x_lv [2, 1, 0] rfl ?_
  exact w_X6_greatestDivisor_b9  _ _ _ _ h
